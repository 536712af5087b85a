section Meth
variable {D : va_G} {l : Launch} {ad : Nat → Nat} {cI cJ cD cS : ClassId}
def C_JI_numberOfTrailingZeros_ (a0 : Int32) : Option (Int32) :=
nm ((a0 ^^^ (-1 : Int32)) &&& (a0 - (1 : Int32)) : Int32) fun x1 =>
if 0 < x1 then
(bd2 (if x1 ≤ (65536 : Int32) then
(some (x1, (1 : Int32)))
else
(nm ((1 : Int32) + (16 : Int32) : Int32) fun x47 =>
nm ((x1.toUInt32 >>> ((16 : Int32).toUInt32 &&& Int32.toUInt32 31)).toInt32 : Int32) fun x49 =>
some (x49, x47))) fun x5 x6 =>
bd2 (if x5 ≤ (256 : Int32) then
(some (x5, x6))
else
(nm (x6 + (8 : Int32) : Int32) fun x41 =>
nm ((x5.toUInt32 >>> ((8 : Int32).toUInt32 &&& Int32.toUInt32 31)).toInt32 : Int32) fun x43 =>
some (x43, x41))) fun x11 x12 =>
bd2 (if x11 ≤ (16 : Int32) then
(some (x11, x12))
else
(nm (x12 + (4 : Int32) : Int32) fun x35 =>
nm ((x11.toUInt32 >>> ((4 : Int32).toUInt32 &&& Int32.toUInt32 31)).toInt32 : Int32) fun x37 =>
some (x37, x35))) fun x17 x18 =>
bd2 (if x17 ≤ (4 : Int32) then
(some (x17, x18))
else
(nm (x18 + (2 : Int32) : Int32) fun x29 =>
nm ((x17.toUInt32 >>> ((2 : Int32).toUInt32 &&& Int32.toUInt32 31)).toInt32 : Int32) fun x31 =>
some (x31, x29))) fun x23 x24 =>
some (x24 + ((x23.toUInt32 >>> ((1 : Int32).toUInt32 &&& Int32.toUInt32 31)).toInt32)))
else
(some (x1 &&& (32 : Int32)))
set_option maxRecDepth 100000 in
set_option maxHeartbeats 4000000 in
theorem cC_JI_numberOfTrailingZeros_ (G : Nat → Nat → Int32) (E : Nat → Nat → Int64) (Dd : Nat → Nat → UInt64) (P : Nat → Option PRec) (Z : List PRec) (a0 : Int32) (rv : Int32)  (hf : C_JI_numberOfTrailingZeros_ a0 = some rv) : sMi D (cT cI cJ cD cS) (cW ad cI cJ cD cS) l yJ6_numberOfTrailingZeros_0f7a4 (ws1 yJ6_numberOfTrailingZeros_0f7a4 cJ6_numberOfTrailingZeros_0f7a4 2 (some .int)) ({ frames := 0, cells := 0, slots := 0, locals := 0 }) [.int a0] (G, E, Dd, P, Z) (rv, (G, E, Dd, P, Z)) := by
  unfold C_JI_numberOfTrailingZeros_ at hf
  refine sMi_of (by decide) (Nat.le_of_ble_eq_true rfl) ?_
  intro p e R s m args below meth c A Q ls H lo F hRf hRl I hl ret
  obtain ⟨hx, hb, hml, hown, hG⟩ := id F
  replace hl : lv_has ls 2 [(0, .int a0)] := hl
  refine lv_iload_n hx hb dJ6_numberOfTrailingZeros_0f7a4_0 rfl (lv_at hl 0 rfl) ?_
  refine lv_iconst (v := (-1 : Int32)) hx hb dJ6_numberOfTrailingZeros_0f7a4_1 (by decide) ?_
  refine lv_ixor hx hb dJ6_numberOfTrailingZeros_0f7a4_2 ?_
  refine lv_iload_n hx hb dJ6_numberOfTrailingZeros_0f7a4_3 rfl (lv_at hl 0 rfl) ?_
  refine lv_iconst (v := (1 : Int32)) hx hb dJ6_numberOfTrailingZeros_0f7a4_4 (by decide) ?_
  refine lv_isub hx hb dJ6_numberOfTrailingZeros_0f7a4_5 ?_
  refine lv_iand hx hb dJ6_numberOfTrailingZeros_0f7a4_6 ?_
  refine lv_topi (fun x1 ex1 => ?_)
  replace hf := nm_some ex1 hf
  refine lv_istore_n (lv' := [(0, .int x1)]) hx hb dJ6_numberOfTrailingZeros_0f7a4_7 rfl hl (by decide) rfl (fun ls_2 hl_2 => ?_)
  refine lv_iload_n hx hb dJ6_numberOfTrailingZeros_0f7a4_8 rfl (lv_at hl_2 0 rfl) ?_
  refine lv_if_gt (tgt := 17) hx hb dJ6_numberOfTrailingZeros_0f7a4_9 (by decide) (fun c52 => ?_) (fun c52 => ?_)
  · replace hf := (if_pos c52).symm.trans hf
    refine lv_iconst (v := (1 : Int32)) hx hb dJ6_numberOfTrailingZeros_0f7a4_17 (by decide) ?_
    refine lv_istore_n (lv' := [(1, .int (1 : Int32)), (0, .int x1)]) hx hb dJ6_numberOfTrailingZeros_0f7a4_18 rfl hl_2 (by decide) rfl (fun ls_3 hl_3 => ?_)
    refine lv_iload_n hx hb dJ6_numberOfTrailingZeros_0f7a4_19 rfl (lv_at hl_3 1 rfl) ?_
    refine lv_ldcw (v := (65536 : Int32)) hx hb hown (hG _ q698) dJ6_numberOfTrailingZeros_0f7a4_20 ?_
    obtain ⟨x5, x6, hv46, hf⟩ := bd2_some hf
    have J4 : ∀ (H : Heap) (locs : List Loc), sInv D (cT cI cJ cD cS) (cW ad cI cJ cD cS) A s H locs (G, E, Dd, P, Z) → ∀ (ls : Array Slot), lv_has ls 2 [(0, .int x5), (1, .int x6)] → W p l e R s m args below meth c H locs 0 0 Q (F0 m 34 ls []) := by
      intro H_7 lo_7 I_7 ls_8 hl_8
      refine lv_iload_n hx hb dJ6_numberOfTrailingZeros_0f7a4_34 rfl (lv_at hl_8 0 rfl) ?_
      refine lv_sipush (v := (256 : Int32)) hx hb dJ6_numberOfTrailingZeros_0f7a4_35 (by decide) ?_
      obtain ⟨x11, x12, hv40, hf⟩ := bd2_some hf
      have J10 : ∀ (H : Heap) (locs : List Loc), sInv D (cT cI cJ cD cS) (cW ad cI cJ cD cS) A s H locs (G, E, Dd, P, Z) → ∀ (ls : Array Slot), lv_has ls 2 [(0, .int x11), (1, .int x12)] → W p l e R s m args below meth c H locs 0 0 Q (F0 m 49 ls []) := by
        intro H_13 lo_13 I_13 ls_14 hl_14
        refine lv_iload_n hx hb dJ6_numberOfTrailingZeros_0f7a4_49 rfl (lv_at hl_14 0 rfl) ?_
        refine lv_bipush (v := (16 : Int32)) hx hb dJ6_numberOfTrailingZeros_0f7a4_50 (by decide) ?_
        obtain ⟨x17, x18, hv34, hf⟩ := bd2_some hf
        have J16 : ∀ (H : Heap) (locs : List Loc), sInv D (cT cI cJ cD cS) (cW ad cI cJ cD cS) A s H locs (G, E, Dd, P, Z) → ∀ (ls : Array Slot), lv_has ls 2 [(0, .int x17), (1, .int x18)] → W p l e R s m args below meth c H locs 0 0 Q (F0 m 62 ls []) := by
          intro H_19 lo_19 I_19 ls_20 hl_20
          refine lv_iload_n hx hb dJ6_numberOfTrailingZeros_0f7a4_62 rfl (lv_at hl_20 0 rfl) ?_
          refine lv_iconst (v := (4 : Int32)) hx hb dJ6_numberOfTrailingZeros_0f7a4_63 (by decide) ?_
          obtain ⟨x23, x24, hv28, hf⟩ := bd2_some hf
          have J22 : ∀ (H : Heap) (locs : List Loc), sInv D (cT cI cJ cD cS) (cW ad cI cJ cD cS) A s H locs (G, E, Dd, P, Z) → ∀ (ls : Array Slot), lv_has ls 2 [(0, .int x23), (1, .int x24)] → W p l e R s m args below meth c H locs 0 0 Q (F0 m 74 ls []) := by
            intro H_25 lo_25 I_25 ls_26 hl_26
            refine lv_iload_n hx hb dJ6_numberOfTrailingZeros_0f7a4_74 rfl (lv_at hl_26 1 rfl) ?_
            refine lv_iload_n hx hb dJ6_numberOfTrailingZeros_0f7a4_75 rfl (lv_at hl_26 0 rfl) ?_
            refine lv_iconst (v := (1 : Int32)) hx hb dJ6_numberOfTrailingZeros_0f7a4_76 (by decide) ?_
            refine lv_iushr hx hb dJ6_numberOfTrailingZeros_0f7a4_77 rfl ?_
            refine lv_iadd hx hb dJ6_numberOfTrailingZeros_0f7a4_78 ?_
            cases hf
            exact ret H_25 lo_25 _ ls_26 I_25 dJ6_numberOfTrailingZeros_0f7a4_79
          replace hf := hv28
          refine lv_icmp_le (tgt := 74) hx hb dJ6_numberOfTrailingZeros_0f7a4_64 (by decide) (fun c33 => ?_) (fun c33 => ?_)
          · replace hf := (if_pos c33).symm.trans hf
            cases hf
            exact J22 H_19 lo_19 I_19 ls_20 (lv_sub hl_20 [0, 1] rfl)
          · replace hf := (if_neg c33).symm.trans hf
            obtain ⟨x29, ex29⟩ : ∃ y : Int32, y = x18 + (2 : Int32) := ⟨_, rfl⟩
            replace hf := nm_some ex29 hf
            refine lv_iinc (v := x29) (lv' := [(1, .int x29), (0, .int x17)]) hx hb dJ6_numberOfTrailingZeros_0f7a4_67 hl_20 (k := 1) rfl (by rw [ex29]; rfl) (by decide) rfl (fun ls_30 hl_30 => ?_)
            refine lv_iload_n hx hb dJ6_numberOfTrailingZeros_0f7a4_70 rfl (lv_at hl_30 1 rfl) ?_
            refine lv_iconst (v := (2 : Int32)) hx hb dJ6_numberOfTrailingZeros_0f7a4_71 (by decide) ?_
            refine lv_iushr hx hb dJ6_numberOfTrailingZeros_0f7a4_72 rfl ?_
            refine lv_topi (fun x31 ex31 => ?_)
            replace hf := nm_some ex31 hf
            refine lv_istore_n (lv' := [(0, .int x31), (1, .int x29)]) hx hb dJ6_numberOfTrailingZeros_0f7a4_73 rfl hl_30 (by decide) rfl (fun ls_32 hl_32 => ?_)
            cases hf
            exact J22 H_19 lo_19 I_19 ls_32 (lv_sub hl_32 [0, 1] rfl)
        replace hf := hv34
        refine lv_icmp_le (tgt := 62) hx hb dJ6_numberOfTrailingZeros_0f7a4_52 (by decide) (fun c39 => ?_) (fun c39 => ?_)
        · replace hf := (if_pos c39).symm.trans hf
          cases hf
          exact J16 H_13 lo_13 I_13 ls_14 (lv_sub hl_14 [0, 1] rfl)
        · replace hf := (if_neg c39).symm.trans hf
          obtain ⟨x35, ex35⟩ : ∃ y : Int32, y = x12 + (4 : Int32) := ⟨_, rfl⟩
          replace hf := nm_some ex35 hf
          refine lv_iinc (v := x35) (lv' := [(1, .int x35), (0, .int x11)]) hx hb dJ6_numberOfTrailingZeros_0f7a4_55 hl_14 (k := 1) rfl (by rw [ex35]; rfl) (by decide) rfl (fun ls_36 hl_36 => ?_)
          refine lv_iload_n hx hb dJ6_numberOfTrailingZeros_0f7a4_58 rfl (lv_at hl_36 1 rfl) ?_
          refine lv_iconst (v := (4 : Int32)) hx hb dJ6_numberOfTrailingZeros_0f7a4_59 (by decide) ?_
          refine lv_iushr hx hb dJ6_numberOfTrailingZeros_0f7a4_60 rfl ?_
          refine lv_topi (fun x37 ex37 => ?_)
          replace hf := nm_some ex37 hf
          refine lv_istore_n (lv' := [(0, .int x37), (1, .int x35)]) hx hb dJ6_numberOfTrailingZeros_0f7a4_61 rfl hl_36 (by decide) rfl (fun ls_38 hl_38 => ?_)
          cases hf
          exact J16 H_13 lo_13 I_13 ls_38 (lv_sub hl_38 [0, 1] rfl)
      replace hf := hv40
      refine lv_icmp_le (tgt := 49) hx hb dJ6_numberOfTrailingZeros_0f7a4_38 (by decide) (fun c45 => ?_) (fun c45 => ?_)
      · replace hf := (if_pos c45).symm.trans hf
        cases hf
        exact J10 H_7 lo_7 I_7 ls_8 (lv_sub hl_8 [0, 1] rfl)
      · replace hf := (if_neg c45).symm.trans hf
        obtain ⟨x41, ex41⟩ : ∃ y : Int32, y = x6 + (8 : Int32) := ⟨_, rfl⟩
        replace hf := nm_some ex41 hf
        refine lv_iinc (v := x41) (lv' := [(1, .int x41), (0, .int x5)]) hx hb dJ6_numberOfTrailingZeros_0f7a4_41 hl_8 (k := 1) rfl (by rw [ex41]; rfl) (by decide) rfl (fun ls_42 hl_42 => ?_)
        refine lv_iload_n hx hb dJ6_numberOfTrailingZeros_0f7a4_44 rfl (lv_at hl_42 1 rfl) ?_
        refine lv_bipush (v := (8 : Int32)) hx hb dJ6_numberOfTrailingZeros_0f7a4_45 (by decide) ?_
        refine lv_iushr hx hb dJ6_numberOfTrailingZeros_0f7a4_47 rfl ?_
        refine lv_topi (fun x43 ex43 => ?_)
        replace hf := nm_some ex43 hf
        refine lv_istore_n (lv' := [(0, .int x43), (1, .int x41)]) hx hb dJ6_numberOfTrailingZeros_0f7a4_48 rfl hl_42 (by decide) rfl (fun ls_44 hl_44 => ?_)
        cases hf
        exact J10 H_7 lo_7 I_7 ls_44 (lv_sub hl_44 [0, 1] rfl)
    replace hf := hv46
    refine lv_icmp_le (tgt := 34) hx hb dJ6_numberOfTrailingZeros_0f7a4_23 (by decide) (fun c51 => ?_) (fun c51 => ?_)
    · replace hf := (if_pos c51).symm.trans hf
      cases hf
      exact J4 H lo I ls_3 (lv_sub hl_3 [1, 0] rfl)
    · replace hf := (if_neg c51).symm.trans hf
      obtain ⟨x47, ex47⟩ : ∃ y : Int32, y = (1 : Int32) + (16 : Int32) := ⟨_, rfl⟩
      replace hf := nm_some ex47 hf
      refine lv_iinc (v := x47) (lv' := [(1, .int x47), (0, .int x1)]) hx hb dJ6_numberOfTrailingZeros_0f7a4_26 hl_3 (k := 0) rfl (by rw [ex47]; rfl) (by decide) rfl (fun ls_48 hl_48 => ?_)
      refine lv_iload_n hx hb dJ6_numberOfTrailingZeros_0f7a4_29 rfl (lv_at hl_48 1 rfl) ?_
      refine lv_bipush (v := (16 : Int32)) hx hb dJ6_numberOfTrailingZeros_0f7a4_30 (by decide) ?_
      refine lv_iushr hx hb dJ6_numberOfTrailingZeros_0f7a4_32 rfl ?_
      refine lv_topi (fun x49 ex49 => ?_)
      replace hf := nm_some ex49 hf
      refine lv_istore_n (lv' := [(0, .int x49), (1, .int x47)]) hx hb dJ6_numberOfTrailingZeros_0f7a4_33 rfl hl_48 (by decide) rfl (fun ls_50 hl_50 => ?_)
      cases hf
      exact J4 H lo I ls_50 (lv_sub hl_50 [0, 1] rfl)
  · replace hf := (if_neg c52).symm.trans hf
    refine lv_iload_n hx hb dJ6_numberOfTrailingZeros_0f7a4_12 rfl (lv_at hl_2 0 rfl) ?_
    refine lv_bipush (v := (32 : Int32)) hx hb dJ6_numberOfTrailingZeros_0f7a4_13 (by decide) ?_
    refine lv_iand hx hb dJ6_numberOfTrailingZeros_0f7a4_15 ?_
    cases hf
    exact ret H lo _ ls_2 I dJ6_numberOfTrailingZeros_0f7a4_16
def C_LT_cell (a0 : Int32) (a1 : Int32) : Int32 :=
(((a0 &&& (7 : Int32)) <<< ((3 : Int32) &&& 31)) ||| (a1 &&& (7 : Int32)))
set_option maxRecDepth 100000 in
set_option maxHeartbeats 4000000 in
theorem cC_LT_cell (G : Nat → Nat → Int32) (E : Nat → Nat → Int64) (Dd : Nat → Nat → UInt64) (P : Nat → Option PRec) (Z : List PRec) (a0 : Int32) (a1 : Int32) (rv : Int32)  (hv : rv = C_LT_cell a0 a1) : sMi D (cT cI cJ cD cS) (cW ad cI cJ cD cS) l yX11_cell (ws1 yX11_cell cX11_cell 2 (some .int)) ({ frames := 0, cells := 0, slots := 0, locals := 0 }) [.int a0, .int a1] (G, E, Dd, P, Z) (rv, (G, E, Dd, P, Z)) := by
  have hf : (some (((a0 &&& (7 : Int32)) <<< ((3 : Int32) &&& 31)) ||| (a1 &&& (7 : Int32)))) = some rv := by rw [hv]; rfl
  refine sMi_of (by decide) (Nat.le_of_ble_eq_true rfl) ?_
  intro p e R s m args below meth c A Q ls H lo F hRf hRl I hl ret
  obtain ⟨hx, hb, hml, hown, hG⟩ := id F
  replace hl : lv_has ls 2 [(0, .int a0), (1, .int a1)] := hl
  refine lv_iload_n hx hb dX11_cell_0 rfl (lv_at hl 0 rfl) ?_
  refine lv_bipush (v := (7 : Int32)) hx hb dX11_cell_1 (by decide) ?_
  refine lv_iand hx hb dX11_cell_3 ?_
  refine lv_iconst (v := (3 : Int32)) hx hb dX11_cell_4 (by decide) ?_
  refine lv_ishl hx hb dX11_cell_5 ?_
  refine lv_iload_n hx hb dX11_cell_6 rfl (lv_at hl 1 rfl) ?_
  refine lv_bipush (v := (7 : Int32)) hx hb dX11_cell_7 (by decide) ?_
  refine lv_iand hx hb dX11_cell_9 ?_
  refine lv_ior hx hb dX11_cell_10 ?_
  cases hf
  exact ret H lo _ ls I dX11_cell_11
def C_LE_lead_22 (G : Nat → Nat → Int32) (a0 : Int32) (a1 : Int32) : Option (Int32) :=
nm (C_LT_cell a0 a1) fun r1 =>
ri 64 r1 <|
some (G 20 r1.toNatClampNeg)
set_option maxRecDepth 100000 in
set_option maxHeartbeats 4000000 in
theorem cC_LE_lead_22 (G : Nat → Nat → Int32) (E : Nat → Nat → Int64) (Dd : Nat → Nat → UInt64) (P : Nat → Option PRec) (Z : List PRec) (a0 : Int32) (a1 : Int32) (rv : Int32)  (hf : C_LE_lead_22 G a0 a1 = some rv) : sMi D (cT cI cJ cD cS) (cW ad cI cJ cD cS) l yX3_lead (ws1 yX3_lead cX3_lead 3 (some .int)) ({ frames := 1, cells := 0, slots := 0, locals := 21 }) [.ref (ad 22), .int a0, .int a1] (G, E, Dd, P, Z) (rv, (G, E, Dd, P, Z)) := by
  unfold C_LE_lead_22 at hf
  refine sMi_of (by decide) (Nat.le_of_ble_eq_true rfl) ?_
  intro p e R s m args below meth c A Q ls H lo F hRf hRl I hl ret
  obtain ⟨hx, hb, hml, hown, hG⟩ := id F
  replace hl : lv_has ls 3 [(0, .ref (ad 22)), (1, .int a0), (2, .int a1)] := hl
  refine lv_aload_n hx hb dX3_lead_0 rfl (lv_at hl 0 rfl) ?_
  refine kgtX3_9_22 F I dX3_lead_1 ?_
  refine lv_iload_n hx hb dX3_lead_4 rfl (lv_at hl 1 rfl) ?_
  refine lv_iload_n hx hb dX3_lead_5 rfl (lv_at hl 2 rfl) ?_
  obtain ⟨r1, h2⟩ : ∃ z, z = C_LT_cell a0 a1 := ⟨_, rfl⟩
  replace hf := nm_some h2 hf
  refine s_callSNi (As := [.int a0, .int a1]) (rest := [.ref (ad 23)]) F I (cC_LT_cell G E Dd P Z a0 a1 r1 h2) kX3_50 ⟨rfl, rfl⟩ ⟨Nat.le_trans (Nat.le_of_ble_eq_true rfl) hRf, Nat.le_trans (Nat.le_of_ble_eq_true rfl) hRl⟩ rfl rfl hl.1 (Nat.le_of_ble_eq_true rfl) ⟨Nat.zero_le _, Nat.zero_le _⟩ dX3_lead_6 ?_
  intro H_3 lo_3 I_3
  obtain ⟨g4, hf⟩ := ri_some hf
  refine kal23 F I_3 g4 dX3_lead_9 ?_
  cases hf
  exact ret H_3 lo_3 _ ls I_3 dX3_lead_10
def C_BO_takeCosts_22_s2 (x2 : Int32) (x11 : Int32) (x20 : Int32) (G21 : Nat → Nat → Int32) : Option ((Int32 × (Nat → Nat → Int32)) ⊕ ((Nat → Nat → Int32))) :=
if (16 : Int32) ≤ x20 then
(some (.inr G21))
else
(bd (C_JI_numberOfTrailingZeros_ x20) fun r31 =>
nm (x11 + (x20 &&& (x20 - (1 : Int32))) : Int32) fun x35 =>
ri 128 x35 <|
bd (C_LE_lead_22 G21 r31 x2) fun r38 =>
ri 128 (x11 + x20) <|
nm (wr G21 37 (x11 + x20) ((G21 37 x35.toNatClampNeg) + (if (0 : Int32) < r38 then r38 else (0 : Int32)))) fun G42 =>
ri 128 x35 <|
bd (C_LE_lead_22 G42 (r31 + (4 : Int32)) x2) fun r45 =>
ri 128 (x11 + x20) <|
nm (wr G42 38 (x11 + x20) ((G42 38 x35.toNatClampNeg) + (if (0 : Int32) < r45 then r45 else (0 : Int32)))) fun G49 =>
nm (x20 + (1 : Int32) : Int32) fun x51 =>
some (.inl (x51, G49)))
def C_BO_takeCosts_22_s1  (x2 : Int32) (G3 : Nat → Nat → Int32) : Option ((Int32 × (Nat → Nat → Int32)) ⊕ ((Nat → Nat → Int32))) :=
if G3 31 0 ≤ x2 then
(some (.inr G3))
else
(nm (x2 * (16 : Int32) : Int32) fun x11 =>
ri 128 x11 <|
nm (wr G3 37 x11 (0 : Int32)) fun G14 =>
ri 128 x11 <|
nm (wr G14 38 x11 (0 : Int32)) fun G17 =>
bd (lp (fun q => C_BO_takeCosts_22_s2 x2 x11 q.1 q.2) FU ((1 : Int32), G17)) fun G22 =>
nm (x2 + (1 : Int32) : Int32) fun x26 =>
some (.inl (x26, G22)))
def C_BO_takeCosts_22 (G : Nat → Nat → Int32) : Option ((Nat → Nat → Int32)) :=
bd (lp (fun q => C_BO_takeCosts_22_s1 q.1 q.2) FU ((0 : Int32), G)) fun G4 =>
some G4
set_option maxRecDepth 100000 in
set_option maxHeartbeats 4000000 in
theorem cC_BO_takeCosts_22 (G : Nat → Nat → Int32) (E : Nat → Nat → Int64) (Dd : Nat → Nat → UInt64) (P : Nat → Option PRec) (Z : List PRec)   (newG : Nat → Nat → Int32) (hf : C_BO_takeCosts_22 G = some newG) : sMv D (cT cI cJ cD cS) (cW ad cI cJ cD cS) l yX0_takeCosts (ws1 yX0_takeCosts cX0_takeCosts 7 none) ({ frames := 2, cells := 0, slots := 0, locals := 43 }) [.ref (ad 24), .ref (ad 22)] (G, E, Dd, P, Z) (newG, E, Dd, P, Z) := by
  unfold C_BO_takeCosts_22 at hf
  refine sMv_of (by decide) (Nat.le_of_ble_eq_true rfl) ?_
  intro p e R s m args below meth c A Q ls H lo F hRf hRl I hl ret
  obtain ⟨hx, hb, hml, hown, hG⟩ := id F
  replace hl : lv_has ls 7 [(0, .ref (ad 24)), (1, .ref (ad 22))] := hl
  refine lv_iconst (v := (0 : Int32)) hx hb dX0_takeCosts_0 (by decide) ?_
  refine lv_istore_n (lv' := [(2, .int (0 : Int32)), (0, .ref (ad 24)), (1, .ref (ad 22))]) hx hb dX0_takeCosts_1 rfl hl (by decide) rfl (fun ls_1 hl_1 => ?_)
  obtain ⟨G4, hq1, hf⟩ := bd_some hf
  have K1 : ∀ (H : Heap) (locs : List Loc), sInv D (cT cI cJ cD cS) (cW ad cI cJ cD cS) A s H locs (G4, E, Dd, P, Z) → ∀ (ls : Array Slot), lv_has ls 7 [] → W p l e R s m args below meth c H locs 0 0 Q (F0 m 127 ls []) := by
    intro H_5 lo_5 I_5 ls_6 hl_6
    cases hf
    exact ret H_5 lo_5 _ ls_6 I_5 dX0_takeCosts_127
  have L1 : ∀ (n : Nat) (x2 : Int32) (G3 : Nat → Nat → Int32), lp (fun q => C_BO_takeCosts_22_s1 q.1 q.2) n (x2, G3) = some G4 → ∀ (H : Heap) (locs : List Loc), sInv D (cT cI cJ cD cS) (cW ad cI cJ cD cS) A s H locs (G3, E, Dd, P, Z) → ∀ (ls : Array Slot), lv_has ls 7 [(0, .ref (ad 24)), (1, .ref (ad 22)), (2, .int x2)] → W p l e R s m args below meth c H locs 0 0 Q (F0 m 2 ls []) := by
    intro n
    induction n with
    | zero => intro x2 G3 hq; exact (lp_0 hq).elim
    | succ n ih1 =>
      intro x2 G3 hq H_8 lo_8 I_8 ls_9 hl_9
      obtain ⟨y1, hf, hK1⟩ := lp_go hq
      replace hf : C_BO_takeCosts_22_s1 x2 G3 = some y1 := hf
      unfold C_BO_takeCosts_22_s1 at hf
      refine lv_iload_n hx hb dX0_takeCosts_2 rfl (lv_at hl_9 2 rfl) ?_
      refine lv_aload_n hx hb dX0_takeCosts_3 rfl (lv_at hl_9 0 rfl) ?_
      refine kgtX0_15_24 F I_8 dX0_takeCosts_4 ?_
      refine lv_icmp_ge (tgt := 127) hx hb dX0_takeCosts_7 (by decide) (fun c54 => ?_) (fun c54 => ?_)
      · replace hf := (if_pos c54).symm.trans hf
        cases hf
        cases (show G3 = G4 from hK1)
        exact K1 H_8 lo_8 I_8 ls_9 (lv_sub hl_9 [] rfl)
      · replace hf := (if_neg c54).symm.trans hf
        refine lv_iload_n hx hb dX0_takeCosts_10 rfl (lv_at hl_9 2 rfl) ?_
        refine lv_bipush (v := (16 : Int32)) hx hb dX0_takeCosts_11 (by decide) ?_
        refine lv_imul hx hb dX0_takeCosts_13 ?_
        refine lv_topi (fun x11 ex11 => ?_)
        replace hf := nm_some ex11 hf
        refine lv_istore_n (lv' := [(3, .int x11), (0, .ref (ad 24)), (1, .ref (ad 22)), (2, .int x2)]) hx hb dX0_takeCosts_14 rfl hl_9 (by decide) rfl (fun ls_12 hl_12 => ?_)
        refine lv_aload_n hx hb dX0_takeCosts_15 rfl (lv_at hl_12 1 rfl) ?_
        refine kgtX0_35_24 F I_8 dX0_takeCosts_16 ?_
        refine lv_iload_n hx hb dX0_takeCosts_19 rfl (lv_at hl_12 0 rfl) ?_
        refine lv_iconst (v := (0 : Int32)) hx hb dX0_takeCosts_20 (by decide) ?_
        obtain ⟨g13, hf⟩ := ri_some hf
        refine kas28 F I_8 g13 dX0_takeCosts_21 ?_
        intro H_15 lo_15 G14 eG14 I_15
        replace hf := nm_some eG14 hf
        refine lv_aload_n hx hb dX0_takeCosts_22 rfl (lv_at hl_12 1 rfl) ?_
        refine kgtX0_38_24 F I_15 dX0_takeCosts_23 ?_
        refine lv_iload_n hx hb dX0_takeCosts_26 rfl (lv_at hl_12 0 rfl) ?_
        refine lv_iconst (v := (0 : Int32)) hx hb dX0_takeCosts_27 (by decide) ?_
        obtain ⟨g16, hf⟩ := ri_some hf
        refine kas29 F I_15 g16 dX0_takeCosts_28 ?_
        intro H_18 lo_18 G17 eG17 I_18
        replace hf := nm_some eG17 hf
        refine lv_iconst (v := (1 : Int32)) hx hb dX0_takeCosts_29 (by decide) ?_
        refine lv_istore (lv' := [(4, .int (1 : Int32)), (3, .int x11), (0, .ref (ad 24)), (1, .ref (ad 22)), (2, .int x2)]) hx hb dX0_takeCosts_30 hl_12 (by decide) rfl (fun ls_19 hl_19 => ?_)
        obtain ⟨G22, hq2, hf⟩ := bd_some hf
        have K2 : ∀ (H : Heap) (locs : List Loc), sInv D (cT cI cJ cD cS) (cW ad cI cJ cD cS) A s H locs (G22, E, Dd, P, Z) → ∀ (ls : Array Slot), lv_has ls 7 [(0, .ref (ad 24)), (1, .ref (ad 22)), (2, .int x2)] → W p l e R s m args below meth c H locs 0 0 Q (F0 m 121 ls []) := by
          intro H_23 lo_23 I_23 ls_24 hl_24
          obtain ⟨x26, ex26⟩ : ∃ y : Int32, y = x2 + (1 : Int32) := ⟨_, rfl⟩
          replace hf := nm_some ex26 hf
          refine lv_iinc (v := x26) (lv' := [(2, .int x26), (0, .ref (ad 24)), (1, .ref (ad 22))]) hx hb dX0_takeCosts_121 hl_24 (k := 2) rfl (by rw [ex26]; rfl) (by decide) rfl (fun ls_27 hl_27 => ?_)
          refine lv_goto (tgt := 2) hx hb dX0_takeCosts_124 (by decide) ?_
          cases hf
          exact ih1 _ _ hK1 H_23 lo_23 I_23 ls_27 (lv_sub hl_27 [1, 2, 0] rfl)
        have L2 : ∀ (n : Nat) (x20 : Int32) (G21 : Nat → Nat → Int32), lp (fun q => C_BO_takeCosts_22_s2 x2 x11 q.1 q.2) n (x20, G21) = some G22 → ∀ (H : Heap) (locs : List Loc), sInv D (cT cI cJ cD cS) (cW ad cI cJ cD cS) A s H locs (G21, E, Dd, P, Z) → ∀ (ls : Array Slot), lv_has ls 7 [(0, .ref (ad 24)), (1, .ref (ad 22)), (2, .int x2), (3, .int x11), (4, .int x20)] → W p l e R s m args below meth c H locs 0 0 Q (F0 m 32 ls []) := by
          intro n
          induction n with
          | zero => intro x20 G21 hq; exact (lp_0 hq).elim
          | succ n ih2 =>
            intro x20 G21 hq H_28 lo_28 I_28 ls_29 hl_29
            obtain ⟨y2, hf, hK2⟩ := lp_go hq
            replace hf : C_BO_takeCosts_22_s2 x2 x11 x20 G21 = some y2 := hf
            unfold C_BO_takeCosts_22_s2 at hf
            refine lv_iload hx hb dX0_takeCosts_32 (lv_at hl_29 4 rfl) ?_
            refine lv_bipush (v := (16 : Int32)) hx hb dX0_takeCosts_34 (by decide) ?_
            refine lv_icmp_ge (tgt := 121) hx hb dX0_takeCosts_36 (by decide) (fun c53 => ?_) (fun c53 => ?_)
            · replace hf := (if_pos c53).symm.trans hf
              cases hf
              cases (show G21 = G22 from hK2)
              exact K2 H_28 lo_28 I_28 ls_29 (lv_sub hl_29 [0, 1, 2] rfl)
            · replace hf := (if_neg c53).symm.trans hf
              refine lv_iload hx hb dX0_takeCosts_39 (lv_at hl_29 4 rfl) ?_
              obtain ⟨r31, h32, hf⟩ := bd_some hf
              refine s_callSi (As := [.int x20]) (rest := []) F I_28 (cC_JI_numberOfTrailingZeros_ G21 E Dd P Z x20 r31 h32) kX0_58 ⟨rfl, rfl⟩ ⟨Nat.le_trans (Nat.le_of_ble_eq_true rfl) hRf, Nat.le_trans (Nat.le_of_ble_eq_true rfl) hRl⟩ rfl rfl hl_29.1 (Nat.le_of_ble_eq_true rfl) ⟨Nat.zero_le _, Nat.zero_le _⟩ dX0_takeCosts_41 ?_
              intro H_33 lo_33 I_33
              refine lv_istore (lv' := [(5, .int r31), (0, .ref (ad 24)), (1, .ref (ad 22)), (2, .int x2), (3, .int x11), (4, .int x20)]) hx hb dX0_takeCosts_44 hl_29 (by decide) rfl (fun ls_34 hl_34 => ?_)
              refine lv_iload_n hx hb dX0_takeCosts_46 rfl (lv_at hl_34 4 rfl) ?_
              refine lv_iload hx hb dX0_takeCosts_47 (lv_at hl_34 5 rfl) ?_
              refine lv_iload hx hb dX0_takeCosts_49 (lv_at hl_34 5 rfl) ?_
              refine lv_iconst (v := (1 : Int32)) hx hb dX0_takeCosts_51 (by decide) ?_
              refine lv_isub hx hb dX0_takeCosts_52 ?_
              refine lv_iand hx hb dX0_takeCosts_53 ?_
              refine lv_iadd hx hb dX0_takeCosts_54 ?_
              refine lv_topi (fun x35 ex35 => ?_)
              replace hf := nm_some ex35 hf
              refine lv_istore (lv' := [(6, .int x35), (5, .int r31), (0, .ref (ad 24)), (1, .ref (ad 22)), (2, .int x2), (3, .int x11), (4, .int x20)]) hx hb dX0_takeCosts_55 hl_34 (by decide) rfl (fun ls_36 hl_36 => ?_)
              refine lv_aload_n hx hb dX0_takeCosts_57 rfl (lv_at hl_36 2 rfl) ?_
              refine kgtX0_35_24 F I_33 dX0_takeCosts_58 ?_
              refine lv_iload_n hx hb dX0_takeCosts_61 rfl (lv_at hl_36 5 rfl) ?_
              refine lv_iload hx hb dX0_takeCosts_62 (lv_at hl_36 6 rfl) ?_
              refine lv_iadd hx hb dX0_takeCosts_64 ?_
              refine lv_aload_n hx hb dX0_takeCosts_65 rfl (lv_at hl_36 2 rfl) ?_
              refine kgtX0_35_24 F I_33 dX0_takeCosts_66 ?_
              refine lv_iload hx hb dX0_takeCosts_69 (lv_at hl_36 0 rfl) ?_
              obtain ⟨g37, hf⟩ := ri_some hf
              refine kal28 F I_33 g37 dX0_takeCosts_71 ?_
              refine lv_iconst (v := (0 : Int32)) hx hb dX0_takeCosts_72 (by decide) ?_
              refine lv_aload_n hx hb dX0_takeCosts_73 rfl (lv_at hl_36 3 rfl) ?_
              refine lv_iload hx hb dX0_takeCosts_74 (lv_at hl_36 1 rfl) ?_
              refine lv_iload_n hx hb dX0_takeCosts_76 rfl (lv_at hl_36 4 rfl) ?_
              obtain ⟨r38, h39, hf⟩ := bd_some hf
              refine s_callVi (As := [.int r31, .int x2]) (rest := [.int (0 : Int32), .int (G21 37 x35.toNatClampNeg), .int (x11 + x20), .ref (ad 28)]) F I_33 (cC_LE_lead_22 G21 E Dd P Z r31 x2 r38 h39) kX0_64 ⟨rfl, rfl⟩ ⟨Nat.le_trans (Nat.le_of_ble_eq_true rfl) hRf, Nat.le_trans (Nat.le_of_ble_eq_true rfl) hRl⟩ (22) 3 rfl rfl rfl rfl rfl hl_36.1 (Nat.le_of_ble_eq_true rfl) ⟨Nat.zero_le _, Nat.zero_le _⟩ dX0_takeCosts_77 ?_
              intro H_40 lo_40 I_40
              refine va_mmax (rest := [.int (G21 37 x35.toNatClampNeg), .int (x11 + x20), .ref (ad 28)]) hx hb (hml.trans hl_36.1.symm) hown (hG _ q703) (hG _ q704) (hG _ q126) (hG _ q705) (Nat.le_trans (Nat.le_of_ble_eq_true rfl) hRf) (Nat.le_trans (Nat.le_of_ble_eq_true rfl) hRl) (Nat.zero_le _) (Nat.zero_le _) dX0_takeCosts_80 ?_
              refine lv_iadd hx hb dX0_takeCosts_83 ?_
              obtain ⟨g41, hf⟩ := ri_some hf
              refine kas28 F I_40 g41 dX0_takeCosts_84 ?_
              intro H_43 lo_43 G42 eG42 I_43
              replace hf := nm_some eG42 hf
              refine lv_aload_n hx hb dX0_takeCosts_85 rfl (lv_at hl_36 2 rfl) ?_
              refine kgtX0_38_24 F I_43 dX0_takeCosts_86 ?_
              refine lv_iload_n hx hb dX0_takeCosts_89 rfl (lv_at hl_36 5 rfl) ?_
              refine lv_iload hx hb dX0_takeCosts_90 (lv_at hl_36 6 rfl) ?_
              refine lv_iadd hx hb dX0_takeCosts_92 ?_
              refine lv_aload_n hx hb dX0_takeCosts_93 rfl (lv_at hl_36 2 rfl) ?_
              refine kgtX0_38_24 F I_43 dX0_takeCosts_94 ?_
              refine lv_iload hx hb dX0_takeCosts_97 (lv_at hl_36 0 rfl) ?_
              obtain ⟨g44, hf⟩ := ri_some hf
              refine kal29 F I_43 g44 dX0_takeCosts_99 ?_
              refine lv_iconst (v := (0 : Int32)) hx hb dX0_takeCosts_100 (by decide) ?_
              refine lv_aload_n hx hb dX0_takeCosts_101 rfl (lv_at hl_36 3 rfl) ?_
              refine lv_iload hx hb dX0_takeCosts_102 (lv_at hl_36 1 rfl) ?_
              refine lv_iconst (v := (4 : Int32)) hx hb dX0_takeCosts_104 (by decide) ?_
              refine lv_iadd hx hb dX0_takeCosts_105 ?_
              refine lv_iload_n hx hb dX0_takeCosts_106 rfl (lv_at hl_36 4 rfl) ?_
              obtain ⟨r45, h46, hf⟩ := bd_some hf
              refine s_callVi (As := [.int (r31 + (4 : Int32)), .int x2]) (rest := [.int (0 : Int32), .int (G42 38 x35.toNatClampNeg), .int (x11 + x20), .ref (ad 29)]) F I_43 (cC_LE_lead_22 G42 E Dd P Z (r31 + (4 : Int32)) x2 r45 h46) kX0_64 ⟨rfl, rfl⟩ ⟨Nat.le_trans (Nat.le_of_ble_eq_true rfl) hRf, Nat.le_trans (Nat.le_of_ble_eq_true rfl) hRl⟩ (22) 3 rfl rfl rfl rfl rfl hl_36.1 (Nat.le_of_ble_eq_true rfl) ⟨Nat.zero_le _, Nat.zero_le _⟩ dX0_takeCosts_107 ?_
              intro H_47 lo_47 I_47
              refine va_mmax (rest := [.int (G42 38 x35.toNatClampNeg), .int (x11 + x20), .ref (ad 29)]) hx hb (hml.trans hl_36.1.symm) hown (hG _ q703) (hG _ q704) (hG _ q126) (hG _ q705) (Nat.le_trans (Nat.le_of_ble_eq_true rfl) hRf) (Nat.le_trans (Nat.le_of_ble_eq_true rfl) hRl) (Nat.zero_le _) (Nat.zero_le _) dX0_takeCosts_110 ?_
              refine lv_iadd hx hb dX0_takeCosts_113 ?_
              obtain ⟨g48, hf⟩ := ri_some hf
              refine kas29 F I_47 g48 dX0_takeCosts_114 ?_
              intro H_50 lo_50 G49 eG49 I_50
              replace hf := nm_some eG49 hf
              obtain ⟨x51, ex51⟩ : ∃ y : Int32, y = x20 + (1 : Int32) := ⟨_, rfl⟩
              replace hf := nm_some ex51 hf
              refine lv_iinc (v := x51) (lv' := [(4, .int x51), (6, .int x35), (5, .int r31), (0, .ref (ad 24)), (1, .ref (ad 22)), (2, .int x2), (3, .int x11)]) hx hb dX0_takeCosts_115 hl_36 (k := 6) rfl (by rw [ex51]; rfl) (by decide) rfl (fun ls_52 hl_52 => ?_)
              refine lv_goto (tgt := 32) hx hb dX0_takeCosts_118 (by decide) ?_
              cases hf
              exact ih2 _ _ hK2 H_50 lo_50 I_50 ls_52 (lv_sub hl_52 [3, 4, 5, 6, 0] rfl)
        exact L2 FU _ _ hq2 H_18 lo_18 I_18 ls_19 (lv_sub hl_19 [2, 3, 4, 1, 0] rfl)
  exact L1 FU _ _ hq1 H lo I ls_1 (lv_sub hl_1 [1, 2, 0] rfl)
def C_BO_setWithout (a0 : Int32) (a1 : Int32) : Int32 :=
((a0 &&& (((1 : Int32) <<< (a1 &&& 31)) ^^^ (-1 : Int32))) &&& (255 : Int32))
set_option maxRecDepth 100000 in
set_option maxHeartbeats 4000000 in
theorem cC_BO_setWithout (G : Nat → Nat → Int32) (E : Nat → Nat → Int64) (Dd : Nat → Nat → UInt64) (P : Nat → Option PRec) (Z : List PRec) (a0 : Int32) (a1 : Int32) (rv : Int32)  (hv : rv = C_BO_setWithout a0 a1) : sMi D (cT cI cJ cD cS) (cW ad cI cJ cD cS) l yX0_setWithout (ws1 yX0_setWithout cX0_setWithout 2 (some .int)) ({ frames := 0, cells := 0, slots := 0, locals := 0 }) [.int a0, .int a1] (G, E, Dd, P, Z) (rv, (G, E, Dd, P, Z)) := by
  have hf : (some ((a0 &&& (((1 : Int32) <<< (a1 &&& 31)) ^^^ (-1 : Int32))) &&& (255 : Int32))) = some rv := by rw [hv]; rfl
  refine sMi_of (by decide) (Nat.le_of_ble_eq_true rfl) ?_
  intro p e R s m args below meth c A Q ls H lo F hRf hRl I hl ret
  obtain ⟨hx, hb, hml, hown, hG⟩ := id F
  replace hl : lv_has ls 2 [(0, .int a0), (1, .int a1)] := hl
  refine lv_iload_n hx hb dX0_setWithout_0 rfl (lv_at hl 0 rfl) ?_
  refine lv_iconst (v := (1 : Int32)) hx hb dX0_setWithout_1 (by decide) ?_
  refine lv_iload_n hx hb dX0_setWithout_2 rfl (lv_at hl 1 rfl) ?_
  refine lv_ishl hx hb dX0_setWithout_3 ?_
  refine lv_iconst (v := (-1 : Int32)) hx hb dX0_setWithout_4 (by decide) ?_
  refine lv_ixor hx hb dX0_setWithout_5 ?_
  refine lv_iand hx hb dX0_setWithout_6 ?_
  refine lv_sipush (v := (255 : Int32)) hx hb dX0_setWithout_7 (by decide) ?_
  refine lv_iand hx hb dX0_setWithout_10 ?_
  cases hf
  exact ret H lo _ ls I dX0_setWithout_11
def C_LT_contains (a0 : Int32) (a1 : Int32) : Option (Int32) :=
if (a0 >>> (a1 &&& 31)) &&& (1 : Int32) = 0 then
(some (0 : Int32))
else
(some (1 : Int32))
set_option maxRecDepth 100000 in
set_option maxHeartbeats 4000000 in
theorem cC_LT_contains (G : Nat → Nat → Int32) (E : Nat → Nat → Int64) (Dd : Nat → Nat → UInt64) (P : Nat → Option PRec) (Z : List PRec) (a0 : Int32) (a1 : Int32) (rv : Int32)  (hf : C_LT_contains a0 a1 = some rv) : sMi D (cT cI cJ cD cS) (cW ad cI cJ cD cS) l yX11_contains (ws1 yX11_contains cX11_contains 2 (some .boolean)) ({ frames := 0, cells := 0, slots := 0, locals := 0 }) [.int a0, .int a1] (G, E, Dd, P, Z) (rv, (G, E, Dd, P, Z)) := by
  unfold C_LT_contains at hf
  refine sMz_of (by decide) (Nat.le_of_ble_eq_true rfl) ?_
  intro p e R s m args below meth c A Q ls H lo F hRf hRl I hl ret
  obtain ⟨hx, hb, hml, hown, hG⟩ := id F
  replace hl : lv_has ls 2 [(0, .int a0), (1, .int a1)] := hl
  refine lv_iload_n hx hb dX11_contains_0 rfl (lv_at hl 0 rfl) ?_
  refine lv_iload_n hx hb dX11_contains_1 rfl (lv_at hl 1 rfl) ?_
  refine lv_ishr hx hb dX11_contains_2 ?_
  refine lv_iconst (v := (1 : Int32)) hx hb dX11_contains_3 (by decide) ?_
  refine lv_iand hx hb dX11_contains_4 ?_
  refine lv_if_eq (tgt := 12) hx hb dX11_contains_5 (by decide) (fun c1 => ?_) (fun c1 => ?_)
  · replace hf := (if_pos c1).symm.trans hf
    refine lv_iconst (v := (0 : Int32)) hx hb dX11_contains_12 (by decide) ?_
    cases hf
    exact ret H lo _ ls I (Or.inl rfl) dX11_contains_13
  · replace hf := (if_neg c1).symm.trans hf
    refine lv_iconst (v := (1 : Int32)) hx hb dX11_contains_8 (by decide) ?_
    refine lv_goto (tgt := 13) hx hb dX11_contains_9 (by decide) ?_
    cases hf
    exact ret H lo _ ls I (Or.inr rfl) dX11_contains_13
def C_BO_costBefore (G : Nat → Nat → Int32) (a0 : Int32) (a1 : Int32) : Option (Int32) :=
nm ((a0 &&& (7 : Int32)) * (16 : Int32) : Int32) fun x1 =>
ri 128 (x1 + (a1 &&& (15 : Int32))) <|
ri 128 (x1 + ((a1 >>> ((4 : Int32) &&& 31)) &&& (15 : Int32))) <|
some ((G 37 (x1 + (a1 &&& (15 : Int32))).toNatClampNeg) + (G 38 (x1 + ((a1 >>> ((4 : Int32) &&& 31)) &&& (15 : Int32))).toNatClampNeg))
set_option maxRecDepth 100000 in
set_option maxHeartbeats 4000000 in
theorem cC_BO_costBefore (G : Nat → Nat → Int32) (E : Nat → Nat → Int64) (Dd : Nat → Nat → UInt64) (P : Nat → Option PRec) (Z : List PRec) (a0 : Int32) (a1 : Int32) (rv : Int32)  (hf : C_BO_costBefore G a0 a1 = some rv) : sMi D (cT cI cJ cD cS) (cW ad cI cJ cD cS) l yX0_costBefore (ws1 yX0_costBefore cX0_costBefore 4 (some .int)) ({ frames := 0, cells := 0, slots := 0, locals := 0 }) [.ref (ad 24), .int a0, .int a1] (G, E, Dd, P, Z) (rv, (G, E, Dd, P, Z)) := by
  unfold C_BO_costBefore at hf
  refine sMi_of (by decide) (Nat.le_of_ble_eq_true rfl) ?_
  intro p e R s m args below meth c A Q ls H lo F hRf hRl I hl ret
  obtain ⟨hx, hb, hml, hown, hG⟩ := id F
  replace hl : lv_has ls 4 [(0, .ref (ad 24)), (1, .int a0), (2, .int a1)] := hl
  refine lv_iload_n hx hb dX0_costBefore_0 rfl (lv_at hl 1 rfl) ?_
  refine lv_bipush (v := (7 : Int32)) hx hb dX0_costBefore_1 (by decide) ?_
  refine lv_iand hx hb dX0_costBefore_3 ?_
  refine lv_bipush (v := (16 : Int32)) hx hb dX0_costBefore_4 (by decide) ?_
  refine lv_imul hx hb dX0_costBefore_6 ?_
  refine lv_topi (fun x1 ex1 => ?_)
  replace hf := nm_some ex1 hf
  refine lv_istore_n (lv' := [(3, .int x1), (0, .ref (ad 24)), (1, .int a0), (2, .int a1)]) hx hb dX0_costBefore_7 rfl hl (by decide) rfl (fun ls_2 hl_2 => ?_)
  refine lv_aload_n hx hb dX0_costBefore_8 rfl (lv_at hl_2 1 rfl) ?_
  refine kgtX0_35_24 F I dX0_costBefore_9 ?_
  refine lv_iload_n hx hb dX0_costBefore_12 rfl (lv_at hl_2 0 rfl) ?_
  refine lv_iload_n hx hb dX0_costBefore_13 rfl (lv_at hl_2 3 rfl) ?_
  refine lv_bipush (v := (15 : Int32)) hx hb dX0_costBefore_14 (by decide) ?_
  refine lv_iand hx hb dX0_costBefore_16 ?_
  refine lv_iadd hx hb dX0_costBefore_17 ?_
  obtain ⟨g3, hf⟩ := ri_some hf
  refine kal28 F I g3 dX0_costBefore_18 ?_
  refine lv_aload_n hx hb dX0_costBefore_19 rfl (lv_at hl_2 1 rfl) ?_
  refine kgtX0_38_24 F I dX0_costBefore_20 ?_
  refine lv_iload_n hx hb dX0_costBefore_23 rfl (lv_at hl_2 0 rfl) ?_
  refine lv_iload_n hx hb dX0_costBefore_24 rfl (lv_at hl_2 3 rfl) ?_
  refine lv_iconst (v := (4 : Int32)) hx hb dX0_costBefore_25 (by decide) ?_
  refine lv_ishr hx hb dX0_costBefore_26 ?_
  refine lv_bipush (v := (15 : Int32)) hx hb dX0_costBefore_27 (by decide) ?_
  refine lv_iand hx hb dX0_costBefore_29 ?_
  refine lv_iadd hx hb dX0_costBefore_30 ?_
  obtain ⟨g4, hf⟩ := ri_some hf
  refine kal29 F I g4 dX0_costBefore_31 ?_
  refine lv_iadd hx hb dX0_costBefore_32 ?_
  cases hf
  exact ret H lo _ ls_2 I dX0_costBefore_33
def C_BO_foremostOf_s1 (a0 : Int32) (G : Nat → Nat → Int32) (x2 : Int32) : Option ((Int32) ⊕ (Int32)) :=
if G 31 0 ≤ x2 then
(some (.inr (0 : Int32)))
else
(nm (C_BO_setWithout a0 x2) fun r6 =>
bd (C_LT_contains a0 x2) fun r10 =>
if r10 = 0 then
(nm (x2 + (1 : Int32) : Int32) fun x13 =>
some (.inl x13))
else
(ri 256 r6 <|
bd (C_BO_costBefore G x2 r6) fun r16 =>
ri 256 (a0 &&& (255 : Int32)) <|
if (G 35 r6.toNatClampNeg) + r16 = G 35 (a0 &&& (255 : Int32)).toNatClampNeg then
(some (.inr x2))
else
(nm (x2 + (1 : Int32) : Int32) fun x20 =>
some (.inl x20))))
def C_BO_foremostOf (G : Nat → Nat → Int32) (a0 : Int32) : Option (Int32) :=
lp (fun q => C_BO_foremostOf_s1 a0 G q) FU (0 : Int32)
set_option maxRecDepth 100000 in
set_option maxHeartbeats 4000000 in
theorem cC_BO_foremostOf (G : Nat → Nat → Int32) (E : Nat → Nat → Int64) (Dd : Nat → Nat → UInt64) (P : Nat → Option PRec) (Z : List PRec) (a0 : Int32) (rv : Int32)  (hf : C_BO_foremostOf G a0 = some rv) : sMi D (cT cI cJ cD cS) (cW ad cI cJ cD cS) l yX0_foremostOf (ws1 yX0_foremostOf cX0_foremostOf 4 (some .int)) ({ frames := 1, cells := 0, slots := 0, locals := 23 }) [.ref (ad 24), .int a0] (G, E, Dd, P, Z) (rv, (G, E, Dd, P, Z)) := by
  unfold C_BO_foremostOf at hf
  refine sMi_of (by decide) (Nat.le_of_ble_eq_true rfl) ?_
  intro p e R s m args below meth c A Q ls H lo F hRf hRl I hl ret
  obtain ⟨hx, hb, hml, hown, hG⟩ := id F
  replace hl : lv_has ls 4 [(0, .ref (ad 24)), (1, .int a0)] := hl
  refine lv_iconst (v := (0 : Int32)) hx hb dX0_foremostOf_0 (by decide) ?_
  refine lv_istore_n (lv' := [(2, .int (0 : Int32)), (0, .ref (ad 24)), (1, .int a0)]) hx hb dX0_foremostOf_1 rfl hl (by decide) rfl (fun ls_1 hl_1 => ?_)
  have hq1 : lp (fun q => C_BO_foremostOf_s1 a0 G q) FU (0 : Int32) = some rv := hf
  have L1 : ∀ (n : Nat) (x2 : Int32), lp (fun q => C_BO_foremostOf_s1 a0 G q) n x2 = some rv → ∀ (H : Heap) (locs : List Loc), sInv D (cT cI cJ cD cS) (cW ad cI cJ cD cS) A s H locs (G, E, Dd, P, Z) → ∀ (ls : Array Slot), lv_has ls 4 [(0, .ref (ad 24)), (1, .int a0), (2, .int x2)] → W p l e R s m args below meth c H locs 0 0 Q (F0 m 2 ls []) := by
    intro n
    induction n with
    | zero => intro x2 hq; exact (lp_0 hq).elim
    | succ n ih1 =>
      intro x2 hq H_3 lo_3 I_3 ls_4 hl_4
      obtain ⟨y1, hf, hK1⟩ := lp_go hq
      replace hf : C_BO_foremostOf_s1 a0 G x2 = some y1 := hf
      unfold C_BO_foremostOf_s1 at hf
      refine lv_iload_n hx hb dX0_foremostOf_2 rfl (lv_at hl_4 2 rfl) ?_
      refine lv_aload_n hx hb dX0_foremostOf_3 rfl (lv_at hl_4 0 rfl) ?_
      refine kgtX0_15_24 F I_3 dX0_foremostOf_4 ?_
      refine lv_icmp_ge (tgt := 58) hx hb dX0_foremostOf_7 (by decide) (fun c24 => ?_) (fun c24 => ?_)
      · replace hf := (if_pos c24).symm.trans hf
        refine lv_iconst (v := (0 : Int32)) hx hb dX0_foremostOf_58 (by decide) ?_
        cases hf
        have hf := congrArg some (show _ = _ from hK1)
        cases hf
        exact ret H_3 lo_3 _ ls_4 I_3 dX0_foremostOf_59
      · replace hf := (if_neg c24).symm.trans hf
        refine lv_iload_n hx hb dX0_foremostOf_10 rfl (lv_at hl_4 1 rfl) ?_
        refine lv_iload_n hx hb dX0_foremostOf_11 rfl (lv_at hl_4 2 rfl) ?_
        obtain ⟨r6, h7⟩ : ∃ z, z = C_BO_setWithout a0 x2 := ⟨_, rfl⟩
        replace hf := nm_some h7 hf
        refine s_callSi (As := [.int a0, .int x2]) (rest := []) F I_3 (cC_BO_setWithout G E Dd P Z a0 x2 r6 h7) kX0_77 ⟨rfl, rfl⟩ ⟨Nat.le_trans (Nat.le_of_ble_eq_true rfl) hRf, Nat.le_trans (Nat.le_of_ble_eq_true rfl) hRl⟩ rfl rfl hl_4.1 (Nat.le_of_ble_eq_true rfl) ⟨Nat.zero_le _, Nat.zero_le _⟩ dX0_foremostOf_12 ?_
        intro H_8 lo_8 I_8
        refine lv_istore_n (lv' := [(3, .int r6), (0, .ref (ad 24)), (1, .int a0), (2, .int x2)]) hx hb dX0_foremostOf_15 rfl hl_4 (by decide) rfl (fun ls_9 hl_9 => ?_)
        refine lv_iload_n hx hb dX0_foremostOf_16 rfl (lv_at hl_9 2 rfl) ?_
        refine lv_iload_n hx hb dX0_foremostOf_17 rfl (lv_at hl_9 3 rfl) ?_
        obtain ⟨r10, h11, hf⟩ := bd_some hf
        refine s_callSNi (As := [.int a0, .int x2]) (rest := []) F I_8 (cC_LT_contains G E Dd P Z a0 x2 r10 h11) kX0_73 ⟨rfl, rfl⟩ ⟨Nat.le_trans (Nat.le_of_ble_eq_true rfl) hRf, Nat.le_trans (Nat.le_of_ble_eq_true rfl) hRl⟩ rfl rfl hl_9.1 (Nat.le_of_ble_eq_true rfl) ⟨Nat.zero_le _, Nat.zero_le _⟩ dX0_foremostOf_18 ?_
        intro H_12 lo_12 I_12
        refine lv_if_eq (tgt := 52) hx hb dX0_foremostOf_21 (by decide) (fun c23 => ?_) (fun c23 => ?_)
        · replace hf := (if_pos c23).symm.trans hf
          obtain ⟨x13, ex13⟩ : ∃ y : Int32, y = x2 + (1 : Int32) := ⟨_, rfl⟩
          replace hf := nm_some ex13 hf
          refine lv_iinc (v := x13) (lv' := [(2, .int x13), (3, .int r6), (0, .ref (ad 24)), (1, .int a0)]) hx hb dX0_foremostOf_52 hl_9 (k := 3) rfl (by rw [ex13]; rfl) (by decide) rfl (fun ls_14 hl_14 => ?_)
          refine lv_goto (tgt := 2) hx hb dX0_foremostOf_55 (by decide) ?_
          cases hf
          exact ih1 _ hK1 H_12 lo_12 I_12 ls_14 (lv_sub hl_14 [2, 3, 0] rfl)
        · replace hf := (if_neg c23).symm.trans hf
          refine lv_aload_n hx hb dX0_foremostOf_24 rfl (lv_at hl_9 1 rfl) ?_
          refine kgtX0_29_24 F I_12 dX0_foremostOf_25 ?_
          refine lv_iload_n hx hb dX0_foremostOf_28 rfl (lv_at hl_9 0 rfl) ?_
          obtain ⟨g15, hf⟩ := ri_some hf
          refine kal26 F I_12 g15 dX0_foremostOf_29 ?_
          refine lv_aload_n hx hb dX0_foremostOf_30 rfl (lv_at hl_9 1 rfl) ?_
          refine lv_iload_n hx hb dX0_foremostOf_31 rfl (lv_at hl_9 3 rfl) ?_
          refine lv_iload_n hx hb dX0_foremostOf_32 rfl (lv_at hl_9 0 rfl) ?_
          obtain ⟨r16, h17, hf⟩ := bd_some hf
          refine s_callVi (As := [.int x2, .int r6]) (rest := [.int (G 35 r6.toNatClampNeg)]) F I_12 (cC_BO_costBefore G E Dd P Z x2 r6 r16 h17) kX0_80 ⟨rfl, rfl⟩ ⟨Nat.le_trans (Nat.le_of_ble_eq_true rfl) hRf, Nat.le_trans (Nat.le_of_ble_eq_true rfl) hRl⟩ (24) 0 rfl rfl rfl rfl rfl hl_9.1 (Nat.le_of_ble_eq_true rfl) ⟨Nat.zero_le _, Nat.zero_le _⟩ dX0_foremostOf_33 ?_
          intro H_18 lo_18 I_18
          refine lv_iadd hx hb dX0_foremostOf_36 ?_
          refine lv_aload_n hx hb dX0_foremostOf_37 rfl (lv_at hl_9 1 rfl) ?_
          refine kgtX0_29_24 F I_18 dX0_foremostOf_38 ?_
          refine lv_iload_n hx hb dX0_foremostOf_41 rfl (lv_at hl_9 2 rfl) ?_
          refine lv_sipush (v := (255 : Int32)) hx hb dX0_foremostOf_42 (by decide) ?_
          refine lv_iand hx hb dX0_foremostOf_45 ?_
          obtain ⟨g19, hf⟩ := ri_some hf
          refine kal26 F I_18 g19 dX0_foremostOf_46 ?_
          refine lv_icmp_ne (tgt := 52) hx hb dX0_foremostOf_47 (by decide) (fun c22 => ?_) (fun c22 => ?_)
          · replace hf := (if_neg c22).symm.trans hf
            obtain ⟨x20, ex20⟩ : ∃ y : Int32, y = x2 + (1 : Int32) := ⟨_, rfl⟩
            replace hf := nm_some ex20 hf
            refine lv_iinc (v := x20) (lv' := [(2, .int x20), (3, .int r6), (0, .ref (ad 24)), (1, .int a0)]) hx hb dX0_foremostOf_52 hl_9 (k := 3) rfl (by rw [ex20]; rfl) (by decide) rfl (fun ls_21 hl_21 => ?_)
            refine lv_goto (tgt := 2) hx hb dX0_foremostOf_55 (by decide) ?_
            cases hf
            exact ih1 _ hK1 H_18 lo_18 I_18 ls_21 (lv_sub hl_21 [2, 3, 0] rfl)
          · replace hf := (if_pos c22).symm.trans hf
            refine lv_iload_n hx hb dX0_foremostOf_50 rfl (lv_at hl_9 3 rfl) ?_
            cases hf
            have hf := congrArg some (show _ = _ from hK1)
            cases hf
            exact ret H_18 lo_18 _ ls_9 I_18 dX0_foremostOf_51
  exact L1 FU _ hq1 H lo I ls_1 (lv_sub hl_1 [1, 2, 0] rfl)
def C_BO_readOff_s1  (x4 : Int32) (x5 : Int32) (G6 : Nat → Nat → Int32) : Option ((Int32 × Int32 × (Nat → Nat → Int32)) ⊕ ((Nat → Nat → Int32))) :=
if G6 31 0 ≤ x5 then
(some (.inr G6))
else
(bd (C_BO_foremostOf G6 x4) fun r14 =>
ri 8 x5 <|
nm (wr G6 34 x5 r14) fun G19 =>
nm (C_BO_setWithout x4 r14) fun r21 =>
nm (x5 + (1 : Int32) : Int32) fun x25 =>
some (.inl (r21, x25, G19)))
def C_BO_readOff (G : Nat → Nat → Int32) (a0 : Int32) : Option ((Nat → Nat → Int32)) :=
nm (a0 &&& (255 : Int32) : Int32) fun x1 =>
bd (lp (fun q => C_BO_readOff_s1 q.1 q.2.1 q.2.2) FU (x1, (0 : Int32), G)) fun G7 =>
some G7
set_option maxRecDepth 100000 in
set_option maxHeartbeats 4000000 in
theorem cC_BO_readOff (G : Nat → Nat → Int32) (E : Nat → Nat → Int64) (Dd : Nat → Nat → UInt64) (P : Nat → Option PRec) (Z : List PRec) (a0 : Int32)  (newG : Nat → Nat → Int32) (hf : C_BO_readOff G a0 = some newG) : sMv D (cT cI cJ cD cS) (cW ad cI cJ cD cS) l yX0_readOff (ws1 yX0_readOff cX0_readOff 5 none) ({ frames := 2, cells := 0, slots := 0, locals := 46 }) [.ref (ad 24), .int a0] (G, E, Dd, P, Z) (newG, E, Dd, P, Z) := by
  unfold C_BO_readOff at hf
  refine sMv_of (by decide) (Nat.le_of_ble_eq_true rfl) ?_
  intro p e R s m args below meth c A Q ls H lo F hRf hRl I hl ret
  obtain ⟨hx, hb, hml, hown, hG⟩ := id F
  replace hl : lv_has ls 5 [(0, .ref (ad 24)), (1, .int a0)] := hl
  refine lv_iload_n hx hb dX0_readOff_0 rfl (lv_at hl 1 rfl) ?_
  refine lv_sipush (v := (255 : Int32)) hx hb dX0_readOff_1 (by decide) ?_
  refine lv_iand hx hb dX0_readOff_4 ?_
  refine lv_topi (fun x1 ex1 => ?_)
  replace hf := nm_some ex1 hf
  refine lv_istore_n (lv' := [(2, .int x1), (0, .ref (ad 24)), (1, .int a0)]) hx hb dX0_readOff_5 rfl hl (by decide) rfl (fun ls_2 hl_2 => ?_)
  refine lv_iconst (v := (0 : Int32)) hx hb dX0_readOff_6 (by decide) ?_
  refine lv_istore_n (lv' := [(3, .int (0 : Int32)), (2, .int x1), (0, .ref (ad 24)), (1, .int a0)]) hx hb dX0_readOff_7 rfl hl_2 (by decide) rfl (fun ls_3 hl_3 => ?_)
  obtain ⟨G7, hq1, hf⟩ := bd_some hf
  have K1 : ∀ (H : Heap) (locs : List Loc), sInv D (cT cI cJ cD cS) (cW ad cI cJ cD cS) A s H locs (G7, E, Dd, P, Z) → ∀ (ls : Array Slot), lv_has ls 5 [] → W p l e R s m args below meth c H locs 0 0 Q (F0 m 44 ls []) := by
    intro H_8 lo_8 I_8 ls_9 hl_9
    cases hf
    exact ret H_8 lo_8 _ ls_9 I_8 dX0_readOff_44
  have L1 : ∀ (n : Nat) (x4 : Int32) (x5 : Int32) (G6 : Nat → Nat → Int32), lp (fun q => C_BO_readOff_s1 q.1 q.2.1 q.2.2) n (x4, x5, G6) = some G7 → ∀ (H : Heap) (locs : List Loc), sInv D (cT cI cJ cD cS) (cW ad cI cJ cD cS) A s H locs (G6, E, Dd, P, Z) → ∀ (ls : Array Slot), lv_has ls 5 [(0, .ref (ad 24)), (2, .int x4), (3, .int x5)] → W p l e R s m args below meth c H locs 0 0 Q (F0 m 8 ls []) := by
    intro n
    induction n with
    | zero => intro x4 x5 G6 hq; exact (lp_0 hq).elim
    | succ n ih1 =>
      intro x4 x5 G6 hq H_11 lo_11 I_11 ls_12 hl_12
      obtain ⟨y1, hf, hK1⟩ := lp_go hq
      replace hf : C_BO_readOff_s1 x4 x5 G6 = some y1 := hf
      unfold C_BO_readOff_s1 at hf
      refine lv_iload_n hx hb dX0_readOff_8 rfl (lv_at hl_12 2 rfl) ?_
      refine lv_aload_n hx hb dX0_readOff_9 rfl (lv_at hl_12 0 rfl) ?_
      refine kgtX0_15_24 F I_11 dX0_readOff_10 ?_
      refine lv_icmp_ge (tgt := 44) hx hb dX0_readOff_13 (by decide) (fun c27 => ?_) (fun c27 => ?_)
      · replace hf := (if_pos c27).symm.trans hf
        cases hf
        cases (show G6 = G7 from hK1)
        exact K1 H_11 lo_11 I_11 ls_12 (lv_sub hl_12 [] rfl)
      · replace hf := (if_neg c27).symm.trans hf
        refine lv_aload_n hx hb dX0_readOff_16 rfl (lv_at hl_12 0 rfl) ?_
        refine lv_iload_n hx hb dX0_readOff_17 rfl (lv_at hl_12 1 rfl) ?_
        obtain ⟨r14, h15, hf⟩ := bd_some hf
        refine s_callVi (As := [.int x4]) (rest := []) F I_11 (cC_BO_foremostOf G6 E Dd P Z x4 r14 h15) kX0_83 ⟨rfl, rfl⟩ ⟨Nat.le_trans (Nat.le_of_ble_eq_true rfl) hRf, Nat.le_trans (Nat.le_of_ble_eq_true rfl) hRl⟩ (24) 0 rfl rfl rfl rfl rfl hl_12.1 (Nat.le_of_ble_eq_true rfl) ⟨Nat.zero_le _, Nat.zero_le _⟩ dX0_readOff_18 ?_
        intro H_16 lo_16 I_16
        refine lv_istore (lv' := [(4, .int r14), (0, .ref (ad 24)), (2, .int x4), (3, .int x5)]) hx hb dX0_readOff_21 hl_12 (by decide) rfl (fun ls_17 hl_17 => ?_)
        refine lv_aload_n hx hb dX0_readOff_23 rfl (lv_at hl_17 1 rfl) ?_
        refine kgtX0_25_24 F I_16 dX0_readOff_24 ?_
        refine lv_iload_n hx hb dX0_readOff_27 rfl (lv_at hl_17 3 rfl) ?_
        refine lv_iload hx hb dX0_readOff_28 (lv_at hl_17 0 rfl) ?_
        obtain ⟨g18, hf⟩ := ri_some hf
        refine kas25 F I_16 g18 dX0_readOff_30 ?_
        intro H_20 lo_20 G19 eG19 I_20
        replace hf := nm_some eG19 hf
        refine lv_iload_n hx hb dX0_readOff_31 rfl (lv_at hl_17 2 rfl) ?_
        refine lv_iload hx hb dX0_readOff_32 (lv_at hl_17 0 rfl) ?_
        obtain ⟨r21, h22⟩ : ∃ z, z = C_BO_setWithout x4 r14 := ⟨_, rfl⟩
        replace hf := nm_some h22 hf
        refine s_callSi (As := [.int x4, .int r14]) (rest := []) F I_20 (cC_BO_setWithout G19 E Dd P Z x4 r14 r21 h22) kX0_77 ⟨rfl, rfl⟩ ⟨Nat.le_trans (Nat.le_of_ble_eq_true rfl) hRf, Nat.le_trans (Nat.le_of_ble_eq_true rfl) hRl⟩ rfl rfl hl_17.1 (Nat.le_of_ble_eq_true rfl) ⟨Nat.zero_le _, Nat.zero_le _⟩ dX0_readOff_34 ?_
        intro H_23 lo_23 I_23
        refine lv_istore_n (lv' := [(2, .int r21), (4, .int r14), (0, .ref (ad 24)), (3, .int x5)]) hx hb dX0_readOff_37 rfl hl_17 (by decide) rfl (fun ls_24 hl_24 => ?_)
        obtain ⟨x25, ex25⟩ : ∃ y : Int32, y = x5 + (1 : Int32) := ⟨_, rfl⟩
        replace hf := nm_some ex25 hf
        refine lv_iinc (v := x25) (lv' := [(3, .int x25), (2, .int r21), (4, .int r14), (0, .ref (ad 24))]) hx hb dX0_readOff_38 hl_24 (k := 3) rfl (by rw [ex25]; rfl) (by decide) rfl (fun ls_26 hl_26 => ?_)
        refine lv_goto (tgt := 8) hx hb dX0_readOff_41 (by decide) ?_
        cases hf
        exact ih1 _ _ _ hK1 H_23 lo_23 I_23 ls_26 (lv_sub hl_26 [3, 1, 0] rfl)
  exact L1 FU _ _ _ hq1 H lo I ls_3 (lv_sub hl_3 [2, 1, 0] rfl)
def C_BO_solve_s1 (a0 : Int32) (G : Nat → Nat → Int32) (x4 : Int32) (x5 : Int32) (x6 : Int32) : Option ((Int32 × Int32 × Int32) ⊕ (Int32 × Int32)) :=
if G 31 0 ≤ x6 then
(some (.inr (x4, x5)))
else
(bd (C_LT_contains a0 x6) fun r21 =>
bd2 (if r21 = 0 then
(some (x4, x5))
else
(nm (C_BO_setWithout a0 x6) fun r33 =>
ri 256 r33 <|
bd (C_BO_costBefore G x6 r33) fun r38 =>
nm ((G 35 r33.toNatClampNeg) + r38 : Int32) fun x41 =>
bd2 (if x4 ≤ x41 then
(some (x4, x5))
else
(some (x41, (0 : Int32)))) fun x44 x45 =>
if x41 = x44 then
(ri 256 r33 <|
nm (x45 + (G 36 r33.toNatClampNeg) : Int32) fun x50 =>
some (x44, x50))
else
(some (x44, x45)))) fun x25 x26 =>
nm (x6 + (1 : Int32) : Int32) fun x30 =>
some (.inl (x25, x26, x30)))
def C_BO_solve (G : Nat → Nat → Int32) (a0 : Int32) : Option ((Nat → Nat → Int32)) :=
bd2 (lp (fun q => C_BO_solve_s1 a0 G q.1 q.2.1 q.2.2) FU ((2147483647 : Int32), (0 : Int32), (0 : Int32))) fun x7 x8 =>
ri 256 (a0 &&& (255 : Int32)) <|
nm (wr G 35 (a0 &&& (255 : Int32)) x7) fun G13 =>
ri 256 (a0 &&& (255 : Int32)) <|
nm (wr G13 36 (a0 &&& (255 : Int32)) x8) fun G16 =>
some G16
set_option maxRecDepth 100000 in
set_option maxHeartbeats 4000000 in
theorem cC_BO_solve (G : Nat → Nat → Int32) (E : Nat → Nat → Int64) (Dd : Nat → Nat → UInt64) (P : Nat → Option PRec) (Z : List PRec) (a0 : Int32)  (newG : Nat → Nat → Int32) (hf : C_BO_solve G a0 = some newG) : sMv D (cT cI cJ cD cS) (cW ad cI cJ cD cS) l yX0_solve (ws1 yX0_solve cX0_solve 7 none) ({ frames := 1, cells := 0, slots := 0, locals := 23 }) [.ref (ad 24), .int a0] (G, E, Dd, P, Z) (newG, E, Dd, P, Z) := by
  unfold C_BO_solve at hf
  refine sMv_of (by decide) (Nat.le_of_ble_eq_true rfl) ?_
  intro p e R s m args below meth c A Q ls H lo F hRf hRl I hl ret
  obtain ⟨hx, hb, hml, hown, hG⟩ := id F
  replace hl : lv_has ls 7 [(0, .ref (ad 24)), (1, .int a0)] := hl
  refine lv_ldc (v := (2147483647 : Int32)) hx hb hown (hG _ q710) dX0_solve_0 ?_
  refine lv_istore_n (lv' := [(2, .int (2147483647 : Int32)), (0, .ref (ad 24)), (1, .int a0)]) hx hb dX0_solve_2 rfl hl (by decide) rfl (fun ls_1 hl_1 => ?_)
  refine lv_iconst (v := (0 : Int32)) hx hb dX0_solve_3 (by decide) ?_
  refine lv_istore_n (lv' := [(3, .int (0 : Int32)), (2, .int (2147483647 : Int32)), (0, .ref (ad 24)), (1, .int a0)]) hx hb dX0_solve_4 rfl hl_1 (by decide) rfl (fun ls_2 hl_2 => ?_)
  refine lv_iconst (v := (0 : Int32)) hx hb dX0_solve_5 (by decide) ?_
  refine lv_istore (lv' := [(4, .int (0 : Int32)), (3, .int (0 : Int32)), (2, .int (2147483647 : Int32)), (0, .ref (ad 24)), (1, .int a0)]) hx hb dX0_solve_6 hl_2 (by decide) rfl (fun ls_3 hl_3 => ?_)
  obtain ⟨x7, x8, hq1, hf⟩ := bd2_some hf
  have K1 : ∀ (H : Heap) (locs : List Loc), sInv D (cT cI cJ cD cS) (cW ad cI cJ cD cS) A s H locs (G, E, Dd, P, Z) → ∀ (ls : Array Slot), lv_has ls 7 [(0, .ref (ad 24)), (1, .int a0), (2, .int x7), (3, .int x8)] → W p l e R s m args below meth c H locs 0 0 Q (F0 m 85 ls []) := by
    intro H_9 lo_9 I_9 ls_10 hl_10
    refine lv_aload_n hx hb dX0_solve_85 rfl (lv_at hl_10 0 rfl) ?_
    refine kgtX0_29_24 F I_9 dX0_solve_86 ?_
    refine lv_iload_n hx hb dX0_solve_89 rfl (lv_at hl_10 1 rfl) ?_
    refine lv_sipush (v := (255 : Int32)) hx hb dX0_solve_90 (by decide) ?_
    refine lv_iand hx hb dX0_solve_93 ?_
    refine lv_iload_n hx hb dX0_solve_94 rfl (lv_at hl_10 2 rfl) ?_
    obtain ⟨g12, hf⟩ := ri_some hf
    refine kas26 F I_9 g12 dX0_solve_95 ?_
    intro H_14 lo_14 G13 eG13 I_14
    replace hf := nm_some eG13 hf
    refine lv_aload_n hx hb dX0_solve_96 rfl (lv_at hl_10 0 rfl) ?_
    refine kgtX0_32_24 F I_14 dX0_solve_97 ?_
    refine lv_iload_n hx hb dX0_solve_100 rfl (lv_at hl_10 1 rfl) ?_
    refine lv_sipush (v := (255 : Int32)) hx hb dX0_solve_101 (by decide) ?_
    refine lv_iand hx hb dX0_solve_104 ?_
    refine lv_iload_n hx hb dX0_solve_105 rfl (lv_at hl_10 3 rfl) ?_
    obtain ⟨g15, hf⟩ := ri_some hf
    refine kas27 F I_14 g15 dX0_solve_106 ?_
    intro H_17 lo_17 G16 eG16 I_17
    replace hf := nm_some eG16 hf
    cases hf
    exact ret H_17 lo_17 _ ls_10 I_17 dX0_solve_107
  have L1 : ∀ (n : Nat) (x4 : Int32) (x5 : Int32) (x6 : Int32), lp (fun q => C_BO_solve_s1 a0 G q.1 q.2.1 q.2.2) n (x4, x5, x6) = some (x7, x8) → ∀ (H : Heap) (locs : List Loc), sInv D (cT cI cJ cD cS) (cW ad cI cJ cD cS) A s H locs (G, E, Dd, P, Z) → ∀ (ls : Array Slot), lv_has ls 7 [(0, .ref (ad 24)), (1, .int a0), (2, .int x4), (3, .int x5), (4, .int x6)] → W p l e R s m args below meth c H locs 0 0 Q (F0 m 8 ls []) := by
    intro n
    induction n with
    | zero => intro x4 x5 x6 hq; exact (lp_0 hq).elim
    | succ n ih1 =>
      intro x4 x5 x6 hq H_18 lo_18 I_18 ls_19 hl_19
      obtain ⟨y1, hf, hK1⟩ := lp_go hq
      replace hf : C_BO_solve_s1 a0 G x4 x5 x6 = some y1 := hf
      unfold C_BO_solve_s1 at hf
      refine lv_iload hx hb dX0_solve_8 (lv_at hl_19 4 rfl) ?_
      refine lv_aload_n hx hb dX0_solve_10 rfl (lv_at hl_19 0 rfl) ?_
      refine kgtX0_15_24 F I_18 dX0_solve_11 ?_
      refine lv_icmp_ge (tgt := 85) hx hb dX0_solve_14 (by decide) (fun c58 => ?_) (fun c58 => ?_)
      · replace hf := (if_pos c58).symm.trans hf
        cases hf
        cases (show (x4, x5) = (x7, x8) from hK1)
        exact K1 H_18 lo_18 I_18 ls_19 (lv_sub hl_19 [0, 1, 2, 3] rfl)
      · replace hf := (if_neg c58).symm.trans hf
        refine lv_iload_n hx hb dX0_solve_17 rfl (lv_at hl_19 1 rfl) ?_
        refine lv_iload hx hb dX0_solve_18 (lv_at hl_19 4 rfl) ?_
        obtain ⟨r21, h22, hf⟩ := bd_some hf
        refine s_callSNi (As := [.int a0, .int x6]) (rest := []) F I_18 (cC_LT_contains G E Dd P Z a0 x6 r21 h22) kX0_73 ⟨rfl, rfl⟩ ⟨Nat.le_trans (Nat.le_of_ble_eq_true rfl) hRf, Nat.le_trans (Nat.le_of_ble_eq_true rfl) hRl⟩ rfl rfl hl_19.1 (Nat.le_of_ble_eq_true rfl) ⟨Nat.zero_le _, Nat.zero_le _⟩ dX0_solve_20 ?_
        intro H_23 lo_23 I_23
        obtain ⟨x25, x26, hv32, hf⟩ := bd2_some hf
        have J24 : ∀ (H : Heap) (locs : List Loc), sInv D (cT cI cJ cD cS) (cW ad cI cJ cD cS) A s H locs (G, E, Dd, P, Z) → ∀ (ls : Array Slot), lv_has ls 7 [(0, .ref (ad 24)), (1, .int a0), (2, .int x25), (3, .int x26), (4, .int x6)] → W p l e R s m args below meth c H locs 0 0 Q (F0 m 79 ls []) := by
          intro H_27 lo_27 I_27 ls_28 hl_28
          obtain ⟨x30, ex30⟩ : ∃ y : Int32, y = x6 + (1 : Int32) := ⟨_, rfl⟩
          replace hf := nm_some ex30 hf
          refine lv_iinc (v := x30) (lv' := [(4, .int x30), (0, .ref (ad 24)), (1, .int a0), (2, .int x25), (3, .int x26)]) hx hb dX0_solve_79 hl_28 (k := 4) rfl (by rw [ex30]; rfl) (by decide) rfl (fun ls_31 hl_31 => ?_)
          refine lv_goto (tgt := 8) hx hb dX0_solve_82 (by decide) ?_
          cases hf
          exact ih1 _ _ _ hK1 H_27 lo_27 I_27 ls_31 (lv_sub hl_31 [1, 2, 3, 4, 0] rfl)
        replace hf := hv32
        refine lv_if_eq (tgt := 79) hx hb dX0_solve_23 (by decide) (fun c57 => ?_) (fun c57 => ?_)
        · replace hf := (if_pos c57).symm.trans hf
          cases hf
          exact J24 H_23 lo_23 I_23 ls_19 (lv_sub hl_19 [0, 1, 2, 3, 4] rfl)
        · replace hf := (if_neg c57).symm.trans hf
          refine lv_iload_n hx hb dX0_solve_26 rfl (lv_at hl_19 1 rfl) ?_
          refine lv_iload hx hb dX0_solve_27 (lv_at hl_19 4 rfl) ?_
          obtain ⟨r33, h34⟩ : ∃ z, z = C_BO_setWithout a0 x6 := ⟨_, rfl⟩
          replace hf := nm_some h34 hf
          refine s_callSi (As := [.int a0, .int x6]) (rest := []) F I_23 (cC_BO_setWithout G E Dd P Z a0 x6 r33 h34) kX0_77 ⟨rfl, rfl⟩ ⟨Nat.le_trans (Nat.le_of_ble_eq_true rfl) hRf, Nat.le_trans (Nat.le_of_ble_eq_true rfl) hRl⟩ rfl rfl hl_19.1 (Nat.le_of_ble_eq_true rfl) ⟨Nat.zero_le _, Nat.zero_le _⟩ dX0_solve_29 ?_
          intro H_35 lo_35 I_35
          refine lv_istore (lv' := [(5, .int r33), (0, .ref (ad 24)), (1, .int a0), (2, .int x4), (3, .int x5), (4, .int x6)]) hx hb dX0_solve_32 hl_19 (by decide) rfl (fun ls_36 hl_36 => ?_)
          refine lv_aload_n hx hb dX0_solve_34 rfl (lv_at hl_36 1 rfl) ?_
          refine kgtX0_29_24 F I_35 dX0_solve_35 ?_
          refine lv_iload hx hb dX0_solve_38 (lv_at hl_36 0 rfl) ?_
          obtain ⟨g37, hf⟩ := ri_some hf
          refine kal26 F I_35 g37 dX0_solve_40 ?_
          refine lv_aload_n hx hb dX0_solve_41 rfl (lv_at hl_36 1 rfl) ?_
          refine lv_iload hx hb dX0_solve_42 (lv_at hl_36 5 rfl) ?_
          refine lv_iload hx hb dX0_solve_44 (lv_at hl_36 0 rfl) ?_
          obtain ⟨r38, h39, hf⟩ := bd_some hf
          refine s_callVi (As := [.int x6, .int r33]) (rest := [.int (G 35 r33.toNatClampNeg)]) F I_35 (cC_BO_costBefore G E Dd P Z x6 r33 r38 h39) kX0_80 ⟨rfl, rfl⟩ ⟨Nat.le_trans (Nat.le_of_ble_eq_true rfl) hRf, Nat.le_trans (Nat.le_of_ble_eq_true rfl) hRl⟩ (24) 0 rfl rfl rfl rfl rfl hl_36.1 (Nat.le_of_ble_eq_true rfl) ⟨Nat.zero_le _, Nat.zero_le _⟩ dX0_solve_46 ?_
          intro H_40 lo_40 I_40
          refine lv_iadd hx hb dX0_solve_49 ?_
          refine lv_topi (fun x41 ex41 => ?_)
          replace hf := nm_some ex41 hf
          refine lv_istore (lv' := [(6, .int x41), (5, .int r33), (0, .ref (ad 24)), (1, .int a0), (2, .int x4), (3, .int x5), (4, .int x6)]) hx hb dX0_solve_50 hl_36 (by decide) rfl (fun ls_42 hl_42 => ?_)
          refine lv_iload hx hb dX0_solve_52 (lv_at hl_42 0 rfl) ?_
          refine lv_iload_n hx hb dX0_solve_54 rfl (lv_at hl_42 4 rfl) ?_
          obtain ⟨x44, x45, hv53, hf⟩ := bd2_some hf
          have J43 : ∀ (H : Heap) (locs : List Loc), sInv D (cT cI cJ cD cS) (cW ad cI cJ cD cS) A s H locs (G, E, Dd, P, Z) → ∀ (ls : Array Slot), lv_has ls 7 [(0, .ref (ad 24)), (1, .int a0), (2, .int x44), (3, .int x45), (4, .int x6), (5, .int r33), (6, .int x41)] → W p l e R s m args below meth c H locs 0 0 Q (F0 m 63 ls []) := by
            intro H_46 lo_46 I_46 ls_47 hl_47
            refine lv_iload hx hb dX0_solve_63 (lv_at hl_47 6 rfl) ?_
            refine lv_iload_n hx hb dX0_solve_65 rfl (lv_at hl_47 2 rfl) ?_
            refine lv_icmp_ne (tgt := 79) hx hb dX0_solve_66 (by decide) (fun c52 => ?_) (fun c52 => ?_)
            · replace hf := (if_neg c52).symm.trans hf
              cases hf
              exact J24 H_46 lo_46 I_46 ls_47 (lv_sub hl_47 [0, 1, 2, 3, 4] rfl)
            · replace hf := (if_pos c52).symm.trans hf
              refine lv_iload_n hx hb dX0_solve_69 rfl (lv_at hl_47 3 rfl) ?_
              refine lv_aload_n hx hb dX0_solve_70 rfl (lv_at hl_47 0 rfl) ?_
              refine kgtX0_32_24 F I_46 dX0_solve_71 ?_
              refine lv_iload hx hb dX0_solve_74 (lv_at hl_47 5 rfl) ?_
              obtain ⟨g49, hf⟩ := ri_some hf
              refine kal27 F I_46 g49 dX0_solve_76 ?_
              refine lv_iadd hx hb dX0_solve_77 ?_
              refine lv_topi (fun x50 ex50 => ?_)
              replace hf := nm_some ex50 hf
              refine lv_istore_n (lv' := [(3, .int x50), (0, .ref (ad 24)), (1, .int a0), (2, .int x44), (4, .int x6), (5, .int r33), (6, .int x41)]) hx hb dX0_solve_78 rfl hl_47 (by decide) rfl (fun ls_51 hl_51 => ?_)
              cases hf
              exact J24 H_46 lo_46 I_46 ls_51 (lv_sub hl_51 [1, 2, 3, 0, 4] rfl)
          replace hf := hv53
          refine lv_icmp_ge (tgt := 63) hx hb dX0_solve_55 (by decide) (fun c56 => ?_) (fun c56 => ?_)
          · replace hf := (if_pos c56).symm.trans hf
            cases hf
            exact J43 H_40 lo_40 I_40 ls_42 (lv_sub hl_42 [2, 3, 4, 5, 6, 1, 0] rfl)
          · replace hf := (if_neg c56).symm.trans hf
            refine lv_iload hx hb dX0_solve_58 (lv_at hl_42 0 rfl) ?_
            refine lv_istore_n (lv' := [(2, .int x41), (6, .int x41), (5, .int r33), (0, .ref (ad 24)), (1, .int a0), (3, .int x5), (4, .int x6)]) hx hb dX0_solve_60 rfl hl_42 (by decide) rfl (fun ls_54 hl_54 => ?_)
            refine lv_iconst (v := (0 : Int32)) hx hb dX0_solve_61 (by decide) ?_
            refine lv_istore_n (lv' := [(3, .int (0 : Int32)), (2, .int x41), (6, .int x41), (5, .int r33), (0, .ref (ad 24)), (1, .int a0), (4, .int x6)]) hx hb dX0_solve_62 rfl hl_54 (by decide) rfl (fun ls_55 hl_55 => ?_)
            cases hf
            exact J43 H_40 lo_40 I_40 ls_55 (lv_sub hl_55 [4, 5, 1, 0, 6, 3, 2] rfl)
  exact L1 FU _ _ _ hq1 H lo I ls_3 (lv_sub hl_3 [3, 4, 2, 1, 0] rfl)
def C_BO_find_22_s1 (x14 : Int32) (x17 : Int32) (G18 : Nat → Nat → Int32) : Option ((Int32 × (Nat → Nat → Int32)) ⊕ ((Nat → Nat → Int32))) :=
if x14 < x17 then
(some (.inr G18))
else
(if (256 : Int32) ≤ x17 then
(some (.inr G18))
else
(bd (C_BO_solve G18 x17) fun G35 =>
nm (x17 + (1 : Int32) : Int32) fun x38 =>
some (.inl (x38, G35))))
def C_BO_find_22 (G : Nat → Nat → Int32) (a1 : Int32) : Option ((Nat → Nat → Int32)) :=
if G 30 0 = 0 then
(nm (wf G 30 (1 : Int32)) fun G1 =>
nm (wf G1 31 (if (8 : Int32) < a1 then (8 : Int32) else a1)) fun G3 =>
bd (C_BO_takeCosts_22 G3) fun G5 =>
ri 256 (0 : Int32) <|
nm (wr G5 35 (0 : Int32) (0 : Int32)) fun G9 =>
ri 256 (0 : Int32) <|
nm (wr G9 36 (0 : Int32) (1 : Int32)) fun G12 =>
nm (((1 : Int32) <<< ((G12 31 0) &&& 31)) - (1 : Int32) : Int32) fun x14 =>
bd (lp (fun q => C_BO_find_22_s1 x14 q.1 q.2) FU ((1 : Int32), G12)) fun G19 =>
ri 256 (x14 &&& (255 : Int32)) <|
nm (wf G19 32 (G19 35 (x14 &&& (255 : Int32)).toNatClampNeg)) fun G24 =>
ri 256 (x14 &&& (255 : Int32)) <|
nm (wf G24 33 (G24 36 (x14 &&& (255 : Int32)).toNatClampNeg)) fun G27 =>
bd (C_BO_readOff G27 x14) fun G29 =>
some G29)
else
(some G)
set_option maxRecDepth 100000 in
set_option maxHeartbeats 4000000 in
theorem cC_BO_find_22 (G : Nat → Nat → Int32) (E : Nat → Nat → Int64) (Dd : Nat → Nat → UInt64) (P : Nat → Option PRec) (Z : List PRec) (a1 : Int32)  (newG : Nat → Nat → Int32) (hf : C_BO_find_22 G a1 = some newG) : sMv D (cT cI cJ cD cS) (cW ad cI cJ cD cS) l yX0_find (ws1 yX0_find cX0_find 5 none) ({ frames := 3, cells := 0, slots := 0, locals := 70 }) [.ref (ad 24), .ref (ad 22), .int a1] (G, E, Dd, P, Z) (newG, E, Dd, P, Z) := by
  unfold C_BO_find_22 at hf
  refine sMv_of (by decide) (Nat.le_of_ble_eq_true rfl) ?_
  intro p e R s m args below meth c A Q ls H lo F hRf hRl I hl ret
  obtain ⟨hx, hb, hml, hown, hG⟩ := id F
  replace hl : lv_has ls 5 [(0, .ref (ad 24)), (1, .ref (ad 22)), (2, .int a1)] := hl
  refine lv_aload_n hx hb dX0_find_0 rfl (lv_at hl 0 rfl) ?_
  refine kgtX0_9_24 F I dX0_find_1 ?_
  refine lv_if_eq (tgt := 8) hx hb dX0_find_4 (by decide) (fun c42 => ?_) (fun c42 => ?_)
  · replace hf := (if_pos c42).symm.trans hf
    refine lv_aload_n hx hb dX0_find_8 rfl (lv_at hl 0 rfl) ?_
    refine lv_iconst (v := (1 : Int32)) hx hb dX0_find_9 (by decide) ?_
    refine kptX0_9_24 F I (by decide) dX0_find_10 ?_
    intro H_2 lo_2 G1 eG1 I_2
    replace hf := nm_some eG1 hf
    refine lv_aload_n hx hb dX0_find_13 rfl (lv_at hl 0 rfl) ?_
    refine lv_iload_n hx hb dX0_find_14 rfl (lv_at hl 2 rfl) ?_
    refine lv_bipush (v := (8 : Int32)) hx hb dX0_find_15 (by decide) ?_
    refine va_mmin (rest := [.ref (ad 24)]) hx hb (hml.trans hl.1.symm) hown (hG _ q690) (hG _ q467) (hG _ q126) (hG _ q468) (Nat.le_trans (Nat.le_of_ble_eq_true rfl) hRf) (Nat.le_trans (Nat.le_of_ble_eq_true rfl) hRl) (Nat.zero_le _) (Nat.zero_le _) dX0_find_17 ?_
    refine kptX0_15_24 F I_2 dX0_find_20 ?_
    intro H_4 lo_4 G3 eG3 I_4
    replace hf := nm_some eG3 hf
    refine lv_aload_n hx hb dX0_find_23 rfl (lv_at hl 0 rfl) ?_
    refine lv_aload_n hx hb dX0_find_24 rfl (lv_at hl 1 rfl) ?_
    obtain ⟨G5, h6, hf⟩ := bd_some hf
    refine s_callVv (As := [.ref (ad 22)]) (rest := []) F I_4 (cC_BO_takeCosts_22 G3 E Dd P Z G5 h6) kX0_47 ⟨rfl, rfl⟩ ⟨Nat.le_trans (Nat.le_of_ble_eq_true rfl) hRf, Nat.le_trans (Nat.le_of_ble_eq_true rfl) hRl⟩ (24) 0 rfl rfl rfl rfl rfl hl.1 (Nat.le_of_ble_eq_true rfl) ⟨Nat.zero_le _, Nat.zero_le _⟩ dX0_find_25 ?_
    intro H_7 lo_7 I_7
    refine lv_aload_n hx hb dX0_find_28 rfl (lv_at hl 0 rfl) ?_
    refine kgtX0_29_24 F I_7 dX0_find_29 ?_
    refine lv_iconst (v := (0 : Int32)) hx hb dX0_find_32 (by decide) ?_
    refine lv_iconst (v := (0 : Int32)) hx hb dX0_find_33 (by decide) ?_
    obtain ⟨g8, hf⟩ := ri_some hf
    refine kas26 F I_7 g8 dX0_find_34 ?_
    intro H_10 lo_10 G9 eG9 I_10
    replace hf := nm_some eG9 hf
    refine lv_aload_n hx hb dX0_find_35 rfl (lv_at hl 0 rfl) ?_
    refine kgtX0_32_24 F I_10 dX0_find_36 ?_
    refine lv_iconst (v := (0 : Int32)) hx hb dX0_find_39 (by decide) ?_
    refine lv_iconst (v := (1 : Int32)) hx hb dX0_find_40 (by decide) ?_
    obtain ⟨g11, hf⟩ := ri_some hf
    refine kas27 F I_10 g11 dX0_find_41 ?_
    intro H_13 lo_13 G12 eG12 I_13
    replace hf := nm_some eG12 hf
    refine lv_iconst (v := (1 : Int32)) hx hb dX0_find_42 (by decide) ?_
    refine lv_aload_n hx hb dX0_find_43 rfl (lv_at hl 0 rfl) ?_
    refine kgtX0_15_24 F I_13 dX0_find_44 ?_
    refine lv_ishl hx hb dX0_find_47 ?_
    refine lv_iconst (v := (1 : Int32)) hx hb dX0_find_48 (by decide) ?_
    refine lv_isub hx hb dX0_find_49 ?_
    refine lv_topi (fun x14 ex14 => ?_)
    replace hf := nm_some ex14 hf
    refine lv_istore_n (lv' := [(3, .int x14), (0, .ref (ad 24)), (1, .ref (ad 22)), (2, .int a1)]) hx hb dX0_find_50 rfl hl (by decide) rfl (fun ls_15 hl_15 => ?_)
    refine lv_iconst (v := (1 : Int32)) hx hb dX0_find_51 (by decide) ?_
    refine lv_istore (lv' := [(4, .int (1 : Int32)), (3, .int x14), (0, .ref (ad 24)), (1, .ref (ad 22)), (2, .int a1)]) hx hb dX0_find_52 hl_15 (by decide) rfl (fun ls_16 hl_16 => ?_)
    obtain ⟨G19, hq1, hf⟩ := bd_some hf
    have K1 : ∀ (H : Heap) (locs : List Loc), sInv D (cT cI cJ cD cS) (cW ad cI cJ cD cS) A s H locs (G19, E, Dd, P, Z) → ∀ (ls : Array Slot), lv_has ls 5 [(0, .ref (ad 24)), (3, .int x14)] → W p l e R s m args below meth c H locs 0 0 Q (F0 m 80 ls []) := by
      intro H_20 lo_20 I_20 ls_21 hl_21
      refine lv_aload_n hx hb dX0_find_80 rfl (lv_at hl_21 0 rfl) ?_
      refine lv_aload_n hx hb dX0_find_81 rfl (lv_at hl_21 0 rfl) ?_
      refine kgtX0_29_24 F I_20 dX0_find_82 ?_
      refine lv_iload_n hx hb dX0_find_85 rfl (lv_at hl_21 1 rfl) ?_
      refine lv_sipush (v := (255 : Int32)) hx hb dX0_find_86 (by decide) ?_
      refine lv_iand hx hb dX0_find_89 ?_
      obtain ⟨g23, hf⟩ := ri_some hf
      refine kal26 F I_20 g23 dX0_find_90 ?_
      refine kptX0_19_24 F I_20 dX0_find_91 ?_
      intro H_25 lo_25 G24 eG24 I_25
      replace hf := nm_some eG24 hf
      refine lv_aload_n hx hb dX0_find_94 rfl (lv_at hl_21 0 rfl) ?_
      refine lv_aload_n hx hb dX0_find_95 rfl (lv_at hl_21 0 rfl) ?_
      refine kgtX0_32_24 F I_25 dX0_find_96 ?_
      refine lv_iload_n hx hb dX0_find_99 rfl (lv_at hl_21 1 rfl) ?_
      refine lv_sipush (v := (255 : Int32)) hx hb dX0_find_100 (by decide) ?_
      refine lv_iand hx hb dX0_find_103 ?_
      obtain ⟨g26, hf⟩ := ri_some hf
      refine kal27 F I_25 g26 dX0_find_104 ?_
      refine kptX0_22_24 F I_25 dX0_find_105 ?_
      intro H_28 lo_28 G27 eG27 I_28
      replace hf := nm_some eG27 hf
      refine lv_aload_n hx hb dX0_find_108 rfl (lv_at hl_21 0 rfl) ?_
      refine lv_iload_n hx hb dX0_find_109 rfl (lv_at hl_21 1 rfl) ?_
      obtain ⟨G29, h30, hf⟩ := bd_some hf
      refine s_callVv (As := [.int x14]) (rest := []) F I_28 (cC_BO_readOff G27 E Dd P Z x14 G29 h30) kX0_55 ⟨rfl, rfl⟩ ⟨Nat.le_trans (Nat.le_of_ble_eq_true rfl) hRf, Nat.le_trans (Nat.le_of_ble_eq_true rfl) hRl⟩ (24) 0 rfl rfl rfl rfl rfl hl_21.1 (Nat.le_of_ble_eq_true rfl) ⟨Nat.zero_le _, Nat.zero_le _⟩ dX0_find_110 ?_
      intro H_31 lo_31 I_31
      cases hf
      exact ret H_31 lo_31 _ ls_21 I_31 dX0_find_113
    have L1 : ∀ (n : Nat) (x17 : Int32) (G18 : Nat → Nat → Int32), lp (fun q => C_BO_find_22_s1 x14 q.1 q.2) n (x17, G18) = some G19 → ∀ (H : Heap) (locs : List Loc), sInv D (cT cI cJ cD cS) (cW ad cI cJ cD cS) A s H locs (G18, E, Dd, P, Z) → ∀ (ls : Array Slot), lv_has ls 5 [(0, .ref (ad 24)), (3, .int x14), (4, .int x17)] → W p l e R s m args below meth c H locs 0 0 Q (F0 m 54 ls []) := by
      intro n
      induction n with
      | zero => intro x17 G18 hq; exact (lp_0 hq).elim
      | succ n ih1 =>
        intro x17 G18 hq H_32 lo_32 I_32 ls_33 hl_33
        obtain ⟨y1, hf, hK1⟩ := lp_go hq
        replace hf : C_BO_find_22_s1 x14 x17 G18 = some y1 := hf
        unfold C_BO_find_22_s1 at hf
        refine lv_iload hx hb dX0_find_54 (lv_at hl_33 2 rfl) ?_
        refine lv_iload_n hx hb dX0_find_56 rfl (lv_at hl_33 1 rfl) ?_
        refine lv_icmp_gt (tgt := 80) hx hb dX0_find_57 (by decide) (fun c41 => ?_) (fun c41 => ?_)
        · replace hf := (if_pos c41).symm.trans hf
          cases hf
          cases (show G18 = G19 from hK1)
          exact K1 H_32 lo_32 I_32 ls_33 (lv_sub hl_33 [0, 1] rfl)
        · replace hf := (if_neg c41).symm.trans hf
          refine lv_iload hx hb dX0_find_60 (lv_at hl_33 2 rfl) ?_
          refine lv_sipush (v := (256 : Int32)) hx hb dX0_find_62 (by decide) ?_
          refine lv_icmp_ge (tgt := 80) hx hb dX0_find_65 (by decide) (fun c40 => ?_) (fun c40 => ?_)
          · replace hf := (if_pos c40).symm.trans hf
            cases hf
            cases (show G18 = G19 from hK1)
            exact K1 H_32 lo_32 I_32 ls_33 (lv_sub hl_33 [0, 1] rfl)
          · replace hf := (if_neg c40).symm.trans hf
            refine lv_aload_n hx hb dX0_find_68 rfl (lv_at hl_33 0 rfl) ?_
            refine lv_iload hx hb dX0_find_69 (lv_at hl_33 2 rfl) ?_
            obtain ⟨G35, h36, hf⟩ := bd_some hf
            refine s_callVv (As := [.int x17]) (rest := []) F I_32 (cC_BO_solve G18 E Dd P Z x17 G35 h36) kX0_51 ⟨rfl, rfl⟩ ⟨Nat.le_trans (Nat.le_of_ble_eq_true rfl) hRf, Nat.le_trans (Nat.le_of_ble_eq_true rfl) hRl⟩ (24) 0 rfl rfl rfl rfl rfl hl_33.1 (Nat.le_of_ble_eq_true rfl) ⟨Nat.zero_le _, Nat.zero_le _⟩ dX0_find_71 ?_
            intro H_37 lo_37 I_37
            obtain ⟨x38, ex38⟩ : ∃ y : Int32, y = x17 + (1 : Int32) := ⟨_, rfl⟩
            replace hf := nm_some ex38 hf
            refine lv_iinc (v := x38) (lv' := [(4, .int x38), (0, .ref (ad 24)), (3, .int x14)]) hx hb dX0_find_74 hl_33 (k := 2) rfl (by rw [ex38]; rfl) (by decide) rfl (fun ls_39 hl_39 => ?_)
            refine lv_goto (tgt := 54) hx hb dX0_find_77 (by decide) ?_
            cases hf
            exact ih1 _ _ hK1 H_37 lo_37 I_37 ls_39 (lv_sub hl_39 [1, 2, 0] rfl)
    exact L1 FU _ _ hq1 H_13 lo_13 I_13 ls_16 (lv_sub hl_16 [2, 1, 0] rfl)
  · replace hf := (if_neg c42).symm.trans hf
    cases hf
    exact ret H lo _ ls I dX0_find_7
def C_BO_sampleAt (G : Nat → Nat → Int32) (a0 : Int32) : Option (Int32) :=
if a0 < 0 then
(some (-1 : Int32))
else
(if G 31 0 ≤ a0 then
(some (-1 : Int32))
else
(ri 8 a0 <|
some (G 34 a0.toNatClampNeg)))
set_option maxRecDepth 100000 in
set_option maxHeartbeats 4000000 in
theorem cC_BO_sampleAt (G : Nat → Nat → Int32) (E : Nat → Nat → Int64) (Dd : Nat → Nat → UInt64) (P : Nat → Option PRec) (Z : List PRec) (a0 : Int32) (rv : Int32)  (hf : C_BO_sampleAt G a0 = some rv) : sMi D (cT cI cJ cD cS) (cW ad cI cJ cD cS) l yX0_sampleAt (ws1 yX0_sampleAt cX0_sampleAt 2 (some .int)) ({ frames := 0, cells := 0, slots := 0, locals := 0 }) [.ref (ad 24), .int a0] (G, E, Dd, P, Z) (rv, (G, E, Dd, P, Z)) := by
  unfold C_BO_sampleAt at hf
  refine sMi_of (by decide) (Nat.le_of_ble_eq_true rfl) ?_
  intro p e R s m args below meth c A Q ls H lo F hRf hRl I hl ret
  obtain ⟨hx, hb, hml, hown, hG⟩ := id F
  replace hl : lv_has ls 2 [(0, .ref (ad 24)), (1, .int a0)] := hl
  refine lv_iload_n hx hb dX0_sampleAt_0 rfl (lv_at hl 1 rfl) ?_
  refine lv_if_lt (tgt := 21) hx hb dX0_sampleAt_1 (by decide) (fun c3 => ?_) (fun c3 => ?_)
  · replace hf := (if_pos c3).symm.trans hf
    refine lv_iconst (v := (-1 : Int32)) hx hb dX0_sampleAt_21 (by decide) ?_
    cases hf
    exact ret H lo _ ls I dX0_sampleAt_22
  · replace hf := (if_neg c3).symm.trans hf
    refine lv_iload_n hx hb dX0_sampleAt_4 rfl (lv_at hl 1 rfl) ?_
    refine lv_aload_n hx hb dX0_sampleAt_5 rfl (lv_at hl 0 rfl) ?_
    refine kgtX0_15_24 F I dX0_sampleAt_6 ?_
    refine lv_icmp_ge (tgt := 21) hx hb dX0_sampleAt_9 (by decide) (fun c2 => ?_) (fun c2 => ?_)
    · replace hf := (if_pos c2).symm.trans hf
      refine lv_iconst (v := (-1 : Int32)) hx hb dX0_sampleAt_21 (by decide) ?_
      cases hf
      exact ret H lo _ ls I dX0_sampleAt_22
    · replace hf := (if_neg c2).symm.trans hf
      refine lv_aload_n hx hb dX0_sampleAt_12 rfl (lv_at hl 0 rfl) ?_
      refine kgtX0_25_24 F I dX0_sampleAt_13 ?_
      refine lv_iload_n hx hb dX0_sampleAt_16 rfl (lv_at hl 1 rfl) ?_
      obtain ⟨g1, hf⟩ := ri_some hf
      refine kal25 F I g1 dX0_sampleAt_17 ?_
      refine lv_goto (tgt := 22) hx hb dX0_sampleAt_18 (by decide) ?_
      cases hf
      exact ret H lo _ ls I dX0_sampleAt_22
def C_BO_placeOf_s1 (a0 : Int32) (G : Nat → Nat → Int32) (x2 : Int32) : Option ((Int32) ⊕ (Int32)) :=
if G 31 0 ≤ x2 then
(some (.inr (-1 : Int32)))
else
(ri 8 x2 <|
if G 34 x2.toNatClampNeg = a0 then
(some (.inr x2))
else
(nm (x2 + (1 : Int32) : Int32) fun x7 =>
some (.inl x7)))
def C_BO_placeOf (G : Nat → Nat → Int32) (a0 : Int32) : Option (Int32) :=
lp (fun q => C_BO_placeOf_s1 a0 G q) FU (0 : Int32)
set_option maxRecDepth 100000 in
set_option maxHeartbeats 4000000 in
theorem cC_BO_placeOf (G : Nat → Nat → Int32) (E : Nat → Nat → Int64) (Dd : Nat → Nat → UInt64) (P : Nat → Option PRec) (Z : List PRec) (a0 : Int32) (rv : Int32)  (hf : C_BO_placeOf G a0 = some rv) : sMi D (cT cI cJ cD cS) (cW ad cI cJ cD cS) l yX0_placeOf (ws1 yX0_placeOf cX0_placeOf 3 (some .int)) ({ frames := 0, cells := 0, slots := 0, locals := 0 }) [.ref (ad 24), .int a0] (G, E, Dd, P, Z) (rv, (G, E, Dd, P, Z)) := by
  unfold C_BO_placeOf at hf
  refine sMi_of (by decide) (Nat.le_of_ble_eq_true rfl) ?_
  intro p e R s m args below meth c A Q ls H lo F hRf hRl I hl ret
  obtain ⟨hx, hb, hml, hown, hG⟩ := id F
  replace hl : lv_has ls 3 [(0, .ref (ad 24)), (1, .int a0)] := hl
  refine lv_iconst (v := (0 : Int32)) hx hb dX0_placeOf_0 (by decide) ?_
  refine lv_istore_n (lv' := [(2, .int (0 : Int32)), (0, .ref (ad 24)), (1, .int a0)]) hx hb dX0_placeOf_1 rfl hl (by decide) rfl (fun ls_1 hl_1 => ?_)
  have hq1 : lp (fun q => C_BO_placeOf_s1 a0 G q) FU (0 : Int32) = some rv := hf
  have L1 : ∀ (n : Nat) (x2 : Int32), lp (fun q => C_BO_placeOf_s1 a0 G q) n x2 = some rv → ∀ (H : Heap) (locs : List Loc), sInv D (cT cI cJ cD cS) (cW ad cI cJ cD cS) A s H locs (G, E, Dd, P, Z) → ∀ (ls : Array Slot), lv_has ls 3 [(0, .ref (ad 24)), (1, .int a0), (2, .int x2)] → W p l e R s m args below meth c H locs 0 0 Q (F0 m 2 ls []) := by
    intro n
    induction n with
    | zero => intro x2 hq; exact (lp_0 hq).elim
    | succ n ih1 =>
      intro x2 hq H_3 lo_3 I_3 ls_4 hl_4
      obtain ⟨y1, hf, hK1⟩ := lp_go hq
      replace hf : C_BO_placeOf_s1 a0 G x2 = some y1 := hf
      unfold C_BO_placeOf_s1 at hf
      refine lv_iload_n hx hb dX0_placeOf_2 rfl (lv_at hl_4 2 rfl) ?_
      refine lv_aload_n hx hb dX0_placeOf_3 rfl (lv_at hl_4 0 rfl) ?_
      refine kgtX0_15_24 F I_3 dX0_placeOf_4 ?_
      refine lv_icmp_ge (tgt := 28) hx hb dX0_placeOf_7 (by decide) (fun c10 => ?_) (fun c10 => ?_)
      · replace hf := (if_pos c10).symm.trans hf
        refine lv_iconst (v := (-1 : Int32)) hx hb dX0_placeOf_28 (by decide) ?_
        cases hf
        have hf := congrArg some (show _ = _ from hK1)
        cases hf
        exact ret H_3 lo_3 _ ls_4 I_3 dX0_placeOf_29
      · replace hf := (if_neg c10).symm.trans hf
        refine lv_aload_n hx hb dX0_placeOf_10 rfl (lv_at hl_4 0 rfl) ?_
        refine kgtX0_25_24 F I_3 dX0_placeOf_11 ?_
        refine lv_iload_n hx hb dX0_placeOf_14 rfl (lv_at hl_4 2 rfl) ?_
        obtain ⟨g6, hf⟩ := ri_some hf
        refine kal25 F I_3 g6 dX0_placeOf_15 ?_
        refine lv_iload_n hx hb dX0_placeOf_16 rfl (lv_at hl_4 1 rfl) ?_
        refine lv_icmp_ne (tgt := 22) hx hb dX0_placeOf_17 (by decide) (fun c9 => ?_) (fun c9 => ?_)
        · replace hf := (if_neg c9).symm.trans hf
          obtain ⟨x7, ex7⟩ : ∃ y : Int32, y = x2 + (1 : Int32) := ⟨_, rfl⟩
          replace hf := nm_some ex7 hf
          refine lv_iinc (v := x7) (lv' := [(2, .int x7), (0, .ref (ad 24)), (1, .int a0)]) hx hb dX0_placeOf_22 hl_4 (k := 2) rfl (by rw [ex7]; rfl) (by decide) rfl (fun ls_8 hl_8 => ?_)
          refine lv_goto (tgt := 2) hx hb dX0_placeOf_25 (by decide) ?_
          cases hf
          exact ih1 _ hK1 H_3 lo_3 I_3 ls_8 (lv_sub hl_8 [1, 2, 0] rfl)
        · replace hf := (if_pos c9).symm.trans hf
          refine lv_iload_n hx hb dX0_placeOf_20 rfl (lv_at hl_4 2 rfl) ?_
          cases hf
          have hf := congrArg some (show _ = _ from hK1)
          cases hf
          exact ret H_3 lo_3 _ ls_4 I_3 dX0_placeOf_21
  exact L1 FU _ hq1 H lo I ls_1 (lv_sub hl_1 [1, 2, 0] rfl)
def C_CO_packed (a0 : Int32) (a1 : Int32) (a2 : Int32) (a3 : Int32) : Int32 :=
(((((a0 &&& (7 : Int32)) <<< ((8 : Int32) &&& 31)) ||| ((a1 &&& (7 : Int32)) <<< ((5 : Int32) &&& 31))) ||| ((a2 &&& (7 : Int32)) <<< ((2 : Int32) &&& 31))) ||| (a3 &&& (3 : Int32)))
set_option maxRecDepth 100000 in
set_option maxHeartbeats 4000000 in
theorem cC_CO_packed (G : Nat → Nat → Int32) (E : Nat → Nat → Int64) (Dd : Nat → Nat → UInt64) (P : Nat → Option PRec) (Z : List PRec) (a0 : Int32) (a1 : Int32) (a2 : Int32) (a3 : Int32) (rv : Int32)  (hv : rv = C_CO_packed a0 a1 a2 a3) : sMi D (cT cI cJ cD cS) (cW ad cI cJ cD cS) l yX1_packed (ws1 yX1_packed cX1_packed 4 (some .int)) ({ frames := 0, cells := 0, slots := 0, locals := 0 }) [.int a0, .int a1, .int a2, .int a3] (G, E, Dd, P, Z) (rv, (G, E, Dd, P, Z)) := by
  have hf : (some (((((a0 &&& (7 : Int32)) <<< ((8 : Int32) &&& 31)) ||| ((a1 &&& (7 : Int32)) <<< ((5 : Int32) &&& 31))) ||| ((a2 &&& (7 : Int32)) <<< ((2 : Int32) &&& 31))) ||| (a3 &&& (3 : Int32)))) = some rv := by rw [hv]; rfl
  refine sMi_of (by decide) (Nat.le_of_ble_eq_true rfl) ?_
  intro p e R s m args below meth c A Q ls H lo F hRf hRl I hl ret
  obtain ⟨hx, hb, hml, hown, hG⟩ := id F
  replace hl : lv_has ls 4 [(0, .int a0), (1, .int a1), (2, .int a2), (3, .int a3)] := hl
  refine lv_iload_n hx hb dX1_packed_0 rfl (lv_at hl 0 rfl) ?_
  refine lv_bipush (v := (7 : Int32)) hx hb dX1_packed_1 (by decide) ?_
  refine lv_iand hx hb dX1_packed_3 ?_
  refine lv_bipush (v := (8 : Int32)) hx hb dX1_packed_4 (by decide) ?_
  refine lv_ishl hx hb dX1_packed_6 ?_
  refine lv_iload_n hx hb dX1_packed_7 rfl (lv_at hl 1 rfl) ?_
  refine lv_bipush (v := (7 : Int32)) hx hb dX1_packed_8 (by decide) ?_
  refine lv_iand hx hb dX1_packed_10 ?_
  refine lv_iconst (v := (5 : Int32)) hx hb dX1_packed_11 (by decide) ?_
  refine lv_ishl hx hb dX1_packed_12 ?_
  refine lv_ior hx hb dX1_packed_13 ?_
  refine lv_iload_n hx hb dX1_packed_14 rfl (lv_at hl 2 rfl) ?_
  refine lv_bipush (v := (7 : Int32)) hx hb dX1_packed_15 (by decide) ?_
  refine lv_iand hx hb dX1_packed_17 ?_
  refine lv_iconst (v := (2 : Int32)) hx hb dX1_packed_18 (by decide) ?_
  refine lv_ishl hx hb dX1_packed_19 ?_
  refine lv_ior hx hb dX1_packed_20 ?_
  refine lv_iload_n hx hb dX1_packed_21 rfl (lv_at hl 3 rfl) ?_
  refine lv_iconst (v := (3 : Int32)) hx hb dX1_packed_22 (by decide) ?_
  refine lv_iand hx hb dX1_packed_23 ?_
  refine lv_ior hx hb dX1_packed_24 ?_
  cases hf
  exact ret H lo _ ls I dX1_packed_25
def C_CO_listenerOf (a0 : Int32) : Int32 :=
((a0 >>> ((8 : Int32) &&& 31)) &&& (7 : Int32))
set_option maxRecDepth 100000 in
set_option maxHeartbeats 4000000 in
theorem cC_CO_listenerOf (G : Nat → Nat → Int32) (E : Nat → Nat → Int64) (Dd : Nat → Nat → UInt64) (P : Nat → Option PRec) (Z : List PRec) (a0 : Int32) (rv : Int32)  (hv : rv = C_CO_listenerOf a0) : sMi D (cT cI cJ cD cS) (cW ad cI cJ cD cS) l yX1_listenerOf (ws1 yX1_listenerOf cX1_listenerOf 1 (some .int)) ({ frames := 0, cells := 0, slots := 0, locals := 0 }) [.int a0] (G, E, Dd, P, Z) (rv, (G, E, Dd, P, Z)) := by
  have hf : (some ((a0 >>> ((8 : Int32) &&& 31)) &&& (7 : Int32))) = some rv := by rw [hv]; rfl
  refine sMi_of (by decide) (Nat.le_of_ble_eq_true rfl) ?_
  intro p e R s m args below meth c A Q ls H lo F hRf hRl I hl ret
  obtain ⟨hx, hb, hml, hown, hG⟩ := id F
  replace hl : lv_has ls 1 [(0, .int a0)] := hl
  refine lv_iload_n hx hb dX1_listenerOf_0 rfl (lv_at hl 0 rfl) ?_
  refine lv_bipush (v := (8 : Int32)) hx hb dX1_listenerOf_1 (by decide) ?_
  refine lv_ishr hx hb dX1_listenerOf_3 ?_
  refine lv_bipush (v := (7 : Int32)) hx hb dX1_listenerOf_4 (by decide) ?_
  refine lv_iand hx hb dX1_listenerOf_6 ?_
  cases hf
  exact ret H lo _ ls I dX1_listenerOf_7
def C_CO_firstOf (a0 : Int32) : Int32 :=
((a0 >>> ((5 : Int32) &&& 31)) &&& (7 : Int32))
set_option maxRecDepth 100000 in
set_option maxHeartbeats 4000000 in
theorem cC_CO_firstOf (G : Nat → Nat → Int32) (E : Nat → Nat → Int64) (Dd : Nat → Nat → UInt64) (P : Nat → Option PRec) (Z : List PRec) (a0 : Int32) (rv : Int32)  (hv : rv = C_CO_firstOf a0) : sMi D (cT cI cJ cD cS) (cW ad cI cJ cD cS) l yX1_firstOf (ws1 yX1_firstOf cX1_firstOf 1 (some .int)) ({ frames := 0, cells := 0, slots := 0, locals := 0 }) [.int a0] (G, E, Dd, P, Z) (rv, (G, E, Dd, P, Z)) := by
  have hf : (some ((a0 >>> ((5 : Int32) &&& 31)) &&& (7 : Int32))) = some rv := by rw [hv]; rfl
  refine sMi_of (by decide) (Nat.le_of_ble_eq_true rfl) ?_
  intro p e R s m args below meth c A Q ls H lo F hRf hRl I hl ret
  obtain ⟨hx, hb, hml, hown, hG⟩ := id F
  replace hl : lv_has ls 1 [(0, .int a0)] := hl
  refine lv_iload_n hx hb dX1_firstOf_0 rfl (lv_at hl 0 rfl) ?_
  refine lv_iconst (v := (5 : Int32)) hx hb dX1_firstOf_1 (by decide) ?_
  refine lv_ishr hx hb dX1_firstOf_2 ?_
  refine lv_bipush (v := (7 : Int32)) hx hb dX1_firstOf_3 (by decide) ?_
  refine lv_iand hx hb dX1_firstOf_5 ?_
  cases hf
  exact ret H lo _ ls I dX1_firstOf_6
def C_CO_secondOf (a0 : Int32) : Int32 :=
((a0 >>> ((2 : Int32) &&& 31)) &&& (7 : Int32))
set_option maxRecDepth 100000 in
set_option maxHeartbeats 4000000 in
theorem cC_CO_secondOf (G : Nat → Nat → Int32) (E : Nat → Nat → Int64) (Dd : Nat → Nat → UInt64) (P : Nat → Option PRec) (Z : List PRec) (a0 : Int32) (rv : Int32)  (hv : rv = C_CO_secondOf a0) : sMi D (cT cI cJ cD cS) (cW ad cI cJ cD cS) l yX1_secondOf (ws1 yX1_secondOf cX1_secondOf 1 (some .int)) ({ frames := 0, cells := 0, slots := 0, locals := 0 }) [.int a0] (G, E, Dd, P, Z) (rv, (G, E, Dd, P, Z)) := by
  have hf : (some ((a0 >>> ((2 : Int32) &&& 31)) &&& (7 : Int32))) = some rv := by rw [hv]; rfl
  refine sMi_of (by decide) (Nat.le_of_ble_eq_true rfl) ?_
  intro p e R s m args below meth c A Q ls H lo F hRf hRl I hl ret
  obtain ⟨hx, hb, hml, hown, hG⟩ := id F
  replace hl : lv_has ls 1 [(0, .int a0)] := hl
  refine lv_iload_n hx hb dX1_secondOf_0 rfl (lv_at hl 0 rfl) ?_
  refine lv_iconst (v := (2 : Int32)) hx hb dX1_secondOf_1 (by decide) ?_
  refine lv_ishr hx hb dX1_secondOf_2 ?_
  refine lv_bipush (v := (7 : Int32)) hx hb dX1_secondOf_3 (by decide) ?_
  refine lv_iand hx hb dX1_secondOf_5 ?_
  cases hf
  exact ret H lo _ ls I dX1_secondOf_6
def C_CO_answerOf (a0 : Int32) : Int32 :=
(a0 &&& (3 : Int32))
set_option maxRecDepth 100000 in
set_option maxHeartbeats 4000000 in
theorem cC_CO_answerOf (G : Nat → Nat → Int32) (E : Nat → Nat → Int64) (Dd : Nat → Nat → UInt64) (P : Nat → Option PRec) (Z : List PRec) (a0 : Int32) (rv : Int32)  (hv : rv = C_CO_answerOf a0) : sMi D (cT cI cJ cD cS) (cW ad cI cJ cD cS) l yX1_answerOf (ws1 yX1_answerOf cX1_answerOf 1 (some .int)) ({ frames := 0, cells := 0, slots := 0, locals := 0 }) [.int a0] (G, E, Dd, P, Z) (rv, (G, E, Dd, P, Z)) := by
  have hf : (some (a0 &&& (3 : Int32))) = some rv := by rw [hv]; rfl
  refine sMi_of (by decide) (Nat.le_of_ble_eq_true rfl) ?_
  intro p e R s m args below meth c A Q ls H lo F hRf hRl I hl ret
  obtain ⟨hx, hb, hml, hown, hG⟩ := id F
  replace hl : lv_has ls 1 [(0, .int a0)] := hl
  refine lv_iload_n hx hb dX1_answerOf_0 rfl (lv_at hl 0 rfl) ?_
  refine lv_iconst (v := (3 : Int32)) hx hb dX1_answerOf_1 (by decide) ?_
  refine lv_iand hx hb dX1_answerOf_2 ?_
  cases hf
  exact ret H lo _ ls I dX1_answerOf_3
def C_CO_propertyOf (a0 : Int32) (a1 : Int32) : Option (Int32) :=
if a1 = (0 : Int32) then
(nm (C_CO_listenerOf a0) fun r2 =>
some r2)
else if a1 = (1 : Int32) then
(nm (C_CO_firstOf a0) fun r6 =>
some r6)
else if a1 = (2 : Int32) then
(nm (C_CO_secondOf a0) fun r10 =>
some r10)
else (nm (C_CO_answerOf a0) fun r13 =>
some r13)
set_option maxRecDepth 100000 in
set_option maxHeartbeats 4000000 in
theorem cC_CO_propertyOf (G : Nat → Nat → Int32) (E : Nat → Nat → Int64) (Dd : Nat → Nat → UInt64) (P : Nat → Option PRec) (Z : List PRec) (a0 : Int32) (a1 : Int32) (rv : Int32)  (hf : C_CO_propertyOf a0 a1 = some rv) : sMi D (cT cI cJ cD cS) (cW ad cI cJ cD cS) l yX1_propertyOf (ws1 yX1_propertyOf cX1_propertyOf 2 (some .int)) ({ frames := 1, cells := 0, slots := 0, locals := 20 }) [.int a0, .int a1] (G, E, Dd, P, Z) (rv, (G, E, Dd, P, Z)) := by
  unfold C_CO_propertyOf at hf
  refine sMi_of (by decide) (Nat.le_of_ble_eq_true rfl) ?_
  intro p e R s m args below meth c A Q ls H lo F hRf hRl I hl ret
  obtain ⟨hx, hb, hml, hown, hG⟩ := id F
  replace hl : lv_has ls 2 [(0, .int a0), (1, .int a1)] := hl
  refine lv_iload_n hx hb dX1_propertyOf_0 rfl (lv_at hl 1 rfl) ?_
  by_cases c1 : a1 = (0 : Int32)
  · replace hf := (if_pos c1).symm.trans hf
    refine lv_tableIn (off := 27) (tgt := 28) hx hb dX1_propertyOf_1 (by rw [c1]; decide) (by rw [c1]; decide) (by rw [c1]; rfl) (by decide) ?_
    refine lv_iload_n hx hb dX1_propertyOf_28 rfl (lv_at hl 0 rfl) ?_
    obtain ⟨r2, h3⟩ : ∃ z, z = C_CO_listenerOf a0 := ⟨_, rfl⟩
    replace hf := nm_some h3 hf
    refine s_callSi (As := [.int a0]) (rest := []) F I (cC_CO_listenerOf G E Dd P Z a0 r2 h3) kX1_19 ⟨rfl, rfl⟩ ⟨Nat.le_trans (Nat.le_of_ble_eq_true rfl) hRf, Nat.le_trans (Nat.le_of_ble_eq_true rfl) hRl⟩ rfl rfl hl.1 (Nat.le_of_ble_eq_true rfl) ⟨Nat.zero_le _, Nat.zero_le _⟩ dX1_propertyOf_29 ?_
    intro H_4 lo_4 I_4
    cases hf
    exact ret H_4 lo_4 _ ls I_4 dX1_propertyOf_32
  replace hf := (if_neg c1).symm.trans hf
  by_cases c5 : a1 = (1 : Int32)
  · replace hf := (if_pos c5).symm.trans hf
    refine lv_tableIn (off := 32) (tgt := 33) hx hb dX1_propertyOf_1 (by rw [c5]; decide) (by rw [c5]; decide) (by rw [c5]; rfl) (by decide) ?_
    refine lv_iload_n hx hb dX1_propertyOf_33 rfl (lv_at hl 0 rfl) ?_
    obtain ⟨r6, h7⟩ : ∃ z, z = C_CO_firstOf a0 := ⟨_, rfl⟩
    replace hf := nm_some h7 hf
    refine s_callSi (As := [.int a0]) (rest := []) F I (cC_CO_firstOf G E Dd P Z a0 r6 h7) kX1_23 ⟨rfl, rfl⟩ ⟨Nat.le_trans (Nat.le_of_ble_eq_true rfl) hRf, Nat.le_trans (Nat.le_of_ble_eq_true rfl) hRl⟩ rfl rfl hl.1 (Nat.le_of_ble_eq_true rfl) ⟨Nat.zero_le _, Nat.zero_le _⟩ dX1_propertyOf_34 ?_
    intro H_8 lo_8 I_8
    cases hf
    exact ret H_8 lo_8 _ ls I_8 dX1_propertyOf_37
  replace hf := (if_neg c5).symm.trans hf
  by_cases c9 : a1 = (2 : Int32)
  · replace hf := (if_pos c9).symm.trans hf
    refine lv_tableIn (off := 37) (tgt := 38) hx hb dX1_propertyOf_1 (by rw [c9]; decide) (by rw [c9]; decide) (by rw [c9]; rfl) (by decide) ?_
    refine lv_iload_n hx hb dX1_propertyOf_38 rfl (lv_at hl 0 rfl) ?_
    obtain ⟨r10, h11⟩ : ∃ z, z = C_CO_secondOf a0 := ⟨_, rfl⟩
    replace hf := nm_some h11 hf
    refine s_callSi (As := [.int a0]) (rest := []) F I (cC_CO_secondOf G E Dd P Z a0 r10 h11) kX1_26 ⟨rfl, rfl⟩ ⟨Nat.le_trans (Nat.le_of_ble_eq_true rfl) hRf, Nat.le_trans (Nat.le_of_ble_eq_true rfl) hRl⟩ rfl rfl hl.1 (Nat.le_of_ble_eq_true rfl) ⟨Nat.zero_le _, Nat.zero_le _⟩ dX1_propertyOf_39 ?_
    intro H_12 lo_12 I_12
    cases hf
    exact ret H_12 lo_12 _ ls I_12 dX1_propertyOf_42
  replace hf := (if_neg c9).symm.trans hf
  refine lv_tableOut (tgt := 43) hx hb dX1_propertyOf_1 (tsw2 c1 c5 c9) (by decide) ?_
  refine lv_iload_n hx hb dX1_propertyOf_43 rfl (lv_at hl 0 rfl) ?_
  obtain ⟨r13, h14⟩ : ∃ z, z = C_CO_answerOf a0 := ⟨_, rfl⟩
  replace hf := nm_some h14 hf
  refine s_callSi (As := [.int a0]) (rest := []) F I (cC_CO_answerOf G E Dd P Z a0 r13 h14) kX1_29 ⟨rfl, rfl⟩ ⟨Nat.le_trans (Nat.le_of_ble_eq_true rfl) hRf, Nat.le_trans (Nat.le_of_ble_eq_true rfl) hRl⟩ rfl rfl hl.1 (Nat.le_of_ble_eq_true rfl) ⟨Nat.zero_le _, Nat.zero_le _⟩ dX1_propertyOf_44 ?_
  intro H_15 lo_15 I_15
  cases hf
  exact ret H_15 lo_15 _ ls I_15 dX1_propertyOf_47
def C_CO_winnerOf (a0 : Int32) : Option (Int32) :=
nm (C_CO_answerOf a0) fun r1 =>
if r1 = (1 : Int32) then
(nm (C_CO_firstOf a0) fun r7 =>
some r7)
else
(nm (C_CO_secondOf a0) fun r4 =>
some r4)
set_option maxRecDepth 100000 in
set_option maxHeartbeats 4000000 in
theorem cC_CO_winnerOf (G : Nat → Nat → Int32) (E : Nat → Nat → Int64) (Dd : Nat → Nat → UInt64) (P : Nat → Option PRec) (Z : List PRec) (a0 : Int32) (rv : Int32)  (hf : C_CO_winnerOf a0 = some rv) : sMi D (cT cI cJ cD cS) (cW ad cI cJ cD cS) l yX1_winnerOf (ws1 yX1_winnerOf cX1_winnerOf 1 (some .int)) ({ frames := 1, cells := 0, slots := 0, locals := 20 }) [.int a0] (G, E, Dd, P, Z) (rv, (G, E, Dd, P, Z)) := by
  unfold C_CO_winnerOf at hf
  refine sMi_of (by decide) (Nat.le_of_ble_eq_true rfl) ?_
  intro p e R s m args below meth c A Q ls H lo F hRf hRl I hl ret
  obtain ⟨hx, hb, hml, hown, hG⟩ := id F
  replace hl : lv_has ls 1 [(0, .int a0)] := hl
  refine lv_iload_n hx hb dX1_winnerOf_0 rfl (lv_at hl 0 rfl) ?_
  obtain ⟨r1, h2⟩ : ∃ z, z = C_CO_answerOf a0 := ⟨_, rfl⟩
  replace hf := nm_some h2 hf
  refine s_callSi (As := [.int a0]) (rest := []) F I (cC_CO_answerOf G E Dd P Z a0 r1 h2) kX1_29 ⟨rfl, rfl⟩ ⟨Nat.le_trans (Nat.le_of_ble_eq_true rfl) hRf, Nat.le_trans (Nat.le_of_ble_eq_true rfl) hRl⟩ rfl rfl hl.1 (Nat.le_of_ble_eq_true rfl) ⟨Nat.zero_le _, Nat.zero_le _⟩ dX1_winnerOf_1 ?_
  intro H_3 lo_3 I_3
  refine lv_iconst (v := (1 : Int32)) hx hb dX1_winnerOf_4 (by decide) ?_
  refine lv_icmp_ne (tgt := 15) hx hb dX1_winnerOf_5 (by decide) (fun c10 => ?_) (fun c10 => ?_)
  · replace hf := (if_neg c10).symm.trans hf
    refine lv_iload_n hx hb dX1_winnerOf_15 rfl (lv_at hl 0 rfl) ?_
    obtain ⟨r4, h5⟩ : ∃ z, z = C_CO_secondOf a0 := ⟨_, rfl⟩
    replace hf := nm_some h5 hf
    refine s_callSi (As := [.int a0]) (rest := []) F I_3 (cC_CO_secondOf G E Dd P Z a0 r4 h5) kX1_26 ⟨rfl, rfl⟩ ⟨Nat.le_trans (Nat.le_of_ble_eq_true rfl) hRf, Nat.le_trans (Nat.le_of_ble_eq_true rfl) hRl⟩ rfl rfl hl.1 (Nat.le_of_ble_eq_true rfl) ⟨Nat.zero_le _, Nat.zero_le _⟩ dX1_winnerOf_16 ?_
    intro H_6 lo_6 I_6
    cases hf
    exact ret H_6 lo_6 _ ls I_6 dX1_winnerOf_19
  · replace hf := (if_pos c10).symm.trans hf
    refine lv_iload_n hx hb dX1_winnerOf_8 rfl (lv_at hl 0 rfl) ?_
    obtain ⟨r7, h8⟩ : ∃ z, z = C_CO_firstOf a0 := ⟨_, rfl⟩
    replace hf := nm_some h8 hf
    refine s_callSi (As := [.int a0]) (rest := []) F I_3 (cC_CO_firstOf G E Dd P Z a0 r7 h8) kX1_23 ⟨rfl, rfl⟩ ⟨Nat.le_trans (Nat.le_of_ble_eq_true rfl) hRf, Nat.le_trans (Nat.le_of_ble_eq_true rfl) hRl⟩ rfl rfl hl.1 (Nat.le_of_ble_eq_true rfl) ⟨Nat.zero_le _, Nat.zero_le _⟩ dX1_winnerOf_9 ?_
    intro H_9 lo_9 I_9
    refine lv_goto (tgt := 19) hx hb dX1_winnerOf_12 (by decide) ?_
    cases hf
    exact ret H_9 lo_9 _ ls I_9 dX1_winnerOf_19
def C_CO_loserOf (a0 : Int32) : Option (Int32) :=
nm (C_CO_answerOf a0) fun r1 =>
if r1 = (1 : Int32) then
(nm (C_CO_secondOf a0) fun r7 =>
some r7)
else
(nm (C_CO_firstOf a0) fun r4 =>
some r4)
set_option maxRecDepth 100000 in
set_option maxHeartbeats 4000000 in
theorem cC_CO_loserOf (G : Nat → Nat → Int32) (E : Nat → Nat → Int64) (Dd : Nat → Nat → UInt64) (P : Nat → Option PRec) (Z : List PRec) (a0 : Int32) (rv : Int32)  (hf : C_CO_loserOf a0 = some rv) : sMi D (cT cI cJ cD cS) (cW ad cI cJ cD cS) l yX1_loserOf (ws1 yX1_loserOf cX1_loserOf 1 (some .int)) ({ frames := 1, cells := 0, slots := 0, locals := 20 }) [.int a0] (G, E, Dd, P, Z) (rv, (G, E, Dd, P, Z)) := by
  unfold C_CO_loserOf at hf
  refine sMi_of (by decide) (Nat.le_of_ble_eq_true rfl) ?_
  intro p e R s m args below meth c A Q ls H lo F hRf hRl I hl ret
  obtain ⟨hx, hb, hml, hown, hG⟩ := id F
  replace hl : lv_has ls 1 [(0, .int a0)] := hl
  refine lv_iload_n hx hb dX1_loserOf_0 rfl (lv_at hl 0 rfl) ?_
  obtain ⟨r1, h2⟩ : ∃ z, z = C_CO_answerOf a0 := ⟨_, rfl⟩
  replace hf := nm_some h2 hf
  refine s_callSi (As := [.int a0]) (rest := []) F I (cC_CO_answerOf G E Dd P Z a0 r1 h2) kX1_29 ⟨rfl, rfl⟩ ⟨Nat.le_trans (Nat.le_of_ble_eq_true rfl) hRf, Nat.le_trans (Nat.le_of_ble_eq_true rfl) hRl⟩ rfl rfl hl.1 (Nat.le_of_ble_eq_true rfl) ⟨Nat.zero_le _, Nat.zero_le _⟩ dX1_loserOf_1 ?_
  intro H_3 lo_3 I_3
  refine lv_iconst (v := (1 : Int32)) hx hb dX1_loserOf_4 (by decide) ?_
  refine lv_icmp_ne (tgt := 15) hx hb dX1_loserOf_5 (by decide) (fun c10 => ?_) (fun c10 => ?_)
  · replace hf := (if_neg c10).symm.trans hf
    refine lv_iload_n hx hb dX1_loserOf_15 rfl (lv_at hl 0 rfl) ?_
    obtain ⟨r4, h5⟩ : ∃ z, z = C_CO_firstOf a0 := ⟨_, rfl⟩
    replace hf := nm_some h5 hf
    refine s_callSi (As := [.int a0]) (rest := []) F I_3 (cC_CO_firstOf G E Dd P Z a0 r4 h5) kX1_23 ⟨rfl, rfl⟩ ⟨Nat.le_trans (Nat.le_of_ble_eq_true rfl) hRf, Nat.le_trans (Nat.le_of_ble_eq_true rfl) hRl⟩ rfl rfl hl.1 (Nat.le_of_ble_eq_true rfl) ⟨Nat.zero_le _, Nat.zero_le _⟩ dX1_loserOf_16 ?_
    intro H_6 lo_6 I_6
    cases hf
    exact ret H_6 lo_6 _ ls I_6 dX1_loserOf_19
  · replace hf := (if_pos c10).symm.trans hf
    refine lv_iload_n hx hb dX1_loserOf_8 rfl (lv_at hl 0 rfl) ?_
    obtain ⟨r7, h8⟩ : ∃ z, z = C_CO_secondOf a0 := ⟨_, rfl⟩
    replace hf := nm_some h8 hf
    refine s_callSi (As := [.int a0]) (rest := []) F I_3 (cC_CO_secondOf G E Dd P Z a0 r7 h8) kX1_26 ⟨rfl, rfl⟩ ⟨Nat.le_trans (Nat.le_of_ble_eq_true rfl) hRf, Nat.le_trans (Nat.le_of_ble_eq_true rfl) hRl⟩ rfl rfl hl.1 (Nat.le_of_ble_eq_true rfl) ⟨Nat.zero_le _, Nat.zero_le _⟩ dX1_loserOf_9 ?_
    intro H_9 lo_9 I_9
    refine lv_goto (tgt := 19) hx hb dX1_loserOf_12 (by decide) ?_
    cases hf
    exact ret H_9 lo_9 _ ls I_9 dX1_loserOf_19
def C_CO_isFull (G : Nat → Nat → Int32) : Option (Int32) :=
if G 5 0 < (48 : Int32) then
(some (0 : Int32))
else
(some (1 : Int32))
set_option maxRecDepth 100000 in
set_option maxHeartbeats 4000000 in
theorem cC_CO_isFull (G : Nat → Nat → Int32) (E : Nat → Nat → Int64) (Dd : Nat → Nat → UInt64) (P : Nat → Option PRec) (Z : List PRec)  (rv : Int32)  (hf : C_CO_isFull G = some rv) : sMi D (cT cI cJ cD cS) (cW ad cI cJ cD cS) l yX1_isFull (ws1 yX1_isFull cX1_isFull 1 (some .boolean)) ({ frames := 0, cells := 0, slots := 0, locals := 0 }) [.ref (ad 2)] (G, E, Dd, P, Z) (rv, (G, E, Dd, P, Z)) := by
  unfold C_CO_isFull at hf
  refine sMz_of (by decide) (Nat.le_of_ble_eq_true rfl) ?_
  intro p e R s m args below meth c A Q ls H lo F hRf hRl I hl ret
  obtain ⟨hx, hb, hml, hown, hG⟩ := id F
  replace hl : lv_has ls 1 [(0, .ref (ad 2))] := hl
  refine lv_aload_n hx hb dX1_isFull_0 rfl (lv_at hl 0 rfl) ?_
  refine kgtX1_15_2 F I dX1_isFull_1 ?_
  refine lv_bipush (v := (48 : Int32)) hx hb dX1_isFull_4 (by decide) ?_
  refine lv_icmp_lt (tgt := 13) hx hb dX1_isFull_6 (by decide) (fun c1 => ?_) (fun c1 => ?_)
  · replace hf := (if_pos c1).symm.trans hf
    refine lv_iconst (v := (0 : Int32)) hx hb dX1_isFull_13 (by decide) ?_
    cases hf
    exact ret H lo _ ls I (Or.inl rfl) dX1_isFull_14
  · replace hf := (if_neg c1).symm.trans hf
    refine lv_iconst (v := (1 : Int32)) hx hb dX1_isFull_9 (by decide) ?_
    refine lv_goto (tgt := 14) hx hb dX1_isFull_10 (by decide) ?_
    cases hf
    exact ret H lo _ ls I (Or.inr rfl) dX1_isFull_14
def C_CO_at (G : Nat → Nat → Int32) (a0 : Int32) : Option (Int32) :=
if a0 < 0 then
(some (0 : Int32))
else
(if G 5 0 ≤ a0 then
(some (0 : Int32))
else
(ri 48 a0 <|
some (G 4 a0.toNatClampNeg)))
set_option maxRecDepth 100000 in
set_option maxHeartbeats 4000000 in
theorem cC_CO_at (G : Nat → Nat → Int32) (E : Nat → Nat → Int64) (Dd : Nat → Nat → UInt64) (P : Nat → Option PRec) (Z : List PRec) (a0 : Int32) (rv : Int32)  (hf : C_CO_at G a0 = some rv) : sMi D (cT cI cJ cD cS) (cW ad cI cJ cD cS) l yX1_at (ws1 yX1_at cX1_at 2 (some .int)) ({ frames := 0, cells := 0, slots := 0, locals := 0 }) [.ref (ad 2), .int a0] (G, E, Dd, P, Z) (rv, (G, E, Dd, P, Z)) := by
  unfold C_CO_at at hf
  refine sMi_of (by decide) (Nat.le_of_ble_eq_true rfl) ?_
  intro p e R s m args below meth c A Q ls H lo F hRf hRl I hl ret
  obtain ⟨hx, hb, hml, hown, hG⟩ := id F
  replace hl : lv_has ls 2 [(0, .ref (ad 2)), (1, .int a0)] := hl
  refine lv_iload_n hx hb dX1_at_0 rfl (lv_at hl 1 rfl) ?_
  refine lv_if_lt (tgt := 21) hx hb dX1_at_1 (by decide) (fun c3 => ?_) (fun c3 => ?_)
  · replace hf := (if_pos c3).symm.trans hf
    refine lv_iconst (v := (0 : Int32)) hx hb dX1_at_21 (by decide) ?_
    cases hf
    exact ret H lo _ ls I dX1_at_22
  · replace hf := (if_neg c3).symm.trans hf
    refine lv_iload_n hx hb dX1_at_4 rfl (lv_at hl 1 rfl) ?_
    refine lv_aload_n hx hb dX1_at_5 rfl (lv_at hl 0 rfl) ?_
    refine kgtX1_15_2 F I dX1_at_6 ?_
    refine lv_icmp_ge (tgt := 21) hx hb dX1_at_9 (by decide) (fun c2 => ?_) (fun c2 => ?_)
    · replace hf := (if_pos c2).symm.trans hf
      refine lv_iconst (v := (0 : Int32)) hx hb dX1_at_21 (by decide) ?_
      cases hf
      exact ret H lo _ ls I dX1_at_22
    · replace hf := (if_neg c2).symm.trans hf
      refine lv_aload_n hx hb dX1_at_12 rfl (lv_at hl 0 rfl) ?_
      refine kgtX1_9_2 F I dX1_at_13 ?_
      refine lv_iload_n hx hb dX1_at_16 rfl (lv_at hl 1 rfl) ?_
      obtain ⟨g1, hf⟩ := ri_some hf
      refine kal3 F I g1 dX1_at_17 ?_
      refine lv_goto (tgt := 22) hx hb dX1_at_18 (by decide) ?_
      cases hf
      exact ret H lo _ ls I dX1_at_22
def C_CO_put (G : Nat → Nat → Int32) (a0 : Int32) : Option ((Nat → Nat → Int32)) :=
bd (C_CO_isFull G) fun r1 =>
if r1 = 0 then
(ri 48 (G 5 0) <|
nm (wr G 4 (G 5 0) a0) fun G5 =>
nm (wf G5 5 ((G5 5 0) + (1 : Int32))) fun G7 =>
some G7)
else
(some G)
set_option maxRecDepth 100000 in
set_option maxHeartbeats 4000000 in
theorem cC_CO_put (G : Nat → Nat → Int32) (E : Nat → Nat → Int64) (Dd : Nat → Nat → UInt64) (P : Nat → Option PRec) (Z : List PRec) (a0 : Int32)  (newG : Nat → Nat → Int32) (hf : C_CO_put G a0 = some newG) : sMv D (cT cI cJ cD cS) (cW ad cI cJ cD cS) l yX1_put (ws1 yX1_put cX1_put 2 none) ({ frames := 1, cells := 0, slots := 0, locals := 20 }) [.ref (ad 2), .int a0] (G, E, Dd, P, Z) (newG, E, Dd, P, Z) := by
  unfold C_CO_put at hf
  refine sMv_of (by decide) (Nat.le_of_ble_eq_true rfl) ?_
  intro p e R s m args below meth c A Q ls H lo F hRf hRl I hl ret
  obtain ⟨hx, hb, hml, hown, hG⟩ := id F
  replace hl : lv_has ls 2 [(0, .ref (ad 2)), (1, .int a0)] := hl
  refine lv_aload_n hx hb dX1_put_0 rfl (lv_at hl 0 rfl) ?_
  obtain ⟨r1, h2, hf⟩ := bd_some hf
  refine s_callVi (As := []) (rest := []) F I (cC_CO_isFull G E Dd P Z r1 h2) kX1_32 ⟨rfl, rfl⟩ ⟨Nat.le_trans (Nat.le_of_ble_eq_true rfl) hRf, Nat.le_trans (Nat.le_of_ble_eq_true rfl) hRl⟩ (2) 1 rfl rfl rfl rfl rfl hl.1 (Nat.le_of_ble_eq_true rfl) ⟨Nat.zero_le _, Nat.zero_le _⟩ dX1_put_1 ?_
  intro H_3 lo_3 I_3
  refine lv_if_ne (tgt := 27) hx hb dX1_put_4 (by decide) (fun c9 => ?_) (fun c9 => ?_)
  · replace hf := (if_neg c9).symm.trans hf
    cases hf
    exact ret H_3 lo_3 _ ls I_3 dX1_put_27
  · replace hf := (if_pos c9).symm.trans hf
    refine lv_aload_n hx hb dX1_put_7 rfl (lv_at hl 0 rfl) ?_
    refine kgtX1_9_2 F I_3 dX1_put_8 ?_
    refine lv_aload_n hx hb dX1_put_11 rfl (lv_at hl 0 rfl) ?_
    refine kgtX1_15_2 F I_3 dX1_put_12 ?_
    refine lv_iload_n hx hb dX1_put_15 rfl (lv_at hl 1 rfl) ?_
    obtain ⟨g4, hf⟩ := ri_some hf
    refine kas3 F I_3 g4 dX1_put_16 ?_
    intro H_6 lo_6 G5 eG5 I_6
    replace hf := nm_some eG5 hf
    refine lv_aload_n hx hb dX1_put_17 rfl (lv_at hl 0 rfl) ?_
    refine lv_dup hx hb dX1_put_18 rfl ?_
    refine kgtX1_15_2 F I_6 dX1_put_19 ?_
    refine lv_iconst (v := (1 : Int32)) hx hb dX1_put_22 (by decide) ?_
    refine lv_iadd hx hb dX1_put_23 ?_
    refine kptX1_15_2 F I_6 dX1_put_24 ?_
    intro H_8 lo_8 G7 eG7 I_8
    replace hf := nm_some eG7 hf
    cases hf
    exact ret H_8 lo_8 _ ls I_8 dX1_put_27
def C_CO_takeOut_s1  (x3 : Int32) (G4 : Nat → Nat → Int32) : Option ((Int32 × (Nat → Nat → Int32)) ⊕ ((Nat → Nat → Int32))) :=
if G4 5 0 ≤ x3 then
(some (.inr G4))
else
(ri 48 x3 <|
ri 48 (x3 - (1 : Int32)) <|
nm (wr G4 4 (x3 - (1 : Int32)) (G4 4 x3.toNatClampNeg)) fun G16 =>
nm (x3 + (1 : Int32) : Int32) fun x18 =>
some (.inl (x18, G16)))
def C_CO_takeOut (G : Nat → Nat → Int32) (a0 : Int32) : Option ((Nat → Nat → Int32)) :=
if a0 < 0 then
(some G)
else
(if a0 < G 5 0 then
(nm (a0 + (1 : Int32) : Int32) fun x1 =>
bd (lp (fun q => C_CO_takeOut_s1 q.1 q.2) FU (x1, G)) fun G5 =>
nm (wf G5 5 ((G5 5 0) - (1 : Int32))) fun G9 =>
some G9)
else
(some G))
set_option maxRecDepth 100000 in
set_option maxHeartbeats 4000000 in
theorem cC_CO_takeOut (G : Nat → Nat → Int32) (E : Nat → Nat → Int64) (Dd : Nat → Nat → UInt64) (P : Nat → Option PRec) (Z : List PRec) (a0 : Int32)  (newG : Nat → Nat → Int32) (hf : C_CO_takeOut G a0 = some newG) : sMv D (cT cI cJ cD cS) (cW ad cI cJ cD cS) l yX1_takeOut (ws1 yX1_takeOut cX1_takeOut 3 none) ({ frames := 0, cells := 0, slots := 0, locals := 0 }) [.ref (ad 2), .int a0] (G, E, Dd, P, Z) (newG, E, Dd, P, Z) := by
  unfold C_CO_takeOut at hf
  refine sMv_of (by decide) (Nat.le_of_ble_eq_true rfl) ?_
  intro p e R s m args below meth c A Q ls H lo F hRf hRl I hl ret
  obtain ⟨hx, hb, hml, hown, hG⟩ := id F
  replace hl : lv_has ls 3 [(0, .ref (ad 2)), (1, .int a0)] := hl
  refine lv_iload_n hx hb dX1_takeOut_0 rfl (lv_at hl 1 rfl) ?_
  refine lv_if_lt (tgt := 12) hx hb dX1_takeOut_1 (by decide) (fun c22 => ?_) (fun c22 => ?_)
  · replace hf := (if_pos c22).symm.trans hf
    cases hf
    exact ret H lo _ ls I dX1_takeOut_12
  · replace hf := (if_neg c22).symm.trans hf
    refine lv_iload_n hx hb dX1_takeOut_4 rfl (lv_at hl 1 rfl) ?_
    refine lv_aload_n hx hb dX1_takeOut_5 rfl (lv_at hl 0 rfl) ?_
    refine kgtX1_15_2 F I dX1_takeOut_6 ?_
    refine lv_icmp_lt (tgt := 13) hx hb dX1_takeOut_9 (by decide) (fun c21 => ?_) (fun c21 => ?_)
    · replace hf := (if_pos c21).symm.trans hf
      refine lv_iload_n hx hb dX1_takeOut_13 rfl (lv_at hl 1 rfl) ?_
      refine lv_iconst (v := (1 : Int32)) hx hb dX1_takeOut_14 (by decide) ?_
      refine lv_iadd hx hb dX1_takeOut_15 ?_
      refine lv_topi (fun x1 ex1 => ?_)
      replace hf := nm_some ex1 hf
      refine lv_istore_n (lv' := [(2, .int x1), (0, .ref (ad 2)), (1, .int a0)]) hx hb dX1_takeOut_16 rfl hl (by decide) rfl (fun ls_2 hl_2 => ?_)
      obtain ⟨G5, hq1, hf⟩ := bd_some hf
      have K1 : ∀ (H : Heap) (locs : List Loc), sInv D (cT cI cJ cD cS) (cW ad cI cJ cD cS) A s H locs (G5, E, Dd, P, Z) → ∀ (ls : Array Slot), lv_has ls 3 [(0, .ref (ad 2))] → W p l e R s m args below meth c H locs 0 0 Q (F0 m 45 ls []) := by
        intro H_6 lo_6 I_6 ls_7 hl_7
        refine lv_aload_n hx hb dX1_takeOut_45 rfl (lv_at hl_7 0 rfl) ?_
        refine lv_dup hx hb dX1_takeOut_46 rfl ?_
        refine kgtX1_15_2 F I_6 dX1_takeOut_47 ?_
        refine lv_iconst (v := (1 : Int32)) hx hb dX1_takeOut_50 (by decide) ?_
        refine lv_isub hx hb dX1_takeOut_51 ?_
        refine kptX1_15_2 F I_6 dX1_takeOut_52 ?_
        intro H_10 lo_10 G9 eG9 I_10
        replace hf := nm_some eG9 hf
        cases hf
        exact ret H_10 lo_10 _ ls_7 I_10 dX1_takeOut_55
      have L1 : ∀ (n : Nat) (x3 : Int32) (G4 : Nat → Nat → Int32), lp (fun q => C_CO_takeOut_s1 q.1 q.2) n (x3, G4) = some G5 → ∀ (H : Heap) (locs : List Loc), sInv D (cT cI cJ cD cS) (cW ad cI cJ cD cS) A s H locs (G4, E, Dd, P, Z) → ∀ (ls : Array Slot), lv_has ls 3 [(0, .ref (ad 2)), (2, .int x3)] → W p l e R s m args below meth c H locs 0 0 Q (F0 m 17 ls []) := by
        intro n
        induction n with
        | zero => intro x3 G4 hq; exact (lp_0 hq).elim
        | succ n ih1 =>
          intro x3 G4 hq H_11 lo_11 I_11 ls_12 hl_12
          obtain ⟨y1, hf, hK1⟩ := lp_go hq
          replace hf : C_CO_takeOut_s1 x3 G4 = some y1 := hf
          unfold C_CO_takeOut_s1 at hf
          refine lv_iload_n hx hb dX1_takeOut_17 rfl (lv_at hl_12 1 rfl) ?_
          refine lv_aload_n hx hb dX1_takeOut_18 rfl (lv_at hl_12 0 rfl) ?_
          refine kgtX1_15_2 F I_11 dX1_takeOut_19 ?_
          refine lv_icmp_ge (tgt := 45) hx hb dX1_takeOut_22 (by decide) (fun c20 => ?_) (fun c20 => ?_)
          · replace hf := (if_pos c20).symm.trans hf
            cases hf
            cases (show G4 = G5 from hK1)
            exact K1 H_11 lo_11 I_11 ls_12 (lv_sub hl_12 [0] rfl)
          · replace hf := (if_neg c20).symm.trans hf
            refine lv_aload_n hx hb dX1_takeOut_25 rfl (lv_at hl_12 0 rfl) ?_
            refine kgtX1_9_2 F I_11 dX1_takeOut_26 ?_
            refine lv_iload_n hx hb dX1_takeOut_29 rfl (lv_at hl_12 1 rfl) ?_
            refine lv_iconst (v := (1 : Int32)) hx hb dX1_takeOut_30 (by decide) ?_
            refine lv_isub hx hb dX1_takeOut_31 ?_
            refine lv_aload_n hx hb dX1_takeOut_32 rfl (lv_at hl_12 0 rfl) ?_
            refine kgtX1_9_2 F I_11 dX1_takeOut_33 ?_
            refine lv_iload_n hx hb dX1_takeOut_36 rfl (lv_at hl_12 1 rfl) ?_
            obtain ⟨g14, hf⟩ := ri_some hf
            refine kal3 F I_11 g14 dX1_takeOut_37 ?_
            obtain ⟨g15, hf⟩ := ri_some hf
            refine kas3 F I_11 g15 dX1_takeOut_38 ?_
            intro H_17 lo_17 G16 eG16 I_17
            replace hf := nm_some eG16 hf
            obtain ⟨x18, ex18⟩ : ∃ y : Int32, y = x3 + (1 : Int32) := ⟨_, rfl⟩
            replace hf := nm_some ex18 hf
            refine lv_iinc (v := x18) (lv' := [(2, .int x18), (0, .ref (ad 2))]) hx hb dX1_takeOut_39 hl_12 (k := 1) rfl (by rw [ex18]; rfl) (by decide) rfl (fun ls_19 hl_19 => ?_)
            refine lv_goto (tgt := 17) hx hb dX1_takeOut_42 (by decide) ?_
            cases hf
            exact ih1 _ _ hK1 H_17 lo_17 I_17 ls_19 (lv_sub hl_19 [1, 0] rfl)
      exact L1 FU _ _ hq1 H lo I ls_2 (lv_sub hl_2 [1, 0] rfl)
    · replace hf := (if_neg c21).symm.trans hf
      cases hf
      exact ret H lo _ ls I dX1_takeOut_12
def C_CO_countAnswers_s1 (a0 : Int32) (G : Nat → Nat → Int32) (x3 : Int32) (x4 : Int32) : Option ((Int32 × Int32) ⊕ (Int32)) :=
if G 5 0 ≤ x4 then
(some (.inr x3))
else
(ri 48 x4 <|
nm (C_CO_answerOf (G 4 x4.toNatClampNeg)) fun r13 =>
bd (if r13 = a0 then
(nm (x3 + (1 : Int32) : Int32) fun x24 =>
some x24)
else
(some x3)) fun x17 =>
nm (x4 + (1 : Int32) : Int32) fun x21 =>
some (.inl (x17, x21)))
def C_CO_countAnswers (G : Nat → Nat → Int32) (a0 : Int32) : Option (Int32) :=
bd (lp (fun q => C_CO_countAnswers_s1 a0 G q.1 q.2) FU ((0 : Int32), (0 : Int32))) fun x5 =>
some x5
set_option maxRecDepth 100000 in
set_option maxHeartbeats 4000000 in
theorem cC_CO_countAnswers (G : Nat → Nat → Int32) (E : Nat → Nat → Int64) (Dd : Nat → Nat → UInt64) (P : Nat → Option PRec) (Z : List PRec) (a0 : Int32) (rv : Int32)  (hf : C_CO_countAnswers G a0 = some rv) : sMi D (cT cI cJ cD cS) (cW ad cI cJ cD cS) l yX1_countAnswers (ws1 yX1_countAnswers cX1_countAnswers 4 (some .int)) ({ frames := 1, cells := 0, slots := 0, locals := 20 }) [.ref (ad 2), .int a0] (G, E, Dd, P, Z) (rv, (G, E, Dd, P, Z)) := by
  unfold C_CO_countAnswers at hf
  refine sMi_of (by decide) (Nat.le_of_ble_eq_true rfl) ?_
  intro p e R s m args below meth c A Q ls H lo F hRf hRl I hl ret
  obtain ⟨hx, hb, hml, hown, hG⟩ := id F
  replace hl : lv_has ls 4 [(0, .ref (ad 2)), (1, .int a0)] := hl
  refine lv_iconst (v := (0 : Int32)) hx hb dX1_countAnswers_0 (by decide) ?_
  refine lv_istore_n (lv' := [(2, .int (0 : Int32)), (0, .ref (ad 2)), (1, .int a0)]) hx hb dX1_countAnswers_1 rfl hl (by decide) rfl (fun ls_1 hl_1 => ?_)
  refine lv_iconst (v := (0 : Int32)) hx hb dX1_countAnswers_2 (by decide) ?_
  refine lv_istore_n (lv' := [(3, .int (0 : Int32)), (2, .int (0 : Int32)), (0, .ref (ad 2)), (1, .int a0)]) hx hb dX1_countAnswers_3 rfl hl_1 (by decide) rfl (fun ls_2 hl_2 => ?_)
  obtain ⟨x5, hq1, hf⟩ := bd_some hf
  have K1 : ∀ (H : Heap) (locs : List Loc), sInv D (cT cI cJ cD cS) (cW ad cI cJ cD cS) A s H locs (G, E, Dd, P, Z) → ∀ (ls : Array Slot), lv_has ls 4 [(2, .int x5)] → W p l e R s m args below meth c H locs 0 0 Q (F0 m 34 ls []) := by
    intro H_6 lo_6 I_6 ls_7 hl_7
    refine lv_iload_n hx hb dX1_countAnswers_34 rfl (lv_at hl_7 0 rfl) ?_
    cases hf
    exact ret H_6 lo_6 _ ls_7 I_6 dX1_countAnswers_35
  have L1 : ∀ (n : Nat) (x3 : Int32) (x4 : Int32), lp (fun q => C_CO_countAnswers_s1 a0 G q.1 q.2) n (x3, x4) = some x5 → ∀ (H : Heap) (locs : List Loc), sInv D (cT cI cJ cD cS) (cW ad cI cJ cD cS) A s H locs (G, E, Dd, P, Z) → ∀ (ls : Array Slot), lv_has ls 4 [(0, .ref (ad 2)), (1, .int a0), (2, .int x3), (3, .int x4)] → W p l e R s m args below meth c H locs 0 0 Q (F0 m 4 ls []) := by
    intro n
    induction n with
    | zero => intro x3 x4 hq; exact (lp_0 hq).elim
    | succ n ih1 =>
      intro x3 x4 hq H_9 lo_9 I_9 ls_10 hl_10
      obtain ⟨y1, hf, hK1⟩ := lp_go hq
      replace hf : C_CO_countAnswers_s1 a0 G x3 x4 = some y1 := hf
      unfold C_CO_countAnswers_s1 at hf
      refine lv_iload_n hx hb dX1_countAnswers_4 rfl (lv_at hl_10 3 rfl) ?_
      refine lv_aload_n hx hb dX1_countAnswers_5 rfl (lv_at hl_10 0 rfl) ?_
      refine kgtX1_15_2 F I_9 dX1_countAnswers_6 ?_
      refine lv_icmp_ge (tgt := 34) hx hb dX1_countAnswers_9 (by decide) (fun c27 => ?_) (fun c27 => ?_)
      · replace hf := (if_pos c27).symm.trans hf
        cases hf
        cases (show x3 = x5 from hK1)
        exact K1 H_9 lo_9 I_9 ls_10 (lv_sub hl_10 [2] rfl)
      · replace hf := (if_neg c27).symm.trans hf
        refine lv_aload_n hx hb dX1_countAnswers_12 rfl (lv_at hl_10 0 rfl) ?_
        refine kgtX1_9_2 F I_9 dX1_countAnswers_13 ?_
        refine lv_iload_n hx hb dX1_countAnswers_16 rfl (lv_at hl_10 3 rfl) ?_
        obtain ⟨g12, hf⟩ := ri_some hf
        refine kal3 F I_9 g12 dX1_countAnswers_17 ?_
        obtain ⟨r13, h14⟩ : ∃ z, z = C_CO_answerOf (G 4 x4.toNatClampNeg) := ⟨_, rfl⟩
        replace hf := nm_some h14 hf
        refine s_callSi (As := [.int (G 4 x4.toNatClampNeg)]) (rest := []) F I_9 (cC_CO_answerOf G E Dd P Z (G 4 x4.toNatClampNeg) r13 h14) kX1_29 ⟨rfl, rfl⟩ ⟨Nat.le_trans (Nat.le_of_ble_eq_true rfl) hRf, Nat.le_trans (Nat.le_of_ble_eq_true rfl) hRl⟩ rfl rfl hl_10.1 (Nat.le_of_ble_eq_true rfl) ⟨Nat.zero_le _, Nat.zero_le _⟩ dX1_countAnswers_18 ?_
        intro H_15 lo_15 I_15
        refine lv_iload_n hx hb dX1_countAnswers_21 rfl (lv_at hl_10 1 rfl) ?_
        obtain ⟨x17, hv23, hf⟩ := bd_some hf
        have J16 : ∀ (H : Heap) (locs : List Loc), sInv D (cT cI cJ cD cS) (cW ad cI cJ cD cS) A s H locs (G, E, Dd, P, Z) → ∀ (ls : Array Slot), lv_has ls 4 [(0, .ref (ad 2)), (1, .int a0), (2, .int x17), (3, .int x4)] → W p l e R s m args below meth c H locs 0 0 Q (F0 m 28 ls []) := by
          intro H_18 lo_18 I_18 ls_19 hl_19
          obtain ⟨x21, ex21⟩ : ∃ y : Int32, y = x4 + (1 : Int32) := ⟨_, rfl⟩
          replace hf := nm_some ex21 hf
          refine lv_iinc (v := x21) (lv' := [(3, .int x21), (0, .ref (ad 2)), (1, .int a0), (2, .int x17)]) hx hb dX1_countAnswers_28 hl_19 (k := 3) rfl (by rw [ex21]; rfl) (by decide) rfl (fun ls_22 hl_22 => ?_)
          refine lv_goto (tgt := 4) hx hb dX1_countAnswers_31 (by decide) ?_
          cases hf
          exact ih1 _ _ hK1 H_18 lo_18 I_18 ls_22 (lv_sub hl_22 [1, 2, 3, 0] rfl)
        replace hf := hv23
        refine lv_icmp_ne (tgt := 28) hx hb dX1_countAnswers_22 (by decide) (fun c26 => ?_) (fun c26 => ?_)
        · replace hf := (if_neg c26).symm.trans hf
          cases hf
          exact J16 H_15 lo_15 I_15 ls_10 (lv_sub hl_10 [0, 1, 2, 3] rfl)
        · replace hf := (if_pos c26).symm.trans hf
          obtain ⟨x24, ex24⟩ : ∃ y : Int32, y = x3 + (1 : Int32) := ⟨_, rfl⟩
          replace hf := nm_some ex24 hf
          refine lv_iinc (v := x24) (lv' := [(2, .int x24), (0, .ref (ad 2)), (1, .int a0), (3, .int x4)]) hx hb dX1_countAnswers_25 hl_10 (k := 2) rfl (by rw [ex24]; rfl) (by decide) rfl (fun ls_25 hl_25 => ?_)
          cases hf
          exact J16 H_15 lo_15 I_15 ls_25 (lv_sub hl_25 [1, 2, 0, 3] rfl)
  exact L1 FU _ _ hq1 H lo I ls_2 (lv_sub hl_2 [2, 3, 1, 0] rfl)
def C_HI_forgetAll (G : Nat → Nat → Int32) : (Nat → Nat → Int32) :=
nm (wf G 7 (0 : Int32)) fun G1 =>
G1
set_option maxRecDepth 100000 in
set_option maxHeartbeats 4000000 in
theorem cC_HI_forgetAll (G : Nat → Nat → Int32) (E : Nat → Nat → Int64) (Dd : Nat → Nat → UInt64) (P : Nat → Option PRec) (Z : List PRec)   (newG : Nat → Nat → Int32) (hv : newG = C_HI_forgetAll G) : sMv D (cT cI cJ cD cS) (cW ad cI cJ cD cS) l yX2_forgetAll (ws1 yX2_forgetAll cX2_forgetAll 1 none) ({ frames := 0, cells := 0, slots := 0, locals := 0 }) [.ref (ad 4)] (G, E, Dd, P, Z) (newG, E, Dd, P, Z) := by
  have hf : (nm (wf G 7 (0 : Int32)) fun G1 =>
some G1) = some newG := by rw [hv]; rfl
  refine sMv_of (by decide) (Nat.le_of_ble_eq_true rfl) ?_
  intro p e R s m args below meth c A Q ls H lo F hRf hRl I hl ret
  obtain ⟨hx, hb, hml, hown, hG⟩ := id F
  replace hl : lv_has ls 1 [(0, .ref (ad 4))] := hl
  refine lv_aload_n hx hb dX2_forgetAll_0 rfl (lv_at hl 0 rfl) ?_
  refine lv_iconst (v := (0 : Int32)) hx hb dX2_forgetAll_1 (by decide) ?_
  refine kptX2_22_4 F I dX2_forgetAll_2 ?_
  intro H_2 lo_2 G1 eG1 I_2
  replace hf := nm_some eG1 hf
  cases hf
  exact ret H_2 lo_2 _ ls I_2 dX2_forgetAll_5
def C_HI_next (G : Nat → Nat → Int32) : Option ((Option Nat) × (Nat → Nat → Int32)) :=
bd (if (12 : Int32) ≤ (G 6 0) + (1 : Int32) then
(some (0 : Int32))
else
(some ((G 6 0) + (1 : Int32)))) fun x2 =>
nm (wf G 6 x2) fun G6 =>
nm (wf G6 7 (if (12 : Int32) < (G6 7 0) + (1 : Int32) then (12 : Int32) else (G6 7 0) + (1 : Int32))) fun G8 =>
ri 12 (G8 6 0) <|
nm ((G8 6 0).toNatClampNeg) fun j11 =>
some (some j11, G8)
set_option maxRecDepth 100000 in
set_option maxHeartbeats 4000000 in
theorem cC_HI_next (G : Nat → Nat → Int32) (E : Nat → Nat → Int64) (Dd : Nat → Nat → UInt64) (P : Nat → Option PRec) (Z : List PRec)  (rv : Option Nat) (newG : Nat → Nat → Int32) (hf : C_HI_next G = some (rv, newG)) : sMq D (cT cI cJ cD cS) (cW ad cI cJ cD cS) l yX2_next (ws1 yX2_next cX2_next 1 (some (.object "ListeningTrials$Step"))) ({ frames := 1, cells := 0, slots := 0, locals := 21 }) [.ref (ad 4)] (G, E, Dd, P, Z) (rv.map (fun j => ad (38 + 3 * j)), (newG, E, Dd, P, Z)) := by
  unfold C_HI_next at hf
  refine sMq_of (by decide) (Nat.le_of_ble_eq_true rfl) ?_
  intro p e R s m args below meth c A Q ls H lo F hRf hRl I hl ret
  obtain ⟨hx, hb, hml, hown, hG⟩ := id F
  replace hl : lv_has ls 1 [(0, .ref (ad 4))] := hl
  refine lv_aload_n hx hb dX2_next_0 rfl (lv_at hl 0 rfl) ?_
  refine lv_aload_n hx hb dX2_next_1 rfl (lv_at hl 0 rfl) ?_
  refine kgtX2_18_4 F I dX2_next_2 ?_
  refine lv_iconst (v := (1 : Int32)) hx hb dX2_next_5 (by decide) ?_
  refine lv_iadd hx hb dX2_next_6 ?_
  refine lv_bipush (v := (12 : Int32)) hx hb dX2_next_7 (by decide) ?_
  obtain ⟨x2, hv12, hf⟩ := bd_some hf
  have J1 : ∀ (H : Heap) (locs : List Loc), sInv D (cT cI cJ cD cS) (cW ad cI cJ cD cS) A s H locs (G, E, Dd, P, Z) → ∀ (ls : Array Slot), lv_has ls 1 [(0, .ref (ad 4))] → W p l e R s m args below meth c H locs 0 0 Q (F0 m 22 ls [.int x2, .ref (ad 4)]) := by
    intro H_3 lo_3 I_3 ls_4 hl_4
    refine kptX2_18_4 F I_3 dX2_next_22 ?_
    intro H_7 lo_7 G6 eG6 I_7
    replace hf := nm_some eG6 hf
    refine lv_aload_n hx hb dX2_next_25 rfl (lv_at hl_4 0 rfl) ?_
    refine lv_aload_n hx hb dX2_next_26 rfl (lv_at hl_4 0 rfl) ?_
    refine kgtX2_22_4 F I_7 dX2_next_27 ?_
    refine lv_iconst (v := (1 : Int32)) hx hb dX2_next_30 (by decide) ?_
    refine lv_iadd hx hb dX2_next_31 ?_
    refine lv_bipush (v := (12 : Int32)) hx hb dX2_next_32 (by decide) ?_
    refine va_mmin (rest := [.ref (ad 4)]) hx hb (hml.trans hl_4.1.symm) hown (hG _ q977) (hG _ q467) (hG _ q126) (hG _ q468) (Nat.le_trans (Nat.le_of_ble_eq_true rfl) hRf) (Nat.le_trans (Nat.le_of_ble_eq_true rfl) hRl) (Nat.zero_le _) (Nat.zero_le _) dX2_next_34 ?_
    refine kptX2_22_4 F I_7 dX2_next_37 ?_
    intro H_9 lo_9 G8 eG8 I_9
    replace hf := nm_some eG8 hf
    refine lv_aload_n hx hb dX2_next_40 rfl (lv_at hl_4 0 rfl) ?_
    refine kgtX2_11_4 F I_9 dX2_next_41 ?_
    refine lv_aload_n hx hb dX2_next_44 rfl (lv_at hl_4 0 rfl) ?_
    refine kgtX2_18_4 F I_9 dX2_next_45 ?_
    obtain ⟨g10, hf⟩ := ri_some hf
    refine kaald F I_9 g10 dX2_next_48 ?_
    obtain ⟨j11, ej11⟩ : ∃ z, z = (G8 6 0).toNatClampNeg := ⟨_, rfl⟩
    replace hf := nm_some ej11 hf
    have hjj11 : j11 < 12 := by rw [ej11]; exact st_lt g10
    rw [← ej11]
    cases hf
    exact ret H_9 lo_9 _ ls_4 I_9 dX2_next_49
  replace hf := hv12
  refine lv_icmp_ge (tgt := 21) hx hb dX2_next_9 (by decide) (fun c13 => ?_) (fun c13 => ?_)
  · replace hf := (if_pos c13).symm.trans hf
    refine lv_iconst (v := (0 : Int32)) hx hb dX2_next_21 (by decide) ?_
    cases hf
    exact J1 H lo I ls (lv_sub hl [0] rfl)
  · replace hf := (if_neg c13).symm.trans hf
    refine lv_aload_n hx hb dX2_next_12 rfl (lv_at hl 0 rfl) ?_
    refine kgtX2_18_4 F I dX2_next_13 ?_
    refine lv_iconst (v := (1 : Int32)) hx hb dX2_next_16 (by decide) ?_
    refine lv_iadd hx hb dX2_next_17 ?_
    refine lv_goto (tgt := 22) hx hb dX2_next_18 (by decide) ?_
    cases hf
    exact J1 H lo I ls (lv_sub hl [0] rfl)
def C_HI_takeLatest (G : Nat → Nat → Int32) : Option ((Option Nat) × (Nat → Nat → Int32)) :=
if G 7 0 = 0 then
(some (none, G))
else
(ri 12 (G 6 0) <|
nm ((G 6 0).toNatClampNeg) fun j2 =>
bd (if G 6 0 ≤ 0 then
(some (11 : Int32))
else
(some ((G 6 0) - (1 : Int32)))) fun x5 =>
nm (wf G 6 x5) fun G9 =>
nm (wf G9 7 ((G9 7 0) - (1 : Int32))) fun G11 =>
some (some j2, G11))
set_option maxRecDepth 100000 in
set_option maxHeartbeats 4000000 in
theorem cC_HI_takeLatest (G : Nat → Nat → Int32) (E : Nat → Nat → Int64) (Dd : Nat → Nat → UInt64) (P : Nat → Option PRec) (Z : List PRec)  (rv : Option Nat) (newG : Nat → Nat → Int32) (hf : C_HI_takeLatest G = some (rv, newG)) : sMq D (cT cI cJ cD cS) (cW ad cI cJ cD cS) l yX2_takeLatest (ws1 yX2_takeLatest cX2_takeLatest 2 (some (.object "ListeningTrials$Step"))) ({ frames := 0, cells := 0, slots := 0, locals := 0 }) [.ref (ad 4)] (G, E, Dd, P, Z) (rv.map (fun j => ad (38 + 3 * j)), (newG, E, Dd, P, Z)) := by
  unfold C_HI_takeLatest at hf
  refine sMq_of (by decide) (Nat.le_of_ble_eq_true rfl) ?_
  intro p e R s m args below meth c A Q ls H lo F hRf hRl I hl ret
  obtain ⟨hx, hb, hml, hown, hG⟩ := id F
  replace hl : lv_has ls 2 [(0, .ref (ad 4))] := hl
  refine lv_aload_n hx hb dX2_takeLatest_0 rfl (lv_at hl 0 rfl) ?_
  refine kgtX2_22_4 F I dX2_takeLatest_1 ?_
  refine lv_if_ne (tgt := 9) hx hb dX2_takeLatest_4 (by decide) (fun c15 => ?_) (fun c15 => ?_)
  · replace hf := (if_neg c15).symm.trans hf
    refine lv_aload_n hx hb dX2_takeLatest_9 rfl (lv_at hl 0 rfl) ?_
    refine kgtX2_11_4 F I dX2_takeLatest_10 ?_
    refine lv_aload_n hx hb dX2_takeLatest_13 rfl (lv_at hl 0 rfl) ?_
    refine kgtX2_18_4 F I dX2_takeLatest_14 ?_
    obtain ⟨g1, hf⟩ := ri_some hf
    refine kaald F I g1 dX2_takeLatest_17 ?_
    obtain ⟨j2, ej2⟩ : ∃ z, z = (G 6 0).toNatClampNeg := ⟨_, rfl⟩
    replace hf := nm_some ej2 hf
    have hjj2 : j2 < 12 := by rw [ej2]; exact st_lt g1
    rw [← ej2]
    refine lv_astore_n (lv' := [(1, .ref (ad (38 + 3 * j2))), (0, .ref (ad 4))]) hx hb dX2_takeLatest_18 rfl hl (by decide) rfl (fun ls_3 hl_3 => ?_)
    refine lv_aload_n hx hb dX2_takeLatest_19 rfl (lv_at hl_3 1 rfl) ?_
    refine lv_aload_n hx hb dX2_takeLatest_20 rfl (lv_at hl_3 1 rfl) ?_
    refine kgtX2_18_4 F I dX2_takeLatest_21 ?_
    obtain ⟨x5, hv13, hf⟩ := bd_some hf
    have J4 : ∀ (H : Heap) (locs : List Loc), sInv D (cT cI cJ cD cS) (cW ad cI cJ cD cS) A s H locs (G, E, Dd, P, Z) → ∀ (ls : Array Slot), lv_has ls 2 [(0, .ref (ad 4)), (1, .ref (ad (38 + 3 * j2)))] → W p l e R s m args below meth c H locs 0 0 Q (F0 m 38 ls [.int x5, .ref (ad 4)]) := by
      intro H_6 lo_6 I_6 ls_7 hl_7
      refine kptX2_18_4 F I_6 dX2_takeLatest_38 ?_
      intro H_10 lo_10 G9 eG9 I_10
      replace hf := nm_some eG9 hf
      refine lv_aload_n hx hb dX2_takeLatest_41 rfl (lv_at hl_7 0 rfl) ?_
      refine lv_dup hx hb dX2_takeLatest_42 rfl ?_
      refine kgtX2_22_4 F I_10 dX2_takeLatest_43 ?_
      refine lv_iconst (v := (1 : Int32)) hx hb dX2_takeLatest_46 (by decide) ?_
      refine lv_isub hx hb dX2_takeLatest_47 ?_
      refine kptX2_22_4 F I_10 dX2_takeLatest_48 ?_
      intro H_12 lo_12 G11 eG11 I_12
      replace hf := nm_some eG11 hf
      refine lv_aload_n hx hb dX2_takeLatest_51 rfl (lv_at hl_7 1 rfl) ?_
      cases hf
      exact ret H_12 lo_12 _ ls_7 I_12 dX2_takeLatest_52
    replace hf := hv13
    refine lv_if_le (tgt := 36) hx hb dX2_takeLatest_24 (by decide) (fun c14 => ?_) (fun c14 => ?_)
    · replace hf := (if_pos c14).symm.trans hf
      refine lv_bipush (v := (11 : Int32)) hx hb dX2_takeLatest_36 (by decide) ?_
      cases hf
      exact J4 H lo I ls_3 (lv_sub hl_3 [1, 0] rfl)
    · replace hf := (if_neg c14).symm.trans hf
      refine lv_aload_n hx hb dX2_takeLatest_27 rfl (lv_at hl_3 1 rfl) ?_
      refine kgtX2_18_4 F I dX2_takeLatest_28 ?_
      refine lv_iconst (v := (1 : Int32)) hx hb dX2_takeLatest_31 (by decide) ?_
      refine lv_isub hx hb dX2_takeLatest_32 ?_
      refine lv_goto (tgt := 38) hx hb dX2_takeLatest_33 (by decide) ?_
      cases hf
      exact J4 H lo I ls_3 (lv_sub hl_3 [1, 0] rfl)
  · replace hf := (if_pos c15).symm.trans hf
    refine lv_null hx hb dX2_takeLatest_7 ?_
    cases hf
    exact ret H lo _ ls I dX2_takeLatest_8
def C_TA_decidedOf (G : Nat → Nat → Int32) (a0 : Int32) (a1 : Int32) : Option (Int32) :=
nm (C_LT_cell a0 a1) fun r1 =>
ri 64 r1 <|
nm (C_LT_cell a1 a0) fun r5 =>
ri 64 r5 <|
some ((G 16 r1.toNatClampNeg) + (G 16 r5.toNatClampNeg))
set_option maxRecDepth 100000 in
set_option maxHeartbeats 4000000 in
theorem cC_TA_decidedOf (G : Nat → Nat → Int32) (E : Nat → Nat → Int64) (Dd : Nat → Nat → UInt64) (P : Nat → Option PRec) (Z : List PRec) (a0 : Int32) (a1 : Int32) (rv : Int32)  (hf : C_TA_decidedOf G a0 a1 = some rv) : sMi D (cT cI cJ cD cS) (cW ad cI cJ cD cS) l yX9_decidedOf (ws1 yX9_decidedOf cX9_decidedOf 3 (some .int)) ({ frames := 1, cells := 0, slots := 0, locals := 21 }) [.ref (ad 9), .int a0, .int a1] (G, E, Dd, P, Z) (rv, (G, E, Dd, P, Z)) := by
  unfold C_TA_decidedOf at hf
  refine sMi_of (by decide) (Nat.le_of_ble_eq_true rfl) ?_
  intro p e R s m args below meth c A Q ls H lo F hRf hRl I hl ret
  obtain ⟨hx, hb, hml, hown, hG⟩ := id F
  replace hl : lv_has ls 3 [(0, .ref (ad 9)), (1, .int a0), (2, .int a1)] := hl
  refine lv_aload_n hx hb dX9_decidedOf_0 rfl (lv_at hl 0 rfl) ?_
  refine kgtX9_9_9 F I dX9_decidedOf_1 ?_
  refine lv_iload_n hx hb dX9_decidedOf_4 rfl (lv_at hl 1 rfl) ?_
  refine lv_iload_n hx hb dX9_decidedOf_5 rfl (lv_at hl 2 rfl) ?_
  obtain ⟨r1, h2⟩ : ∃ z, z = C_LT_cell a0 a1 := ⟨_, rfl⟩
  replace hf := nm_some h2 hf
  refine s_callSNi (As := [.int a0, .int a1]) (rest := [.ref (ad 10)]) F I (cC_LT_cell G E Dd P Z a0 a1 r1 h2) kX9_43 ⟨rfl, rfl⟩ ⟨Nat.le_trans (Nat.le_of_ble_eq_true rfl) hRf, Nat.le_trans (Nat.le_of_ble_eq_true rfl) hRl⟩ rfl rfl hl.1 (Nat.le_of_ble_eq_true rfl) ⟨Nat.zero_le _, Nat.zero_le _⟩ dX9_decidedOf_6 ?_
  intro H_3 lo_3 I_3
  obtain ⟨g4, hf⟩ := ri_some hf
  refine kal10 F I_3 g4 dX9_decidedOf_9 ?_
  refine lv_aload_n hx hb dX9_decidedOf_10 rfl (lv_at hl 0 rfl) ?_
  refine kgtX9_9_9 F I_3 dX9_decidedOf_11 ?_
  refine lv_iload_n hx hb dX9_decidedOf_14 rfl (lv_at hl 2 rfl) ?_
  refine lv_iload_n hx hb dX9_decidedOf_15 rfl (lv_at hl 1 rfl) ?_
  obtain ⟨r5, h6⟩ : ∃ z, z = C_LT_cell a1 a0 := ⟨_, rfl⟩
  replace hf := nm_some h6 hf
  refine s_callSNi (As := [.int a1, .int a0]) (rest := [.ref (ad 10), .int (G 16 r1.toNatClampNeg)]) F I_3 (cC_LT_cell G E Dd P Z a1 a0 r5 h6) kX9_43 ⟨rfl, rfl⟩ ⟨Nat.le_trans (Nat.le_of_ble_eq_true rfl) hRf, Nat.le_trans (Nat.le_of_ble_eq_true rfl) hRl⟩ rfl rfl hl.1 (Nat.le_of_ble_eq_true rfl) ⟨Nat.zero_le _, Nat.zero_le _⟩ dX9_decidedOf_16 ?_
  intro H_7 lo_7 I_7
  obtain ⟨g8, hf⟩ := ri_some hf
  refine kal10 F I_7 g8 dX9_decidedOf_19 ?_
  refine lv_iadd hx hb dX9_decidedOf_20 ?_
  cases hf
  exact ret H_7 lo_7 _ ls I_7 dX9_decidedOf_21
def C_TA_winsOf (G : Nat → Nat → Int32) (a0 : Int32) (a1 : Int32) : Option (Int32) :=
nm (C_LT_cell a0 a1) fun r1 =>
ri 64 r1 <|
some (G 16 r1.toNatClampNeg)
set_option maxRecDepth 100000 in
set_option maxHeartbeats 4000000 in
theorem cC_TA_winsOf (G : Nat → Nat → Int32) (E : Nat → Nat → Int64) (Dd : Nat → Nat → UInt64) (P : Nat → Option PRec) (Z : List PRec) (a0 : Int32) (a1 : Int32) (rv : Int32)  (hf : C_TA_winsOf G a0 a1 = some rv) : sMi D (cT cI cJ cD cS) (cW ad cI cJ cD cS) l yX9_winsOf (ws1 yX9_winsOf cX9_winsOf 3 (some .int)) ({ frames := 1, cells := 0, slots := 0, locals := 21 }) [.ref (ad 9), .int a0, .int a1] (G, E, Dd, P, Z) (rv, (G, E, Dd, P, Z)) := by
  unfold C_TA_winsOf at hf
  refine sMi_of (by decide) (Nat.le_of_ble_eq_true rfl) ?_
  intro p e R s m args below meth c A Q ls H lo F hRf hRl I hl ret
  obtain ⟨hx, hb, hml, hown, hG⟩ := id F
  replace hl : lv_has ls 3 [(0, .ref (ad 9)), (1, .int a0), (2, .int a1)] := hl
  refine lv_aload_n hx hb dX9_winsOf_0 rfl (lv_at hl 0 rfl) ?_
  refine kgtX9_9_9 F I dX9_winsOf_1 ?_
  refine lv_iload_n hx hb dX9_winsOf_4 rfl (lv_at hl 1 rfl) ?_
  refine lv_iload_n hx hb dX9_winsOf_5 rfl (lv_at hl 2 rfl) ?_
  obtain ⟨r1, h2⟩ : ∃ z, z = C_LT_cell a0 a1 := ⟨_, rfl⟩
  replace hf := nm_some h2 hf
  refine s_callSNi (As := [.int a0, .int a1]) (rest := [.ref (ad 10)]) F I (cC_LT_cell G E Dd P Z a0 a1 r1 h2) kX9_43 ⟨rfl, rfl⟩ ⟨Nat.le_trans (Nat.le_of_ble_eq_true rfl) hRf, Nat.le_trans (Nat.le_of_ble_eq_true rfl) hRl⟩ rfl rfl hl.1 (Nat.le_of_ble_eq_true rfl) ⟨Nat.zero_le _, Nat.zero_le _⟩ dX9_winsOf_6 ?_
  intro H_3 lo_3 I_3
  obtain ⟨g4, hf⟩ := ri_some hf
  refine kal10 F I_3 g4 dX9_winsOf_9 ?_
  cases hf
  exact ret H_3 lo_3 _ ls I_3 dX9_winsOf_10
def C_LT_coinChance_s1 (x1 : Int32) (x3 : Int32) (x8 : Int64) (x9 : Int64) (x10 : Int32) : Option ((Int64 × Int64 × Int32) ⊕ (Int64)) :=
if x3 < x10 then
(some (.inr x9))
else
(nm (x9 + x8 : Int64) fun x18 =>
gd (¬ (x10 + (1 : Int32)).toInt64 = 0) <|
nm ((x8 * ((x1 - x10).toInt64)) / ((x10 + (1 : Int32)).toInt64) : Int64) fun x21 =>
nm (x10 + (1 : Int32) : Int32) fun x23 =>
some (.inl (x21, x18, x23)))
def C_LT_coinChance (a0 : Int32) (a1 : Int32) : Option (Int64) :=
nm (a0 + a1 : Int32) fun x1 =>
if x1 = 0 then
(some (281474976710656 : Int64))
else
(nm ((if a1 < a0 then a1 else a0) : Int32) fun x3 =>
bd (lp (fun q => C_LT_coinChance_s1 x1 x3 q.1 q.2.1 q.2.2) FU ((1 : Int64), (0 : Int64), (0 : Int32))) fun x11 =>
some (if ((2 : Int64) * x11) <<< (((48 : Int32) - x1).toInt64 &&& 63) < (281474976710656 : Int64) then ((2 : Int64) * x11) <<< (((48 : Int32) - x1).toInt64 &&& 63) else (281474976710656 : Int64)))
set_option maxRecDepth 100000 in
set_option maxHeartbeats 4000000 in
theorem cC_LT_coinChance (G : Nat → Nat → Int32) (E : Nat → Nat → Int64) (Dd : Nat → Nat → UInt64) (P : Nat → Option PRec) (Z : List PRec) (a0 : Int32) (a1 : Int32) (rv : Int64)  (hf : C_LT_coinChance a0 a1 = some rv) : sMl D (cT cI cJ cD cS) (cW ad cI cJ cD cS) l yX11_coinChance (ws1 yX11_coinChance cX11_coinChance 9 (some .long)) ({ frames := 1, cells := 0, slots := 0, locals := 23 }) [.int a0, .int a1] (G, E, Dd, P, Z) (rv, (G, E, Dd, P, Z)) := by
  unfold C_LT_coinChance at hf
  refine sMl_of (by decide) (Nat.le_of_ble_eq_true rfl) ?_
  intro p e R s m args below meth c A Q ls H lo F hRf hRl I hl ret
  obtain ⟨hx, hb, hml, hown, hG⟩ := id F
  replace hl : lv_has ls 9 [(0, .int a0), (1, .int a1)] := hl
  refine lv_iload_n hx hb dX11_coinChance_0 rfl (lv_at hl 0 rfl) ?_
  refine lv_iload_n hx hb dX11_coinChance_1 rfl (lv_at hl 1 rfl) ?_
  refine lv_iadd hx hb dX11_coinChance_2 ?_
  refine lv_topi (fun x1 ex1 => ?_)
  replace hf := nm_some ex1 hf
  refine lv_istore_n (lv' := [(2, .int x1), (0, .int a0), (1, .int a1)]) hx hb dX11_coinChance_3 rfl hl (by decide) rfl (fun ls_2 hl_2 => ?_)
  refine lv_iload_n hx hb dX11_coinChance_4 rfl (lv_at hl_2 0 rfl) ?_
  refine lv_if_ne (tgt := 12) hx hb dX11_coinChance_5 (by decide) (fun c26 => ?_) (fun c26 => ?_)
  · replace hf := (if_neg c26).symm.trans hf
    refine lv_iload_n hx hb dX11_coinChance_12 rfl (lv_at hl_2 1 rfl) ?_
    refine lv_iload_n hx hb dX11_coinChance_13 rfl (lv_at hl_2 2 rfl) ?_
    refine va_mmin (rest := []) hx hb (hml.trans hl_2.1.symm) hown (hG _ q466) (hG _ q467) (hG _ q126) (hG _ q468) (Nat.le_trans (Nat.le_of_ble_eq_true rfl) hRf) (Nat.le_trans (Nat.le_of_ble_eq_true rfl) hRl) (Nat.zero_le _) (Nat.zero_le _) dX11_coinChance_14 ?_
    refine lv_topi (fun x3 ex3 => ?_)
    replace hf := nm_some ex3 hf
    refine lv_istore_n (lv' := [(3, .int x3), (2, .int x1), (0, .int a0), (1, .int a1)]) hx hb dX11_coinChance_17 rfl hl_2 (by decide) rfl (fun ls_4 hl_4 => ?_)
    refine lv_lconst (v := (1 : Int64)) hx hb dX11_coinChance_18 (by decide) ?_
    refine lv_lstore (lv' := [(4, .long (1 : Int64)), (3, .int x3), (2, .int x1), (0, .int a0), (1, .int a1)]) hx hb dX11_coinChance_19 hl_4 (by decide) rfl (fun ls_5 hl_5 => ?_)
    refine lv_lconst (v := (0 : Int64)) hx hb dX11_coinChance_21 (by decide) ?_
    refine lv_lstore (lv' := [(6, .long (0 : Int64)), (4, .long (1 : Int64)), (3, .int x3), (2, .int x1), (0, .int a0), (1, .int a1)]) hx hb dX11_coinChance_22 hl_5 (by decide) rfl (fun ls_6 hl_6 => ?_)
    refine lv_iconst (v := (0 : Int32)) hx hb dX11_coinChance_24 (by decide) ?_
    refine lv_istore (lv' := [(8, .int (0 : Int32)), (6, .long (0 : Int64)), (4, .long (1 : Int64)), (3, .int x3), (2, .int x1), (0, .int a0), (1, .int a1)]) hx hb dX11_coinChance_25 hl_6 (by decide) rfl (fun ls_7 hl_7 => ?_)
    obtain ⟨x11, hq1, hf⟩ := bd_some hf
    have K1 : ∀ (H : Heap) (locs : List Loc), sInv D (cT cI cJ cD cS) (cW ad cI cJ cD cS) A s H locs (G, E, Dd, P, Z) → ∀ (ls : Array Slot), lv_has ls 9 [(2, .int x1), (6, .long x11)] → W p l e R s m args below meth c H locs 0 0 Q (F0 m 62 ls []) := by
      intro H_12 lo_12 I_12 ls_13 hl_13
      refine lv_ldc2 (v := (281474976710656 : Int64)) hx hb hown (hG _ q465) dX11_coinChance_62 ?_
      refine lv_ldc2 (v := (2 : Int64)) hx hb hown (hG _ q469) dX11_coinChance_65 ?_
      refine lv_lload hx hb dX11_coinChance_68 (lv_at hl_13 1 rfl) ?_
      refine lv_lmul hx hb dX11_coinChance_70 ?_
      refine lv_bipush (v := (48 : Int32)) hx hb dX11_coinChance_71 (by decide) ?_
      refine lv_iload_n hx hb dX11_coinChance_73 rfl (lv_at hl_13 0 rfl) ?_
      refine lv_isub hx hb dX11_coinChance_74 ?_
      refine lv_lshl hx hb dX11_coinChance_75 rfl ?_
      refine va_mmin_long (rest := []) hx hb (hml.trans hl_13.1.symm) hown (hG _ q470) (hG _ q471) (hG _ q126) (hG _ q472) (Nat.le_trans (Nat.le_of_ble_eq_true rfl) hRf) (Nat.le_trans (Nat.le_of_ble_eq_true rfl) hRl) (Nat.zero_le _) (Nat.zero_le _) dX11_coinChance_76 ?_
      cases hf
      exact ret H_12 lo_12 _ ls_13 I_12 dX11_coinChance_79
    have L1 : ∀ (n : Nat) (x8 : Int64) (x9 : Int64) (x10 : Int32), lp (fun q => C_LT_coinChance_s1 x1 x3 q.1 q.2.1 q.2.2) n (x8, x9, x10) = some x11 → ∀ (H : Heap) (locs : List Loc), sInv D (cT cI cJ cD cS) (cW ad cI cJ cD cS) A s H locs (G, E, Dd, P, Z) → ∀ (ls : Array Slot), lv_has ls 9 [(2, .int x1), (3, .int x3), (4, .long x8), (6, .long x9), (8, .int x10)] → W p l e R s m args below meth c H locs 0 0 Q (F0 m 27 ls []) := by
      intro n
      induction n with
      | zero => intro x8 x9 x10 hq; exact (lp_0 hq).elim
      | succ n ih1 =>
        intro x8 x9 x10 hq H_15 lo_15 I_15 ls_16 hl_16
        obtain ⟨y1, hf, hK1⟩ := lp_go hq
        replace hf : C_LT_coinChance_s1 x1 x3 x8 x9 x10 = some y1 := hf
        unfold C_LT_coinChance_s1 at hf
        refine lv_iload hx hb dX11_coinChance_27 (lv_at hl_16 4 rfl) ?_
        refine lv_iload_n hx hb dX11_coinChance_29 rfl (lv_at hl_16 1 rfl) ?_
        refine lv_icmp_gt (tgt := 62) hx hb dX11_coinChance_30 (by decide) (fun c25 => ?_) (fun c25 => ?_)
        · replace hf := (if_pos c25).symm.trans hf
          cases hf
          cases (show x9 = x11 from hK1)
          exact K1 H_15 lo_15 I_15 ls_16 (lv_sub hl_16 [0, 3] rfl)
        · replace hf := (if_neg c25).symm.trans hf
          refine lv_lload hx hb dX11_coinChance_33 (lv_at hl_16 3 rfl) ?_
          refine lv_lload hx hb dX11_coinChance_35 (lv_at hl_16 2 rfl) ?_
          refine lv_ladd hx hb dX11_coinChance_37 ?_
          refine lv_topl (fun x18 ex18 => ?_)
          replace hf := nm_some ex18 hf
          refine lv_lstore (lv' := [(6, .long x18), (2, .int x1), (3, .int x3), (4, .long x8), (8, .int x10)]) hx hb dX11_coinChance_38 hl_16 (by decide) rfl (fun ls_19 hl_19 => ?_)
          refine lv_lload hx hb dX11_coinChance_40 (lv_at hl_19 3 rfl) ?_
          refine lv_iload_n hx hb dX11_coinChance_42 rfl (lv_at hl_19 1 rfl) ?_
          refine lv_iload hx hb dX11_coinChance_43 (lv_at hl_19 4 rfl) ?_
          refine lv_isub hx hb dX11_coinChance_45 ?_
          refine lv_i2l hx hb dX11_coinChance_46 rfl ?_
          refine lv_lmul hx hb dX11_coinChance_47 ?_
          refine lv_iload hx hb dX11_coinChance_48 (lv_at hl_19 4 rfl) ?_
          refine lv_iconst (v := (1 : Int32)) hx hb dX11_coinChance_50 (by decide) ?_
          refine lv_iadd hx hb dX11_coinChance_51 ?_
          refine lv_i2l hx hb dX11_coinChance_52 rfl ?_
          obtain ⟨g20, hf⟩ := gd_some hf
          refine lv_ldiv hx hb dX11_coinChance_53 g20 ?_
          refine lv_topl (fun x21 ex21 => ?_)
          replace hf := nm_some ex21 hf
          refine lv_lstore (lv' := [(4, .long x21), (6, .long x18), (2, .int x1), (3, .int x3), (8, .int x10)]) hx hb dX11_coinChance_54 hl_19 (by decide) rfl (fun ls_22 hl_22 => ?_)
          obtain ⟨x23, ex23⟩ : ∃ y : Int32, y = x10 + (1 : Int32) := ⟨_, rfl⟩
          replace hf := nm_some ex23 hf
          refine lv_iinc (v := x23) (lv' := [(8, .int x23), (4, .long x21), (6, .long x18), (2, .int x1), (3, .int x3)]) hx hb dX11_coinChance_56 hl_22 (k := 4) rfl (by rw [ex23]; rfl) (by decide) rfl (fun ls_24 hl_24 => ?_)
          refine lv_goto (tgt := 27) hx hb dX11_coinChance_59 (by decide) ?_
          cases hf
          exact ih1 _ _ _ hK1 H_15 lo_15 I_15 ls_24 (lv_sub hl_24 [3, 4, 1, 2, 0] rfl)
    exact L1 FU _ _ _ hq1 H lo I ls_7 (lv_sub hl_7 [4, 3, 2, 1, 0] rfl)
  · replace hf := (if_pos c26).symm.trans hf
    refine lv_ldc2 (v := (281474976710656 : Int64)) hx hb hown (hG _ q465) dX11_coinChance_8 ?_
    cases hf
    exact ret H lo _ ls_2 I dX11_coinChance_11
def C_TA_chanceOf (G : Nat → Nat → Int32) (a0 : Int32) (a1 : Int32) : Option (Int64) :=
bd (C_TA_winsOf G a0 a1) fun r1 =>
bd (C_TA_winsOf G a1 a0) fun r4 =>
bd (C_LT_coinChance r1 r4) fun r7 =>
some r7
set_option maxRecDepth 100000 in
set_option maxHeartbeats 4000000 in
theorem cC_TA_chanceOf (G : Nat → Nat → Int32) (E : Nat → Nat → Int64) (Dd : Nat → Nat → UInt64) (P : Nat → Option PRec) (Z : List PRec) (a0 : Int32) (a1 : Int32) (rv : Int64)  (hf : C_TA_chanceOf G a0 a1 = some rv) : sMl D (cT cI cJ cD cS) (cW ad cI cJ cD cS) l yX9_chanceOf (ws1 yX9_chanceOf cX9_chanceOf 3 (some .long)) ({ frames := 2, cells := 0, slots := 0, locals := 51 }) [.ref (ad 9), .int a0, .int a1] (G, E, Dd, P, Z) (rv, (G, E, Dd, P, Z)) := by
  unfold C_TA_chanceOf at hf
  refine sMl_of (by decide) (Nat.le_of_ble_eq_true rfl) ?_
  intro p e R s m args below meth c A Q ls H lo F hRf hRl I hl ret
  obtain ⟨hx, hb, hml, hown, hG⟩ := id F
  replace hl : lv_has ls 3 [(0, .ref (ad 9)), (1, .int a0), (2, .int a1)] := hl
  refine lv_aload_n hx hb dX9_chanceOf_0 rfl (lv_at hl 0 rfl) ?_
  refine lv_iload_n hx hb dX9_chanceOf_1 rfl (lv_at hl 1 rfl) ?_
  refine lv_iload_n hx hb dX9_chanceOf_2 rfl (lv_at hl 2 rfl) ?_
  obtain ⟨r1, h2, hf⟩ := bd_some hf
  refine s_callVi (As := [.int a0, .int a1]) (rest := []) F I (cC_TA_winsOf G E Dd P Z a0 a1 r1 h2) kX9_53 ⟨rfl, rfl⟩ ⟨Nat.le_trans (Nat.le_of_ble_eq_true rfl) hRf, Nat.le_trans (Nat.le_of_ble_eq_true rfl) hRl⟩ (9) 9 rfl rfl rfl rfl rfl hl.1 (Nat.le_of_ble_eq_true rfl) ⟨Nat.zero_le _, Nat.zero_le _⟩ dX9_chanceOf_3 ?_
  intro H_3 lo_3 I_3
  refine lv_aload_n hx hb dX9_chanceOf_6 rfl (lv_at hl 0 rfl) ?_
  refine lv_iload_n hx hb dX9_chanceOf_7 rfl (lv_at hl 2 rfl) ?_
  refine lv_iload_n hx hb dX9_chanceOf_8 rfl (lv_at hl 1 rfl) ?_
  obtain ⟨r4, h5, hf⟩ := bd_some hf
  refine s_callVi (As := [.int a1, .int a0]) (rest := [.int r1]) F I_3 (cC_TA_winsOf G E Dd P Z a1 a0 r4 h5) kX9_53 ⟨rfl, rfl⟩ ⟨Nat.le_trans (Nat.le_of_ble_eq_true rfl) hRf, Nat.le_trans (Nat.le_of_ble_eq_true rfl) hRl⟩ (9) 9 rfl rfl rfl rfl rfl hl.1 (Nat.le_of_ble_eq_true rfl) ⟨Nat.zero_le _, Nat.zero_le _⟩ dX9_chanceOf_9 ?_
  intro H_6 lo_6 I_6
  obtain ⟨r7, h8, hf⟩ := bd_some hf
  refine s_callSNl (As := [.int r1, .int r4]) (rest := []) F I_6 (cC_LT_coinChance G E Dd P Z r1 r4 r7 h8) kX9_56 ⟨rfl, rfl⟩ ⟨Nat.le_trans (Nat.le_of_ble_eq_true rfl) hRf, Nat.le_trans (Nat.le_of_ble_eq_true rfl) hRl⟩ rfl rfl hl.1 (Nat.le_of_ble_eq_true rfl) ⟨Nat.zero_le _, Nat.zero_le _⟩ dX9_chanceOf_12 ?_
  intro H_9 lo_9 I_9
  cases hf
  exact ret H_9 lo_9 _ ls I_9 dX9_chanceOf_15
def C_PP_insert_s1 (a1 : Int64) (x3 : Int32) (G4 : Nat → Nat → Int32) (E5 : Nat → Nat → Int64) : Option ((Int32 × (Nat → Nat → Int32) × (Nat → Nat → Int64)) ⊕ (Int32 × (Nat → Nat → Int32) × (Nat → Nat → Int64))) :=
if x3 ≤ 0 then
(some (.inr (x3, G4, E5)))
else
(ri 28 (x3 - (1 : Int32)) <|
if lg_cmp (E5 0 (x3 - (1 : Int32)).toNatClampNeg) a1 ≤ 0 then
(some (.inr (x3, G4, E5)))
else
(ri 28 (x3 - (1 : Int32)) <|
ri 28 x3 <|
nm (wr G4 39 x3 (G4 39 (x3 - (1 : Int32)).toNatClampNeg)) fun G26 =>
ri 28 (x3 - (1 : Int32)) <|
ri 28 x3 <|
nm (wr E5 0 x3 (E5 0 (x3 - (1 : Int32)).toNatClampNeg)) fun E30 =>
nm (x3 + (-1 : Int32) : Int32) fun x32 =>
some (.inl (x32, G26, E30))))
def C_PP_insert (G : Nat → Nat → Int32) (E : Nat → Nat → Int64) (a0 : Int32) (a1 : Int64) : Option ((Nat → Nat → Int32) × (Nat → Nat → Int64)) :=
if G 40 0 < (28 : Int32) then
(nm (G 40 0 : Int32) fun x1 =>
bd3 (lp (fun q => C_PP_insert_s1 a1 q.1 q.2.1 q.2.2) FU (x1, G, E)) fun x6 G7 E8 =>
ri 28 x6 <|
nm (wr G7 39 x6 a0) fun G13 =>
ri 28 x6 <|
nm (wr E8 0 x6 a1) fun E16 =>
nm (wf G13 40 ((G13 40 0) + (1 : Int32))) fun G18 =>
some (G18, E16))
else
(some (G, E))
set_option maxRecDepth 100000 in
set_option maxHeartbeats 4000000 in
theorem cC_PP_insert (G : Nat → Nat → Int32) (E : Nat → Nat → Int64) (Dd : Nat → Nat → UInt64) (P : Nat → Option PRec) (Z : List PRec) (a0 : Int32) (a1 : Int64)  (newG : Nat → Nat → Int32) (newE : Nat → Nat → Int64) (hf : C_PP_insert G E a0 a1 = some (newG, newE)) : sMv D (cT cI cJ cD cS) (cW ad cI cJ cD cS) l yX5_insert (ws1 yX5_insert cX5_insert 5 none) ({ frames := 0, cells := 0, slots := 0, locals := 0 }) [.ref (ad 30), .int a0, .long a1] (G, E, Dd, P, Z) (newG, newE, Dd, P, Z) := by
  unfold C_PP_insert at hf
  refine sMv_of (by decide) (Nat.le_of_ble_eq_true rfl) ?_
  intro p e R s m args below meth c A Q ls H lo F hRf hRl I hl ret
  obtain ⟨hx, hb, hml, hown, hG⟩ := id F
  replace hl : lv_has ls 5 [(0, .ref (ad 30)), (1, .int a0), (2, .long a1)] := hl
  refine lv_aload_n hx hb dX5_insert_0 rfl (lv_at hl 0 rfl) ?_
  refine kgtX5_19_30 F I dX5_insert_1 ?_
  refine lv_bipush (v := (28 : Int32)) hx hb dX5_insert_4 (by decide) ?_
  refine lv_icmp_lt (tgt := 10) hx hb dX5_insert_6 (by decide) (fun c36 => ?_) (fun c36 => ?_)
  · replace hf := (if_pos c36).symm.trans hf
    refine lv_aload_n hx hb dX5_insert_10 rfl (lv_at hl 0 rfl) ?_
    refine kgtX5_19_30 F I dX5_insert_11 ?_
    refine lv_topi (fun x1 ex1 => ?_)
    replace hf := nm_some ex1 hf
    refine lv_istore (lv' := [(4, .int x1), (0, .ref (ad 30)), (1, .int a0), (2, .long a1)]) hx hb dX5_insert_14 hl (by decide) rfl (fun ls_2 hl_2 => ?_)
    obtain ⟨x6, G7, E8, hq1, hf⟩ := bd3_some hf
    have K1 : ∀ (H : Heap) (locs : List Loc), sInv D (cT cI cJ cD cS) (cW ad cI cJ cD cS) A s H locs (G7, E8, Dd, P, Z) → ∀ (ls : Array Slot), lv_has ls 5 [(0, .ref (ad 30)), (1, .int a0), (2, .long a1), (4, .int x6)] → W p l e R s m args below meth c H locs 0 0 Q (F0 m 73 ls []) := by
      intro H_9 lo_9 I_9 ls_10 hl_10
      refine lv_aload_n hx hb dX5_insert_73 rfl (lv_at hl_10 0 rfl) ?_
      refine kgtX5_9_30 F I_9 dX5_insert_74 ?_
      refine lv_iload hx hb dX5_insert_77 (lv_at hl_10 3 rfl) ?_
      refine lv_iload_n hx hb dX5_insert_79 rfl (lv_at hl_10 1 rfl) ?_
      obtain ⟨g12, hf⟩ := ri_some hf
      refine kas31 F I_9 g12 dX5_insert_80 ?_
      intro H_14 lo_14 G13 eG13 I_14
      replace hf := nm_some eG13 hf
      refine lv_aload_n hx hb dX5_insert_81 rfl (lv_at hl_10 0 rfl) ?_
      refine kgtX5_15_30 F I_14 dX5_insert_82 ?_
      refine lv_iload hx hb dX5_insert_85 (lv_at hl_10 3 rfl) ?_
      refine lv_lload_n hx hb dX5_insert_87 rfl (lv_at hl_10 2 rfl) ?_
      obtain ⟨g15, hf⟩ := ri_some hf
      refine kas32 F I_14 g15 dX5_insert_88 ?_
      intro H_17 lo_17 E16 eE16 I_17
      replace hf := nm_some eE16 hf
      refine lv_aload_n hx hb dX5_insert_89 rfl (lv_at hl_10 0 rfl) ?_
      refine lv_dup hx hb dX5_insert_90 rfl ?_
      refine kgtX5_19_30 F I_17 dX5_insert_91 ?_
      refine lv_iconst (v := (1 : Int32)) hx hb dX5_insert_94 (by decide) ?_
      refine lv_iadd hx hb dX5_insert_95 ?_
      refine kptX5_19_30 F I_17 dX5_insert_96 ?_
      intro H_19 lo_19 G18 eG18 I_19
      replace hf := nm_some eG18 hf
      cases hf
      exact ret H_19 lo_19 _ ls_10 I_19 dX5_insert_99
    have L1 : ∀ (n : Nat) (x3 : Int32) (G4 : Nat → Nat → Int32) (E5 : Nat → Nat → Int64), lp (fun q => C_PP_insert_s1 a1 q.1 q.2.1 q.2.2) n (x3, G4, E5) = some (x6, G7, E8) → ∀ (H : Heap) (locs : List Loc), sInv D (cT cI cJ cD cS) (cW ad cI cJ cD cS) A s H locs (G4, E5, Dd, P, Z) → ∀ (ls : Array Slot), lv_has ls 5 [(0, .ref (ad 30)), (1, .int a0), (2, .long a1), (4, .int x3)] → W p l e R s m args below meth c H locs 0 0 Q (F0 m 16 ls []) := by
      intro n
      induction n with
      | zero => intro x3 G4 E5 hq; exact (lp_0 hq).elim
      | succ n ih1 =>
        intro x3 G4 E5 hq H_20 lo_20 I_20 ls_21 hl_21
        obtain ⟨y1, hf, hK1⟩ := lp_go hq
        replace hf : C_PP_insert_s1 a1 x3 G4 E5 = some y1 := hf
        unfold C_PP_insert_s1 at hf
        refine lv_iload hx hb dX5_insert_16 (lv_at hl_21 3 rfl) ?_
        refine lv_if_le (tgt := 73) hx hb dX5_insert_18 (by decide) (fun c35 => ?_) (fun c35 => ?_)
        · replace hf := (if_pos c35).symm.trans hf
          cases hf
          cases (show (x3, G4, E5) = (x6, G7, E8) from hK1)
          exact K1 H_20 lo_20 I_20 ls_21 (lv_sub hl_21 [0, 1, 2, 3] rfl)
        · replace hf := (if_neg c35).symm.trans hf
          refine lv_aload_n hx hb dX5_insert_21 rfl (lv_at hl_21 0 rfl) ?_
          refine kgtX5_15_30 F I_20 dX5_insert_22 ?_
          refine lv_iload hx hb dX5_insert_25 (lv_at hl_21 3 rfl) ?_
          refine lv_iconst (v := (1 : Int32)) hx hb dX5_insert_27 (by decide) ?_
          refine lv_isub hx hb dX5_insert_28 ?_
          obtain ⟨g23, hf⟩ := ri_some hf
          refine kal32 F I_20 g23 dX5_insert_29 ?_
          refine lv_lload_n hx hb dX5_insert_30 rfl (lv_at hl_21 2 rfl) ?_
          refine W.lcmp hx hb dX5_insert_31 ?_
          refine lv_if_le (tgt := 73) hx hb dX5_insert_32 (by decide) (fun c34 => ?_) (fun c34 => ?_)
          · replace hf := (if_pos c34).symm.trans hf
            cases hf
            cases (show (x3, G4, E5) = (x6, G7, E8) from hK1)
            exact K1 H_20 lo_20 I_20 ls_21 (lv_sub hl_21 [0, 1, 2, 3] rfl)
          · replace hf := (if_neg c34).symm.trans hf
            refine lv_aload_n hx hb dX5_insert_35 rfl (lv_at hl_21 0 rfl) ?_
            refine kgtX5_9_30 F I_20 dX5_insert_36 ?_
            refine lv_iload hx hb dX5_insert_39 (lv_at hl_21 3 rfl) ?_
            refine lv_aload_n hx hb dX5_insert_41 rfl (lv_at hl_21 0 rfl) ?_
            refine kgtX5_9_30 F I_20 dX5_insert_42 ?_
            refine lv_iload hx hb dX5_insert_45 (lv_at hl_21 3 rfl) ?_
            refine lv_iconst (v := (1 : Int32)) hx hb dX5_insert_47 (by decide) ?_
            refine lv_isub hx hb dX5_insert_48 ?_
            obtain ⟨g24, hf⟩ := ri_some hf
            refine kal31 F I_20 g24 dX5_insert_49 ?_
            obtain ⟨g25, hf⟩ := ri_some hf
            refine kas31 F I_20 g25 dX5_insert_50 ?_
            intro H_27 lo_27 G26 eG26 I_27
            replace hf := nm_some eG26 hf
            refine lv_aload_n hx hb dX5_insert_51 rfl (lv_at hl_21 0 rfl) ?_
            refine kgtX5_15_30 F I_27 dX5_insert_52 ?_
            refine lv_iload hx hb dX5_insert_55 (lv_at hl_21 3 rfl) ?_
            refine lv_aload_n hx hb dX5_insert_57 rfl (lv_at hl_21 0 rfl) ?_
            refine kgtX5_15_30 F I_27 dX5_insert_58 ?_
            refine lv_iload hx hb dX5_insert_61 (lv_at hl_21 3 rfl) ?_
            refine lv_iconst (v := (1 : Int32)) hx hb dX5_insert_63 (by decide) ?_
            refine lv_isub hx hb dX5_insert_64 ?_
            obtain ⟨g28, hf⟩ := ri_some hf
            refine kal32 F I_27 g28 dX5_insert_65 ?_
            obtain ⟨g29, hf⟩ := ri_some hf
            refine kas32 F I_27 g29 dX5_insert_66 ?_
            intro H_31 lo_31 E30 eE30 I_31
            replace hf := nm_some eE30 hf
            obtain ⟨x32, ex32⟩ : ∃ y : Int32, y = x3 + (-1 : Int32) := ⟨_, rfl⟩
            replace hf := nm_some ex32 hf
            refine lv_iinc (v := x32) (lv' := [(4, .int x32), (0, .ref (ad 30)), (1, .int a0), (2, .long a1)]) hx hb dX5_insert_67 hl_21 (k := 3) rfl (by rw [ex32]; rfl) (by decide) rfl (fun ls_33 hl_33 => ?_)
            refine lv_goto (tgt := 16) hx hb dX5_insert_70 (by decide) ?_
            cases hf
            exact ih1 _ _ _ hK1 H_31 lo_31 I_31 ls_33 (lv_sub hl_33 [1, 2, 3, 0] rfl)
    exact L1 FU _ _ _ hq1 H lo I ls_2 (lv_sub hl_2 [1, 2, 3, 0] rfl)
  · replace hf := (if_neg c36).symm.trans hf
    cases hf
    exact ret H lo _ ls I dX5_insert_9
def C_PP_take_s2 (a1 : Int32) (x4 : Int32) (x17 : Int32) (G18 : Nat → Nat → Int32) (E19 : Nat → Nat → Int64) : Option ((Int32 × (Nat → Nat → Int32) × (Nat → Nat → Int64)) ⊕ ((Nat → Nat → Int32) × (Nat → Nat → Int64))) :=
if a1 ≤ x17 then
(some (.inr (G18, E19)))
else
(bd (C_TA_decidedOf G18 x4 x17) fun r30 =>
bd2 (if r30 ≤ 0 then
(some (G18, E19))
else
(nm (C_LT_cell x4 x17) fun r42 =>
bd (C_TA_chanceOf G18 x4 x17) fun r45 =>
bd2 (C_PP_insert G18 E19 r42 r45) fun G48 E49 =>
some (G48, E49))) fun G34 E35 =>
nm (x17 + (1 : Int32) : Int32) fun x39 =>
some (.inl (x39, G34, E35)))
def C_PP_take_s1 (a1 : Int32) (x4 : Int32) (G5 : Nat → Nat → Int32) (E6 : Nat → Nat → Int64) : Option ((Int32 × (Nat → Nat → Int32) × (Nat → Nat → Int64)) ⊕ ((Nat → Nat → Int32) × (Nat → Nat → Int64))) :=
if a1 ≤ x4 then
(some (.inr (G5, E6)))
else
(nm (x4 + (1 : Int32) : Int32) fun x15 =>
bd2 (lp (fun q => C_PP_take_s2 a1 x4 q.1 q.2.1 q.2.2) FU (x15, G5, E6)) fun G20 E21 =>
nm (x4 + (1 : Int32) : Int32) fun x25 =>
some (.inl (x25, G20, E21)))
def C_PP_take (G : Nat → Nat → Int32) (E : Nat → Nat → Int64) (a1 : Int32) : Option ((Nat → Nat → Int32) × (Nat → Nat → Int64)) :=
nm (wf G 40 (0 : Int32)) fun G1 =>
bd2 (lp (fun q => C_PP_take_s1 a1 q.1 q.2.1 q.2.2) FU ((0 : Int32), G1, E)) fun G7 E8 =>
some (G7, E8)
set_option maxRecDepth 100000 in
set_option maxHeartbeats 4000000 in
theorem cC_PP_take (G : Nat → Nat → Int32) (E : Nat → Nat → Int64) (Dd : Nat → Nat → UInt64) (P : Nat → Option PRec) (Z : List PRec) (a1 : Int32)  (newG : Nat → Nat → Int32) (newE : Nat → Nat → Int64) (hf : C_PP_take G E a1 = some (newG, newE)) : sMv D (cT cI cJ cD cS) (cW ad cI cJ cD cS) l yX5_take (ws1 yX5_take cX5_take 5 none) ({ frames := 3, cells := 0, slots := 0, locals := 73 }) [.ref (ad 30), .ref (ad 9), .int a1] (G, E, Dd, P, Z) (newG, newE, Dd, P, Z) := by
  unfold C_PP_take at hf
  refine sMv_of (by decide) (Nat.le_of_ble_eq_true rfl) ?_
  intro p e R s m args below meth c A Q ls H lo F hRf hRl I hl ret
  obtain ⟨hx, hb, hml, hown, hG⟩ := id F
  replace hl : lv_has ls 5 [(0, .ref (ad 30)), (1, .ref (ad 9)), (2, .int a1)] := hl
  refine lv_aload_n hx hb dX5_take_0 rfl (lv_at hl 0 rfl) ?_
  refine lv_iconst (v := (0 : Int32)) hx hb dX5_take_1 (by decide) ?_
  refine kptX5_19_30 F I dX5_take_2 ?_
  intro H_2 lo_2 G1 eG1 I_2
  replace hf := nm_some eG1 hf
  refine lv_iconst (v := (0 : Int32)) hx hb dX5_take_5 (by decide) ?_
  refine lv_istore_n (lv' := [(3, .int (0 : Int32)), (0, .ref (ad 30)), (1, .ref (ad 9)), (2, .int a1)]) hx hb dX5_take_6 rfl hl (by decide) rfl (fun ls_3 hl_3 => ?_)
  obtain ⟨G7, E8, hq1, hf⟩ := bd2_some hf
  have K1 : ∀ (H : Heap) (locs : List Loc), sInv D (cT cI cJ cD cS) (cW ad cI cJ cD cS) A s H locs (G7, E8, Dd, P, Z) → ∀ (ls : Array Slot), lv_has ls 5 [] → W p l e R s m args below meth c H locs 0 0 Q (F0 m 62 ls []) := by
    intro H_9 lo_9 I_9 ls_10 hl_10
    cases hf
    exact ret H_9 lo_9 _ ls_10 I_9 dX5_take_62
  have L1 : ∀ (n : Nat) (x4 : Int32) (G5 : Nat → Nat → Int32) (E6 : Nat → Nat → Int64), lp (fun q => C_PP_take_s1 a1 q.1 q.2.1 q.2.2) n (x4, G5, E6) = some (G7, E8) → ∀ (H : Heap) (locs : List Loc), sInv D (cT cI cJ cD cS) (cW ad cI cJ cD cS) A s H locs (G5, E6, Dd, P, Z) → ∀ (ls : Array Slot), lv_has ls 5 [(0, .ref (ad 30)), (1, .ref (ad 9)), (2, .int a1), (3, .int x4)] → W p l e R s m args below meth c H locs 0 0 Q (F0 m 7 ls []) := by
    intro n
    induction n with
    | zero => intro x4 G5 E6 hq; exact (lp_0 hq).elim
    | succ n ih1 =>
      intro x4 G5 E6 hq H_12 lo_12 I_12 ls_13 hl_13
      obtain ⟨y1, hf, hK1⟩ := lp_go hq
      replace hf : C_PP_take_s1 a1 x4 G5 E6 = some y1 := hf
      unfold C_PP_take_s1 at hf
      refine lv_iload_n hx hb dX5_take_7 rfl (lv_at hl_13 3 rfl) ?_
      refine lv_iload_n hx hb dX5_take_8 rfl (lv_at hl_13 2 rfl) ?_
      refine lv_icmp_ge (tgt := 62) hx hb dX5_take_9 (by decide) (fun c54 => ?_) (fun c54 => ?_)
      · replace hf := (if_pos c54).symm.trans hf
        cases hf
        cases (show (G5, E6) = (G7, E8) from hK1)
        exact K1 H_12 lo_12 I_12 ls_13 (lv_sub hl_13 [] rfl)
      · replace hf := (if_neg c54).symm.trans hf
        refine lv_iload_n hx hb dX5_take_12 rfl (lv_at hl_13 3 rfl) ?_
        refine lv_iconst (v := (1 : Int32)) hx hb dX5_take_13 (by decide) ?_
        refine lv_iadd hx hb dX5_take_14 ?_
        refine lv_topi (fun x15 ex15 => ?_)
        replace hf := nm_some ex15 hf
        refine lv_istore (lv' := [(4, .int x15), (0, .ref (ad 30)), (1, .ref (ad 9)), (2, .int a1), (3, .int x4)]) hx hb dX5_take_15 hl_13 (by decide) rfl (fun ls_16 hl_16 => ?_)
        obtain ⟨G20, E21, hq2, hf⟩ := bd2_some hf
        have K2 : ∀ (H : Heap) (locs : List Loc), sInv D (cT cI cJ cD cS) (cW ad cI cJ cD cS) A s H locs (G20, E21, Dd, P, Z) → ∀ (ls : Array Slot), lv_has ls 5 [(0, .ref (ad 30)), (1, .ref (ad 9)), (2, .int a1), (3, .int x4)] → W p l e R s m args below meth c H locs 0 0 Q (F0 m 56 ls []) := by
          intro H_22 lo_22 I_22 ls_23 hl_23
          obtain ⟨x25, ex25⟩ : ∃ y : Int32, y = x4 + (1 : Int32) := ⟨_, rfl⟩
          replace hf := nm_some ex25 hf
          refine lv_iinc (v := x25) (lv' := [(3, .int x25), (0, .ref (ad 30)), (1, .ref (ad 9)), (2, .int a1)]) hx hb dX5_take_56 hl_23 (k := 3) rfl (by rw [ex25]; rfl) (by decide) rfl (fun ls_26 hl_26 => ?_)
          refine lv_goto (tgt := 7) hx hb dX5_take_59 (by decide) ?_
          cases hf
          exact ih1 _ _ _ hK1 H_22 lo_22 I_22 ls_26 (lv_sub hl_26 [1, 2, 3, 0] rfl)
        have L2 : ∀ (n : Nat) (x17 : Int32) (G18 : Nat → Nat → Int32) (E19 : Nat → Nat → Int64), lp (fun q => C_PP_take_s2 a1 x4 q.1 q.2.1 q.2.2) n (x17, G18, E19) = some (G20, E21) → ∀ (H : Heap) (locs : List Loc), sInv D (cT cI cJ cD cS) (cW ad cI cJ cD cS) A s H locs (G18, E19, Dd, P, Z) → ∀ (ls : Array Slot), lv_has ls 5 [(0, .ref (ad 30)), (1, .ref (ad 9)), (2, .int a1), (3, .int x4), (4, .int x17)] → W p l e R s m args below meth c H locs 0 0 Q (F0 m 17 ls []) := by
          intro n
          induction n with
          | zero => intro x17 G18 E19 hq; exact (lp_0 hq).elim
          | succ n ih2 =>
            intro x17 G18 E19 hq H_27 lo_27 I_27 ls_28 hl_28
            obtain ⟨y2, hf, hK2⟩ := lp_go hq
            replace hf : C_PP_take_s2 a1 x4 x17 G18 E19 = some y2 := hf
            unfold C_PP_take_s2 at hf
            refine lv_iload hx hb dX5_take_17 (lv_at hl_28 4 rfl) ?_
            refine lv_iload_n hx hb dX5_take_19 rfl (lv_at hl_28 2 rfl) ?_
            refine lv_icmp_ge (tgt := 56) hx hb dX5_take_20 (by decide) (fun c53 => ?_) (fun c53 => ?_)
            · replace hf := (if_pos c53).symm.trans hf
              cases hf
              cases (show (G18, E19) = (G20, E21) from hK2)
              exact K2 H_27 lo_27 I_27 ls_28 (lv_sub hl_28 [0, 1, 2, 3] rfl)
            · replace hf := (if_neg c53).symm.trans hf
              refine lv_aload_n hx hb dX5_take_23 rfl (lv_at hl_28 1 rfl) ?_
              refine lv_iload_n hx hb dX5_take_24 rfl (lv_at hl_28 3 rfl) ?_
              refine lv_iload hx hb dX5_take_25 (lv_at hl_28 4 rfl) ?_
              obtain ⟨r30, h31, hf⟩ := bd_some hf
              refine s_callVi (As := [.int x4, .int x17]) (rest := []) F I_27 (cC_TA_decidedOf G18 E19 Dd P Z x4 x17 r30 h31) kX5_23 ⟨rfl, rfl⟩ ⟨Nat.le_trans (Nat.le_of_ble_eq_true rfl) hRf, Nat.le_trans (Nat.le_of_ble_eq_true rfl) hRl⟩ (9) 9 rfl rfl rfl rfl rfl hl_28.1 (Nat.le_of_ble_eq_true rfl) ⟨Nat.zero_le _, Nat.zero_le _⟩ dX5_take_27 ?_
              intro H_32 lo_32 I_32
              obtain ⟨G34, E35, hv41, hf⟩ := bd2_some hf
              have J33 : ∀ (H : Heap) (locs : List Loc), sInv D (cT cI cJ cD cS) (cW ad cI cJ cD cS) A s H locs (G34, E35, Dd, P, Z) → ∀ (ls : Array Slot), lv_has ls 5 [(0, .ref (ad 30)), (1, .ref (ad 9)), (2, .int a1), (3, .int x4), (4, .int x17)] → W p l e R s m args below meth c H locs 0 0 Q (F0 m 50 ls []) := by
                intro H_36 lo_36 I_36 ls_37 hl_37
                obtain ⟨x39, ex39⟩ : ∃ y : Int32, y = x17 + (1 : Int32) := ⟨_, rfl⟩
                replace hf := nm_some ex39 hf
                refine lv_iinc (v := x39) (lv' := [(4, .int x39), (0, .ref (ad 30)), (1, .ref (ad 9)), (2, .int a1), (3, .int x4)]) hx hb dX5_take_50 hl_37 (k := 4) rfl (by rw [ex39]; rfl) (by decide) rfl (fun ls_40 hl_40 => ?_)
                refine lv_goto (tgt := 17) hx hb dX5_take_53 (by decide) ?_
                cases hf
                exact ih2 _ _ _ hK2 H_36 lo_36 I_36 ls_40 (lv_sub hl_40 [1, 2, 3, 4, 0] rfl)
              replace hf := hv41
              refine lv_if_le (tgt := 50) hx hb dX5_take_30 (by decide) (fun c52 => ?_) (fun c52 => ?_)
              · replace hf := (if_pos c52).symm.trans hf
                cases hf
                exact J33 H_32 lo_32 I_32 ls_28 (lv_sub hl_28 [0, 1, 2, 3, 4] rfl)
              · replace hf := (if_neg c52).symm.trans hf
                refine lv_aload_n hx hb dX5_take_33 rfl (lv_at hl_28 0 rfl) ?_
                refine lv_iload_n hx hb dX5_take_34 rfl (lv_at hl_28 3 rfl) ?_
                refine lv_iload hx hb dX5_take_35 (lv_at hl_28 4 rfl) ?_
                obtain ⟨r42, h43⟩ : ∃ z, z = C_LT_cell x4 x17 := ⟨_, rfl⟩
                replace hf := nm_some h43 hf
                refine s_callSNi (As := [.int x4, .int x17]) (rest := [.ref (ad 30)]) F I_32 (cC_LT_cell G18 E19 Dd P Z x4 x17 r42 h43) kX5_29 ⟨rfl, rfl⟩ ⟨Nat.le_trans (Nat.le_of_ble_eq_true rfl) hRf, Nat.le_trans (Nat.le_of_ble_eq_true rfl) hRl⟩ rfl rfl hl_28.1 (Nat.le_of_ble_eq_true rfl) ⟨Nat.zero_le _, Nat.zero_le _⟩ dX5_take_37 ?_
                intro H_44 lo_44 I_44
                refine lv_aload_n hx hb dX5_take_40 rfl (lv_at hl_28 1 rfl) ?_
                refine lv_iload_n hx hb dX5_take_41 rfl (lv_at hl_28 3 rfl) ?_
                refine lv_iload hx hb dX5_take_42 (lv_at hl_28 4 rfl) ?_
                obtain ⟨r45, h46, hf⟩ := bd_some hf
                refine s_callVl (As := [.int x4, .int x17]) (rest := [.int r42, .ref (ad 30)]) F I_44 (cC_TA_chanceOf G18 E19 Dd P Z x4 x17 r45 h46) kX5_32 ⟨rfl, rfl⟩ ⟨Nat.le_trans (Nat.le_of_ble_eq_true rfl) hRf, Nat.le_trans (Nat.le_of_ble_eq_true rfl) hRl⟩ (9) 9 rfl rfl rfl rfl rfl hl_28.1 (Nat.le_of_ble_eq_true rfl) ⟨Nat.zero_le _, Nat.zero_le _⟩ dX5_take_44 ?_
                intro H_47 lo_47 I_47
                obtain ⟨G48, E49, h50, hf⟩ := bd2_some hf
                refine s_callVv (As := [.int r42, .long r45]) (rest := []) F I_47 (cC_PP_insert G18 E19 Dd P Z r42 r45 G48 E49 h50) kX5_36 ⟨rfl, rfl⟩ ⟨Nat.le_trans (Nat.le_of_ble_eq_true rfl) hRf, Nat.le_trans (Nat.le_of_ble_eq_true rfl) hRl⟩ (30) 5 rfl rfl rfl rfl rfl hl_28.1 (Nat.le_of_ble_eq_true rfl) ⟨Nat.zero_le _, Nat.zero_le _⟩ dX5_take_47 ?_
                intro H_51 lo_51 I_51
                cases hf
                exact J33 H_51 lo_51 I_51 ls_28 (lv_sub hl_28 [0, 1, 2, 3, 4] rfl)
        exact L2 FU _ _ _ hq2 H_12 lo_12 I_12 ls_16 (lv_sub hl_16 [1, 2, 3, 4, 0] rfl)
  exact L1 FU _ _ _ hq1 H_2 lo_2 I_2 ls_3 (lv_sub hl_3 [1, 2, 3, 0] rfl)
def C_PP_countAt_s1 (a0 : Int32) (G : Nat → Nat → Int32) (E : Nat → Nat → Int64) (x2 : Int32) : Option ((Int32) ⊕ (Int32)) :=
if G 40 0 ≤ x2 then
(some (.inr x2))
else
(ri 28 x2 <|
if 0 < lg_cmp (((E 0 x2.toNatClampNeg) * (1000 : Int64)) * (((G 40 0) - x2).toInt64)) (a0.toInt64 * (281474976710656 : Int64)) then
(some (.inr x2))
else
(nm (x2 + (1 : Int32) : Int32) fun x11 =>
some (.inl x11)))
def C_PP_countAt (G : Nat → Nat → Int32) (E : Nat → Nat → Int64) (a0 : Int32) : Option (Int32) :=
bd (lp (fun q => C_PP_countAt_s1 a0 G E q) FU (0 : Int32)) fun x3 =>
some x3
set_option maxRecDepth 100000 in
set_option maxHeartbeats 4000000 in
theorem cC_PP_countAt (G : Nat → Nat → Int32) (E : Nat → Nat → Int64) (Dd : Nat → Nat → UInt64) (P : Nat → Option PRec) (Z : List PRec) (a0 : Int32) (rv : Int32)  (hf : C_PP_countAt G E a0 = some rv) : sMi D (cT cI cJ cD cS) (cW ad cI cJ cD cS) l yX5_countAt (ws1 yX5_countAt cX5_countAt 3 (some .int)) ({ frames := 0, cells := 0, slots := 0, locals := 0 }) [.ref (ad 30), .int a0] (G, E, Dd, P, Z) (rv, (G, E, Dd, P, Z)) := by
  unfold C_PP_countAt at hf
  refine sMi_of (by decide) (Nat.le_of_ble_eq_true rfl) ?_
  intro p e R s m args below meth c A Q ls H lo F hRf hRl I hl ret
  obtain ⟨hx, hb, hml, hown, hG⟩ := id F
  replace hl : lv_has ls 3 [(0, .ref (ad 30)), (1, .int a0)] := hl
  refine lv_iconst (v := (0 : Int32)) hx hb dX5_countAt_0 (by decide) ?_
  refine lv_istore_n (lv' := [(2, .int (0 : Int32)), (0, .ref (ad 30)), (1, .int a0)]) hx hb dX5_countAt_1 rfl hl (by decide) rfl (fun ls_1 hl_1 => ?_)
  obtain ⟨x3, hq1, hf⟩ := bd_some hf
  have K1 : ∀ (H : Heap) (locs : List Loc), sInv D (cT cI cJ cD cS) (cW ad cI cJ cD cS) A s H locs (G, E, Dd, P, Z) → ∀ (ls : Array Slot), lv_has ls 3 [(2, .int x3)] → W p l e R s m args below meth c H locs 0 0 Q (F0 m 44 ls []) := by
    intro H_4 lo_4 I_4 ls_5 hl_5
    refine lv_iload_n hx hb dX5_countAt_44 rfl (lv_at hl_5 0 rfl) ?_
    cases hf
    exact ret H_4 lo_4 _ ls_5 I_4 dX5_countAt_45
  have L1 : ∀ (n : Nat) (x2 : Int32), lp (fun q => C_PP_countAt_s1 a0 G E q) n x2 = some x3 → ∀ (H : Heap) (locs : List Loc), sInv D (cT cI cJ cD cS) (cW ad cI cJ cD cS) A s H locs (G, E, Dd, P, Z) → ∀ (ls : Array Slot), lv_has ls 3 [(0, .ref (ad 30)), (1, .int a0), (2, .int x2)] → W p l e R s m args below meth c H locs 0 0 Q (F0 m 2 ls []) := by
    intro n
    induction n with
    | zero => intro x2 hq; exact (lp_0 hq).elim
    | succ n ih1 =>
      intro x2 hq H_7 lo_7 I_7 ls_8 hl_8
      obtain ⟨y1, hf, hK1⟩ := lp_go hq
      replace hf : C_PP_countAt_s1 a0 G E x2 = some y1 := hf
      unfold C_PP_countAt_s1 at hf
      refine lv_iload_n hx hb dX5_countAt_2 rfl (lv_at hl_8 2 rfl) ?_
      refine lv_aload_n hx hb dX5_countAt_3 rfl (lv_at hl_8 0 rfl) ?_
      refine kgtX5_19_30 F I_7 dX5_countAt_4 ?_
      refine lv_icmp_ge (tgt := 44) hx hb dX5_countAt_7 (by decide) (fun c14 => ?_) (fun c14 => ?_)
      · replace hf := (if_pos c14).symm.trans hf
        cases hf
        cases (show x2 = x3 from hK1)
        exact K1 H_7 lo_7 I_7 ls_8 (lv_sub hl_8 [2] rfl)
      · replace hf := (if_neg c14).symm.trans hf
        refine lv_aload_n hx hb dX5_countAt_10 rfl (lv_at hl_8 0 rfl) ?_
        refine kgtX5_15_30 F I_7 dX5_countAt_11 ?_
        refine lv_iload_n hx hb dX5_countAt_14 rfl (lv_at hl_8 2 rfl) ?_
        obtain ⟨g10, hf⟩ := ri_some hf
        refine kal32 F I_7 g10 dX5_countAt_15 ?_
        refine lv_ldc2 (v := (1000 : Int64)) hx hb hown (hG _ q772) dX5_countAt_16 ?_
        refine lv_lmul hx hb dX5_countAt_19 ?_
        refine lv_aload_n hx hb dX5_countAt_20 rfl (lv_at hl_8 0 rfl) ?_
        refine kgtX5_19_30 F I_7 dX5_countAt_21 ?_
        refine lv_iload_n hx hb dX5_countAt_24 rfl (lv_at hl_8 2 rfl) ?_
        refine lv_isub hx hb dX5_countAt_25 ?_
        refine lv_i2l hx hb dX5_countAt_26 rfl ?_
        refine lv_lmul hx hb dX5_countAt_27 ?_
        refine lv_iload_n hx hb dX5_countAt_28 rfl (lv_at hl_8 1 rfl) ?_
        refine lv_i2l hx hb dX5_countAt_29 rfl ?_
        refine lv_ldc2 (v := (281474976710656 : Int64)) hx hb hown (hG _ q773) dX5_countAt_30 ?_
        refine lv_lmul hx hb dX5_countAt_33 ?_
        refine W.lcmp hx hb dX5_countAt_34 ?_
        refine lv_if_gt (tgt := 44) hx hb dX5_countAt_35 (by decide) (fun c13 => ?_) (fun c13 => ?_)
        · replace hf := (if_pos c13).symm.trans hf
          cases hf
          cases (show x2 = x3 from hK1)
          exact K1 H_7 lo_7 I_7 ls_8 (lv_sub hl_8 [2] rfl)
        · replace hf := (if_neg c13).symm.trans hf
          obtain ⟨x11, ex11⟩ : ∃ y : Int32, y = x2 + (1 : Int32) := ⟨_, rfl⟩
          replace hf := nm_some ex11 hf
          refine lv_iinc (v := x11) (lv' := [(2, .int x11), (0, .ref (ad 30)), (1, .int a0)]) hx hb dX5_countAt_38 hl_8 (k := 2) rfl (by rw [ex11]; rfl) (by decide) rfl (fun ls_12 hl_12 => ?_)
          refine lv_goto (tgt := 2) hx hb dX5_countAt_41 (by decide) ?_
          cases hf
          exact ih1 _ hK1 H_7 lo_7 I_7 ls_12 (lv_sub hl_12 [1, 2, 0] rfl)
  exact L1 FU _ hq1 H lo I ls_1 (lv_sub hl_1 [1, 2, 0] rfl)
def C_PP_namedPair (G : Nat → Nat → Int32) (a1 : Int32) : Option (Int32) :=
if a1 < 0 then
(some (-1 : Int32))
else
(if a1 < G 40 0 then
(ri 28 a1 <|
nm ((G 39 a1.toNatClampNeg) >>> ((3 : Int32) &&& 31) : Int32) fun x2 =>
ri 28 a1 <|
nm ((G 39 a1.toNatClampNeg) &&& (7 : Int32) : Int32) fun x5 =>
bd (C_TA_winsOf G x2 x5) fun r7 =>
bd (C_TA_winsOf G x5 x2) fun r10 =>
if r7 < r10 then
(some (((10 : Int32) * x5) + x2))
else
(some (((10 : Int32) * x2) + x5)))
else
(some (-1 : Int32)))
set_option maxRecDepth 100000 in
set_option maxHeartbeats 4000000 in
theorem cC_PP_namedPair (G : Nat → Nat → Int32) (E : Nat → Nat → Int64) (Dd : Nat → Nat → UInt64) (P : Nat → Option PRec) (Z : List PRec) (a1 : Int32) (rv : Int32)  (hf : C_PP_namedPair G a1 = some rv) : sMi D (cT cI cJ cD cS) (cW ad cI cJ cD cS) l yX5_namedPair (ws1 yX5_namedPair cX5_namedPair 5 (some .int)) ({ frames := 2, cells := 0, slots := 0, locals := 43 }) [.ref (ad 30), .ref (ad 9), .int a1] (G, E, Dd, P, Z) (rv, (G, E, Dd, P, Z)) := by
  unfold C_PP_namedPair at hf
  refine sMi_of (by decide) (Nat.le_of_ble_eq_true rfl) ?_
  intro p e R s m args below meth c A Q ls H lo F hRf hRl I hl ret
  obtain ⟨hx, hb, hml, hown, hG⟩ := id F
  replace hl : lv_has ls 5 [(0, .ref (ad 30)), (1, .ref (ad 9)), (2, .int a1)] := hl
  refine lv_iload_n hx hb dX5_namedPair_0 rfl (lv_at hl 2 rfl) ?_
  refine lv_if_lt (tgt := 12) hx hb dX5_namedPair_1 (by decide) (fun c15 => ?_) (fun c15 => ?_)
  · replace hf := (if_pos c15).symm.trans hf
    refine lv_iconst (v := (-1 : Int32)) hx hb dX5_namedPair_12 (by decide) ?_
    cases hf
    exact ret H lo _ ls I dX5_namedPair_13
  · replace hf := (if_neg c15).symm.trans hf
    refine lv_iload_n hx hb dX5_namedPair_4 rfl (lv_at hl 2 rfl) ?_
    refine lv_aload_n hx hb dX5_namedPair_5 rfl (lv_at hl 0 rfl) ?_
    refine kgtX5_19_30 F I dX5_namedPair_6 ?_
    refine lv_icmp_lt (tgt := 14) hx hb dX5_namedPair_9 (by decide) (fun c14 => ?_) (fun c14 => ?_)
    · replace hf := (if_pos c14).symm.trans hf
      refine lv_aload_n hx hb dX5_namedPair_14 rfl (lv_at hl 0 rfl) ?_
      refine kgtX5_9_30 F I dX5_namedPair_15 ?_
      refine lv_iload_n hx hb dX5_namedPair_18 rfl (lv_at hl 2 rfl) ?_
      obtain ⟨g1, hf⟩ := ri_some hf
      refine kal31 F I g1 dX5_namedPair_19 ?_
      refine lv_iconst (v := (3 : Int32)) hx hb dX5_namedPair_20 (by decide) ?_
      refine lv_ishr hx hb dX5_namedPair_21 ?_
      refine lv_topi (fun x2 ex2 => ?_)
      replace hf := nm_some ex2 hf
      refine lv_istore_n (lv' := [(3, .int x2), (0, .ref (ad 30)), (1, .ref (ad 9)), (2, .int a1)]) hx hb dX5_namedPair_22 rfl hl (by decide) rfl (fun ls_3 hl_3 => ?_)
      refine lv_aload_n hx hb dX5_namedPair_23 rfl (lv_at hl_3 1 rfl) ?_
      refine kgtX5_9_30 F I dX5_namedPair_24 ?_
      refine lv_iload_n hx hb dX5_namedPair_27 rfl (lv_at hl_3 3 rfl) ?_
      obtain ⟨g4, hf⟩ := ri_some hf
      refine kal31 F I g4 dX5_namedPair_28 ?_
      refine lv_bipush (v := (7 : Int32)) hx hb dX5_namedPair_29 (by decide) ?_
      refine lv_iand hx hb dX5_namedPair_31 ?_
      refine lv_topi (fun x5 ex5 => ?_)
      replace hf := nm_some ex5 hf
      refine lv_istore (lv' := [(4, .int x5), (3, .int x2), (0, .ref (ad 30)), (1, .ref (ad 9)), (2, .int a1)]) hx hb dX5_namedPair_32 hl_3 (by decide) rfl (fun ls_6 hl_6 => ?_)
      refine lv_aload_n hx hb dX5_namedPair_34 rfl (lv_at hl_6 3 rfl) ?_
      refine lv_iload_n hx hb dX5_namedPair_35 rfl (lv_at hl_6 1 rfl) ?_
      refine lv_iload hx hb dX5_namedPair_36 (lv_at hl_6 0 rfl) ?_
      obtain ⟨r7, h8, hf⟩ := bd_some hf
      refine s_callVi (As := [.int x2, .int x5]) (rest := []) F I (cC_TA_winsOf G E Dd P Z x2 x5 r7 h8) kX5_44 ⟨rfl, rfl⟩ ⟨Nat.le_trans (Nat.le_of_ble_eq_true rfl) hRf, Nat.le_trans (Nat.le_of_ble_eq_true rfl) hRl⟩ (9) 9 rfl rfl rfl rfl rfl hl_6.1 (Nat.le_of_ble_eq_true rfl) ⟨Nat.zero_le _, Nat.zero_le _⟩ dX5_namedPair_38 ?_
      intro H_9 lo_9 I_9
      refine lv_aload_n hx hb dX5_namedPair_41 rfl (lv_at hl_6 3 rfl) ?_
      refine lv_iload hx hb dX5_namedPair_42 (lv_at hl_6 0 rfl) ?_
      refine lv_iload_n hx hb dX5_namedPair_44 rfl (lv_at hl_6 1 rfl) ?_
      obtain ⟨r10, h11, hf⟩ := bd_some hf
      refine s_callVi (As := [.int x5, .int x2]) (rest := [.int r7]) F I_9 (cC_TA_winsOf G E Dd P Z x5 x2 r10 h11) kX5_44 ⟨rfl, rfl⟩ ⟨Nat.le_trans (Nat.le_of_ble_eq_true rfl) hRf, Nat.le_trans (Nat.le_of_ble_eq_true rfl) hRl⟩ (9) 9 rfl rfl rfl rfl rfl hl_6.1 (Nat.le_of_ble_eq_true rfl) ⟨Nat.zero_le _, Nat.zero_le _⟩ dX5_namedPair_45 ?_
      intro H_12 lo_12 I_12
      refine lv_icmp_lt (tgt := 61) hx hb dX5_namedPair_48 (by decide) (fun c13 => ?_) (fun c13 => ?_)
      · replace hf := (if_pos c13).symm.trans hf
        refine lv_bipush (v := (10 : Int32)) hx hb dX5_namedPair_61 (by decide) ?_
        refine lv_iload hx hb dX5_namedPair_63 (lv_at hl_6 0 rfl) ?_
        refine lv_imul hx hb dX5_namedPair_65 ?_
        refine lv_iload_n hx hb dX5_namedPair_66 rfl (lv_at hl_6 1 rfl) ?_
        refine lv_iadd hx hb dX5_namedPair_67 ?_
        cases hf
        exact ret H_12 lo_12 _ ls_6 I_12 dX5_namedPair_68
      · replace hf := (if_neg c13).symm.trans hf
        refine lv_bipush (v := (10 : Int32)) hx hb dX5_namedPair_51 (by decide) ?_
        refine lv_iload_n hx hb dX5_namedPair_53 rfl (lv_at hl_6 1 rfl) ?_
        refine lv_imul hx hb dX5_namedPair_54 ?_
        refine lv_iload hx hb dX5_namedPair_55 (lv_at hl_6 0 rfl) ?_
        refine lv_iadd hx hb dX5_namedPair_57 ?_
        refine lv_goto (tgt := 68) hx hb dX5_namedPair_58 (by decide) ?_
        cases hf
        exact ret H_12 lo_12 _ ls_6 I_12 dX5_namedPair_68
    · replace hf := (if_neg c14).symm.trans hf
      refine lv_iconst (v := (-1 : Int32)) hx hb dX5_namedPair_12 (by decide) ?_
      cases hf
      exact ret H lo _ ls I dX5_namedPair_13
def C_SD_rankIn_18_s1 (a1 : Int32) (G : Nat → Nat → Int32) (x3 : Int32) (x4 : Int32) : Option ((Int32 × Int32) ⊕ (Int32)) :=
if G 21 0 ≤ x4 then
(some (.inr x3))
else
(if (8 : Int32) ≤ x4 then
(some (.inr x3))
else
(ri 8 x4 <|
ri 8 (a1 &&& (7 : Int32)) <|
bd (if G 23 x4.toNatClampNeg ≤ G 23 (a1 &&& (7 : Int32)).toNatClampNeg then
(some x3)
else
(nm (x3 + (1 : Int32) : Int32) fun x22 =>
some x22)) fun x15 =>
nm (x4 + (1 : Int32) : Int32) fun x19 =>
some (.inl (x15, x19))))
def C_SD_rankIn_18 (G : Nat → Nat → Int32) (a1 : Int32) : Option (Int32) :=
bd (lp (fun q => C_SD_rankIn_18_s1 a1 G q.1 q.2) FU ((1 : Int32), (0 : Int32))) fun x5 =>
some x5
set_option maxRecDepth 100000 in
set_option maxHeartbeats 4000000 in
theorem cC_SD_rankIn_18 (G : Nat → Nat → Int32) (E : Nat → Nat → Int64) (Dd : Nat → Nat → UInt64) (P : Nat → Option PRec) (Z : List PRec) (a1 : Int32) (rv : Int32)  (hf : C_SD_rankIn_18 G a1 = some rv) : sMi D (cT cI cJ cD cS) (cW ad cI cJ cD cS) l yX6_rankIn (ws1 yX6_rankIn cX6_rankIn 5 (some .int)) ({ frames := 0, cells := 0, slots := 0, locals := 0 }) [.ref (ad 16), .ref (ad 18), .int a1] (G, E, Dd, P, Z) (rv, (G, E, Dd, P, Z)) := by
  unfold C_SD_rankIn_18 at hf
  refine sMi_of (by decide) (Nat.le_of_ble_eq_true rfl) ?_
  intro p e R s m args below meth c A Q ls H lo F hRf hRl I hl ret
  obtain ⟨hx, hb, hml, hown, hG⟩ := id F
  replace hl : lv_has ls 5 [(0, .ref (ad 16)), (1, .ref (ad 18)), (2, .int a1)] := hl
  refine lv_iconst (v := (1 : Int32)) hx hb dX6_rankIn_0 (by decide) ?_
  refine lv_istore_n (lv' := [(3, .int (1 : Int32)), (0, .ref (ad 16)), (1, .ref (ad 18)), (2, .int a1)]) hx hb dX6_rankIn_1 rfl hl (by decide) rfl (fun ls_1 hl_1 => ?_)
  refine lv_iconst (v := (0 : Int32)) hx hb dX6_rankIn_2 (by decide) ?_
  refine lv_istore (lv' := [(4, .int (0 : Int32)), (3, .int (1 : Int32)), (0, .ref (ad 16)), (1, .ref (ad 18)), (2, .int a1)]) hx hb dX6_rankIn_3 hl_1 (by decide) rfl (fun ls_2 hl_2 => ?_)
  obtain ⟨x5, hq1, hf⟩ := bd_some hf
  have K1 : ∀ (H : Heap) (locs : List Loc), sInv D (cT cI cJ cD cS) (cW ad cI cJ cD cS) A s H locs (G, E, Dd, P, Z) → ∀ (ls : Array Slot), lv_has ls 5 [(3, .int x5)] → W p l e R s m args below meth c H locs 0 0 Q (F0 m 43 ls []) := by
    intro H_6 lo_6 I_6 ls_7 hl_7
    refine lv_iload_n hx hb dX6_rankIn_43 rfl (lv_at hl_7 0 rfl) ?_
    cases hf
    exact ret H_6 lo_6 _ ls_7 I_6 dX6_rankIn_44
  have L1 : ∀ (n : Nat) (x3 : Int32) (x4 : Int32), lp (fun q => C_SD_rankIn_18_s1 a1 G q.1 q.2) n (x3, x4) = some x5 → ∀ (H : Heap) (locs : List Loc), sInv D (cT cI cJ cD cS) (cW ad cI cJ cD cS) A s H locs (G, E, Dd, P, Z) → ∀ (ls : Array Slot), lv_has ls 5 [(0, .ref (ad 16)), (1, .ref (ad 18)), (2, .int a1), (3, .int x3), (4, .int x4)] → W p l e R s m args below meth c H locs 0 0 Q (F0 m 5 ls []) := by
    intro n
    induction n with
    | zero => intro x3 x4 hq; exact (lp_0 hq).elim
    | succ n ih1 =>
      intro x3 x4 hq H_9 lo_9 I_9 ls_10 hl_10
      obtain ⟨y1, hf, hK1⟩ := lp_go hq
      replace hf : C_SD_rankIn_18_s1 a1 G x3 x4 = some y1 := hf
      unfold C_SD_rankIn_18_s1 at hf
      refine lv_iload hx hb dX6_rankIn_5 (lv_at hl_10 4 rfl) ?_
      refine lv_aload_n hx hb dX6_rankIn_7 rfl (lv_at hl_10 0 rfl) ?_
      refine kgtX6_9_16 F I_9 dX6_rankIn_8 ?_
      refine lv_icmp_ge (tgt := 43) hx hb dX6_rankIn_11 (by decide) (fun c26 => ?_) (fun c26 => ?_)
      · replace hf := (if_pos c26).symm.trans hf
        cases hf
        cases (show x3 = x5 from hK1)
        exact K1 H_9 lo_9 I_9 ls_10 (lv_sub hl_10 [3] rfl)
      · replace hf := (if_neg c26).symm.trans hf
        refine lv_iload hx hb dX6_rankIn_14 (lv_at hl_10 4 rfl) ?_
        refine lv_aload_n hx hb dX6_rankIn_16 rfl (lv_at hl_10 1 rfl) ?_
        refine kln18 F I_9 dX6_rankIn_17 ?_
        refine lv_icmp_ge (tgt := 43) hx hb dX6_rankIn_18 (by decide) (fun c25 => ?_) (fun c25 => ?_)
        · replace hf := (if_pos c25).symm.trans hf
          cases hf
          cases (show x3 = x5 from hK1)
          exact K1 H_9 lo_9 I_9 ls_10 (lv_sub hl_10 [3] rfl)
        · replace hf := (if_neg c25).symm.trans hf
          refine lv_aload_n hx hb dX6_rankIn_21 rfl (lv_at hl_10 1 rfl) ?_
          refine lv_iload hx hb dX6_rankIn_22 (lv_at hl_10 4 rfl) ?_
          obtain ⟨g12, hf⟩ := ri_some hf
          refine kal18 F I_9 g12 dX6_rankIn_24 ?_
          refine lv_aload_n hx hb dX6_rankIn_25 rfl (lv_at hl_10 1 rfl) ?_
          refine lv_iload_n hx hb dX6_rankIn_26 rfl (lv_at hl_10 2 rfl) ?_
          refine lv_bipush (v := (7 : Int32)) hx hb dX6_rankIn_27 (by decide) ?_
          refine lv_iand hx hb dX6_rankIn_29 ?_
          obtain ⟨g13, hf⟩ := ri_some hf
          refine kal18 F I_9 g13 dX6_rankIn_30 ?_
          obtain ⟨x15, hv21, hf⟩ := bd_some hf
          have J14 : ∀ (H : Heap) (locs : List Loc), sInv D (cT cI cJ cD cS) (cW ad cI cJ cD cS) A s H locs (G, E, Dd, P, Z) → ∀ (ls : Array Slot), lv_has ls 5 [(0, .ref (ad 16)), (1, .ref (ad 18)), (2, .int a1), (3, .int x15), (4, .int x4)] → W p l e R s m args below meth c H locs 0 0 Q (F0 m 37 ls []) := by
            intro H_16 lo_16 I_16 ls_17 hl_17
            obtain ⟨x19, ex19⟩ : ∃ y : Int32, y = x4 + (1 : Int32) := ⟨_, rfl⟩
            replace hf := nm_some ex19 hf
            refine lv_iinc (v := x19) (lv' := [(4, .int x19), (0, .ref (ad 16)), (1, .ref (ad 18)), (2, .int a1), (3, .int x15)]) hx hb dX6_rankIn_37 hl_17 (k := 4) rfl (by rw [ex19]; rfl) (by decide) rfl (fun ls_20 hl_20 => ?_)
            refine lv_goto (tgt := 5) hx hb dX6_rankIn_40 (by decide) ?_
            cases hf
            exact ih1 _ _ hK1 H_16 lo_16 I_16 ls_20 (lv_sub hl_20 [1, 2, 3, 4, 0] rfl)
          replace hf := hv21
          refine lv_icmp_le (tgt := 37) hx hb dX6_rankIn_31 (by decide) (fun c24 => ?_) (fun c24 => ?_)
          · replace hf := (if_pos c24).symm.trans hf
            cases hf
            exact J14 H_9 lo_9 I_9 ls_10 (lv_sub hl_10 [0, 1, 2, 3, 4] rfl)
          · replace hf := (if_neg c24).symm.trans hf
            obtain ⟨x22, ex22⟩ : ∃ y : Int32, y = x3 + (1 : Int32) := ⟨_, rfl⟩
            replace hf := nm_some ex22 hf
            refine lv_iinc (v := x22) (lv' := [(3, .int x22), (0, .ref (ad 16)), (1, .ref (ad 18)), (2, .int a1), (4, .int x4)]) hx hb dX6_rankIn_34 hl_10 (k := 3) rfl (by rw [ex22]; rfl) (by decide) rfl (fun ls_23 hl_23 => ?_)
            cases hf
            exact J14 H_9 lo_9 I_9 ls_23 (lv_sub hl_23 [1, 2, 3, 0, 4] rfl)
  exact L1 FU _ _ hq1 H lo I ls_2 (lv_sub hl_2 [2, 3, 4, 1, 0] rfl)
def C_SD_addPoints_19 (G : Nat → Nat → Int32) (a1 : Int32) (a2 : Int32) : Option ((Nat → Nat → Int32)) :=
nm (C_CO_answerOf a1) fun r1 =>
bd (if r1 = 0 then
(some (1 : Int32))
else
(if r1 = (1 : Int32) then
(some (2 : Int32))
else
(some (0 : Int32)))) fun x6 =>
if (8 : Int32) < (8 : Int32) then
(some G)
else
(nm (C_CO_firstOf a1) fun r11 =>
ri 8 r11 <|
ri 8 r11 <|
nm (wr G 24 r11 ((G 24 r11.toNatClampNeg) + (x6 * a2))) fun G16 =>
nm (C_CO_secondOf a1) fun r18 =>
ri 8 r18 <|
ri 8 r18 <|
nm (wr G16 24 r18 ((G16 24 r18.toNatClampNeg) + (((2 : Int32) - x6) * a2))) fun G23 =>
some G23)
set_option maxRecDepth 100000 in
set_option maxHeartbeats 4000000 in
theorem cC_SD_addPoints_19 (G : Nat → Nat → Int32) (E : Nat → Nat → Int64) (Dd : Nat → Nat → UInt64) (P : Nat → Option PRec) (Z : List PRec) (a1 : Int32) (a2 : Int32)  (newG : Nat → Nat → Int32) (hf : C_SD_addPoints_19 G a1 a2 = some newG) : sMv D (cT cI cJ cD cS) (cW ad cI cJ cD cS) l yX6_addPoints (ws1 yX6_addPoints cX6_addPoints 5 none) ({ frames := 1, cells := 0, slots := 0, locals := 20 }) [.ref (ad 19), .int a1, .int a2] (G, E, Dd, P, Z) (newG, E, Dd, P, Z) := by
  unfold C_SD_addPoints_19 at hf
  refine sMv_of (by decide) (Nat.le_of_ble_eq_true rfl) ?_
  intro p e R s m args below meth c A Q ls H lo F hRf hRl I hl ret
  obtain ⟨hx, hb, hml, hown, hG⟩ := id F
  replace hl : lv_has ls 5 [(0, .ref (ad 19)), (1, .int a1), (2, .int a2)] := hl
  refine lv_iload_n hx hb dX6_addPoints_0 rfl (lv_at hl 1 rfl) ?_
  obtain ⟨r1, h2⟩ : ∃ z, z = C_CO_answerOf a1 := ⟨_, rfl⟩
  replace hf := nm_some h2 hf
  refine s_callSi (As := [.int a1]) (rest := []) F I (cC_CO_answerOf G E Dd P Z a1 r1 h2) kX6_130 ⟨rfl, rfl⟩ ⟨Nat.le_trans (Nat.le_of_ble_eq_true rfl) hRf, Nat.le_trans (Nat.le_of_ble_eq_true rfl) hRl⟩ rfl rfl hl.1 (Nat.le_of_ble_eq_true rfl) ⟨Nat.zero_le _, Nat.zero_le _⟩ dX6_addPoints_1 ?_
  intro H_3 lo_3 I_3
  refine lv_istore_n (lv' := [(3, .int r1), (0, .ref (ad 19)), (1, .int a1), (2, .int a2)]) hx hb dX6_addPoints_4 rfl hl (by decide) rfl (fun ls_4 hl_4 => ?_)
  refine lv_iload_n hx hb dX6_addPoints_5 rfl (lv_at hl_4 0 rfl) ?_
  obtain ⟨x6, hv26, hf⟩ := bd_some hf
  have J5 : ∀ (H : Heap) (locs : List Loc), sInv D (cT cI cJ cD cS) (cW ad cI cJ cD cS) A s H locs (G, E, Dd, P, Z) → ∀ (ls : Array Slot), lv_has ls 5 [(0, .ref (ad 19)), (1, .int a1), (2, .int a2)] → W p l e R s m args below meth c H locs 0 0 Q (F0 m 23 ls [.int x6]) := by
    intro H_7 lo_7 I_7 ls_8 hl_8
    refine lv_istore (lv' := [(4, .int x6), (0, .ref (ad 19)), (1, .int a1), (2, .int a2)]) hx hb dX6_addPoints_23 hl_8 (by decide) rfl (fun ls_10 hl_10 => ?_)
    refine lv_aload_n hx hb dX6_addPoints_25 rfl (lv_at hl_10 1 rfl) ?_
    refine kln19 F I_7 dX6_addPoints_26 ?_
    refine lv_bipush (v := (8 : Int32)) hx hb dX6_addPoints_27 (by decide) ?_
    refine lv_icmp_lt (tgt := 60) hx hb dX6_addPoints_29 (by decide) (fun c25 => ?_) (fun c25 => ?_)
    · replace hf := (if_pos c25).symm.trans hf
      cases hf
      exact ret H_7 lo_7 _ ls_10 I_7 dX6_addPoints_60
    · replace hf := (if_neg c25).symm.trans hf
      refine lv_aload_n hx hb dX6_addPoints_32 rfl (lv_at hl_10 1 rfl) ?_
      refine lv_iload_n hx hb dX6_addPoints_33 rfl (lv_at hl_10 2 rfl) ?_
      obtain ⟨r11, h12⟩ : ∃ z, z = C_CO_firstOf a1 := ⟨_, rfl⟩
      replace hf := nm_some h12 hf
      refine s_callSi (As := [.int a1]) (rest := [.ref (ad 19)]) F I_7 (cC_CO_firstOf G E Dd P Z a1 r11 h12) kX6_133 ⟨rfl, rfl⟩ ⟨Nat.le_trans (Nat.le_of_ble_eq_true rfl) hRf, Nat.le_trans (Nat.le_of_ble_eq_true rfl) hRl⟩ rfl rfl hl_10.1 (Nat.le_of_ble_eq_true rfl) ⟨Nat.zero_le _, Nat.zero_le _⟩ dX6_addPoints_34 ?_
      intro H_13 lo_13 I_13
      refine lv_dup2_11 hx hb dX6_addPoints_37 rfl rfl ?_
      obtain ⟨g14, hf⟩ := ri_some hf
      refine kal19 F I_13 g14 dX6_addPoints_38 ?_
      refine lv_iload hx hb dX6_addPoints_39 (lv_at hl_10 0 rfl) ?_
      refine lv_iload_n hx hb dX6_addPoints_41 rfl (lv_at hl_10 3 rfl) ?_
      refine lv_imul hx hb dX6_addPoints_42 ?_
      refine lv_iadd hx hb dX6_addPoints_43 ?_
      obtain ⟨g15, hf⟩ := ri_some hf
      refine kas19 F I_13 g15 dX6_addPoints_44 ?_
      intro H_17 lo_17 G16 eG16 I_17
      replace hf := nm_some eG16 hf
      refine lv_aload_n hx hb dX6_addPoints_45 rfl (lv_at hl_10 1 rfl) ?_
      refine lv_iload_n hx hb dX6_addPoints_46 rfl (lv_at hl_10 2 rfl) ?_
      obtain ⟨r18, h19⟩ : ∃ z, z = C_CO_secondOf a1 := ⟨_, rfl⟩
      replace hf := nm_some h19 hf
      refine s_callSi (As := [.int a1]) (rest := [.ref (ad 19)]) F I_17 (cC_CO_secondOf G16 E Dd P Z a1 r18 h19) kX6_136 ⟨rfl, rfl⟩ ⟨Nat.le_trans (Nat.le_of_ble_eq_true rfl) hRf, Nat.le_trans (Nat.le_of_ble_eq_true rfl) hRl⟩ rfl rfl hl_10.1 (Nat.le_of_ble_eq_true rfl) ⟨Nat.zero_le _, Nat.zero_le _⟩ dX6_addPoints_47 ?_
      intro H_20 lo_20 I_20
      refine lv_dup2_11 hx hb dX6_addPoints_50 rfl rfl ?_
      obtain ⟨g21, hf⟩ := ri_some hf
      refine kal19 F I_20 g21 dX6_addPoints_51 ?_
      refine lv_iconst (v := (2 : Int32)) hx hb dX6_addPoints_52 (by decide) ?_
      refine lv_iload hx hb dX6_addPoints_53 (lv_at hl_10 0 rfl) ?_
      refine lv_isub hx hb dX6_addPoints_55 ?_
      refine lv_iload_n hx hb dX6_addPoints_56 rfl (lv_at hl_10 3 rfl) ?_
      refine lv_imul hx hb dX6_addPoints_57 ?_
      refine lv_iadd hx hb dX6_addPoints_58 ?_
      obtain ⟨g22, hf⟩ := ri_some hf
      refine kas19 F I_20 g22 dX6_addPoints_59 ?_
      intro H_24 lo_24 G23 eG23 I_24
      replace hf := nm_some eG23 hf
      cases hf
      exact ret H_24 lo_24 _ ls_10 I_24 dX6_addPoints_60
  replace hf := hv26
  refine lv_if_ne (tgt := 13) hx hb dX6_addPoints_6 (by decide) (fun c28 => ?_) (fun c28 => ?_)
  · replace hf := (if_neg c28).symm.trans hf
    refine lv_iload_n hx hb dX6_addPoints_13 rfl (lv_at hl_4 0 rfl) ?_
    refine lv_iconst (v := (1 : Int32)) hx hb dX6_addPoints_14 (by decide) ?_
    refine lv_icmp_ne (tgt := 22) hx hb dX6_addPoints_15 (by decide) (fun c27 => ?_) (fun c27 => ?_)
    · replace hf := (if_neg c27).symm.trans hf
      refine lv_iconst (v := (0 : Int32)) hx hb dX6_addPoints_22 (by decide) ?_
      cases hf
      exact J5 H_3 lo_3 I_3 ls_4 (lv_sub hl_4 [1, 2, 3] rfl)
    · replace hf := (if_pos c27).symm.trans hf
      refine lv_iconst (v := (2 : Int32)) hx hb dX6_addPoints_18 (by decide) ?_
      refine lv_goto (tgt := 23) hx hb dX6_addPoints_19 (by decide) ?_
      cases hf
      exact J5 H_3 lo_3 I_3 ls_4 (lv_sub hl_4 [1, 2, 3] rfl)
  · replace hf := (if_pos c28).symm.trans hf
    refine lv_iconst (v := (1 : Int32)) hx hb dX6_addPoints_9 (by decide) ?_
    refine lv_goto (tgt := 23) hx hb dX6_addPoints_10 (by decide) ?_
    cases hf
    exact J5 H_3 lo_3 I_3 ls_4 (lv_sub hl_4 [1, 2, 3] rfl)
def C_SD_rankIn_19_s1 (a1 : Int32) (G : Nat → Nat → Int32) (x3 : Int32) (x4 : Int32) : Option ((Int32 × Int32) ⊕ (Int32)) :=
if G 21 0 ≤ x4 then
(some (.inr x3))
else
(if (8 : Int32) ≤ x4 then
(some (.inr x3))
else
(ri 8 x4 <|
ri 8 (a1 &&& (7 : Int32)) <|
bd (if G 24 x4.toNatClampNeg ≤ G 24 (a1 &&& (7 : Int32)).toNatClampNeg then
(some x3)
else
(nm (x3 + (1 : Int32) : Int32) fun x22 =>
some x22)) fun x15 =>
nm (x4 + (1 : Int32) : Int32) fun x19 =>
some (.inl (x15, x19))))
def C_SD_rankIn_19 (G : Nat → Nat → Int32) (a1 : Int32) : Option (Int32) :=
bd (lp (fun q => C_SD_rankIn_19_s1 a1 G q.1 q.2) FU ((1 : Int32), (0 : Int32))) fun x5 =>
some x5
set_option maxRecDepth 100000 in
set_option maxHeartbeats 4000000 in
theorem cC_SD_rankIn_19 (G : Nat → Nat → Int32) (E : Nat → Nat → Int64) (Dd : Nat → Nat → UInt64) (P : Nat → Option PRec) (Z : List PRec) (a1 : Int32) (rv : Int32)  (hf : C_SD_rankIn_19 G a1 = some rv) : sMi D (cT cI cJ cD cS) (cW ad cI cJ cD cS) l yX6_rankIn (ws1 yX6_rankIn cX6_rankIn 5 (some .int)) ({ frames := 0, cells := 0, slots := 0, locals := 0 }) [.ref (ad 16), .ref (ad 19), .int a1] (G, E, Dd, P, Z) (rv, (G, E, Dd, P, Z)) := by
  unfold C_SD_rankIn_19 at hf
  refine sMi_of (by decide) (Nat.le_of_ble_eq_true rfl) ?_
  intro p e R s m args below meth c A Q ls H lo F hRf hRl I hl ret
  obtain ⟨hx, hb, hml, hown, hG⟩ := id F
  replace hl : lv_has ls 5 [(0, .ref (ad 16)), (1, .ref (ad 19)), (2, .int a1)] := hl
  refine lv_iconst (v := (1 : Int32)) hx hb dX6_rankIn_0 (by decide) ?_
  refine lv_istore_n (lv' := [(3, .int (1 : Int32)), (0, .ref (ad 16)), (1, .ref (ad 19)), (2, .int a1)]) hx hb dX6_rankIn_1 rfl hl (by decide) rfl (fun ls_1 hl_1 => ?_)
  refine lv_iconst (v := (0 : Int32)) hx hb dX6_rankIn_2 (by decide) ?_
  refine lv_istore (lv' := [(4, .int (0 : Int32)), (3, .int (1 : Int32)), (0, .ref (ad 16)), (1, .ref (ad 19)), (2, .int a1)]) hx hb dX6_rankIn_3 hl_1 (by decide) rfl (fun ls_2 hl_2 => ?_)
  obtain ⟨x5, hq1, hf⟩ := bd_some hf
  have K1 : ∀ (H : Heap) (locs : List Loc), sInv D (cT cI cJ cD cS) (cW ad cI cJ cD cS) A s H locs (G, E, Dd, P, Z) → ∀ (ls : Array Slot), lv_has ls 5 [(3, .int x5)] → W p l e R s m args below meth c H locs 0 0 Q (F0 m 43 ls []) := by
    intro H_6 lo_6 I_6 ls_7 hl_7
    refine lv_iload_n hx hb dX6_rankIn_43 rfl (lv_at hl_7 0 rfl) ?_
    cases hf
    exact ret H_6 lo_6 _ ls_7 I_6 dX6_rankIn_44
  have L1 : ∀ (n : Nat) (x3 : Int32) (x4 : Int32), lp (fun q => C_SD_rankIn_19_s1 a1 G q.1 q.2) n (x3, x4) = some x5 → ∀ (H : Heap) (locs : List Loc), sInv D (cT cI cJ cD cS) (cW ad cI cJ cD cS) A s H locs (G, E, Dd, P, Z) → ∀ (ls : Array Slot), lv_has ls 5 [(0, .ref (ad 16)), (1, .ref (ad 19)), (2, .int a1), (3, .int x3), (4, .int x4)] → W p l e R s m args below meth c H locs 0 0 Q (F0 m 5 ls []) := by
    intro n
    induction n with
    | zero => intro x3 x4 hq; exact (lp_0 hq).elim
    | succ n ih1 =>
      intro x3 x4 hq H_9 lo_9 I_9 ls_10 hl_10
      obtain ⟨y1, hf, hK1⟩ := lp_go hq
      replace hf : C_SD_rankIn_19_s1 a1 G x3 x4 = some y1 := hf
      unfold C_SD_rankIn_19_s1 at hf
      refine lv_iload hx hb dX6_rankIn_5 (lv_at hl_10 4 rfl) ?_
      refine lv_aload_n hx hb dX6_rankIn_7 rfl (lv_at hl_10 0 rfl) ?_
      refine kgtX6_9_16 F I_9 dX6_rankIn_8 ?_
      refine lv_icmp_ge (tgt := 43) hx hb dX6_rankIn_11 (by decide) (fun c26 => ?_) (fun c26 => ?_)
      · replace hf := (if_pos c26).symm.trans hf
        cases hf
        cases (show x3 = x5 from hK1)
        exact K1 H_9 lo_9 I_9 ls_10 (lv_sub hl_10 [3] rfl)
      · replace hf := (if_neg c26).symm.trans hf
        refine lv_iload hx hb dX6_rankIn_14 (lv_at hl_10 4 rfl) ?_
        refine lv_aload_n hx hb dX6_rankIn_16 rfl (lv_at hl_10 1 rfl) ?_
        refine kln19 F I_9 dX6_rankIn_17 ?_
        refine lv_icmp_ge (tgt := 43) hx hb dX6_rankIn_18 (by decide) (fun c25 => ?_) (fun c25 => ?_)
        · replace hf := (if_pos c25).symm.trans hf
          cases hf
          cases (show x3 = x5 from hK1)
          exact K1 H_9 lo_9 I_9 ls_10 (lv_sub hl_10 [3] rfl)
        · replace hf := (if_neg c25).symm.trans hf
          refine lv_aload_n hx hb dX6_rankIn_21 rfl (lv_at hl_10 1 rfl) ?_
          refine lv_iload hx hb dX6_rankIn_22 (lv_at hl_10 4 rfl) ?_
          obtain ⟨g12, hf⟩ := ri_some hf
          refine kal19 F I_9 g12 dX6_rankIn_24 ?_
          refine lv_aload_n hx hb dX6_rankIn_25 rfl (lv_at hl_10 1 rfl) ?_
          refine lv_iload_n hx hb dX6_rankIn_26 rfl (lv_at hl_10 2 rfl) ?_
          refine lv_bipush (v := (7 : Int32)) hx hb dX6_rankIn_27 (by decide) ?_
          refine lv_iand hx hb dX6_rankIn_29 ?_
          obtain ⟨g13, hf⟩ := ri_some hf
          refine kal19 F I_9 g13 dX6_rankIn_30 ?_
          obtain ⟨x15, hv21, hf⟩ := bd_some hf
          have J14 : ∀ (H : Heap) (locs : List Loc), sInv D (cT cI cJ cD cS) (cW ad cI cJ cD cS) A s H locs (G, E, Dd, P, Z) → ∀ (ls : Array Slot), lv_has ls 5 [(0, .ref (ad 16)), (1, .ref (ad 19)), (2, .int a1), (3, .int x15), (4, .int x4)] → W p l e R s m args below meth c H locs 0 0 Q (F0 m 37 ls []) := by
            intro H_16 lo_16 I_16 ls_17 hl_17
            obtain ⟨x19, ex19⟩ : ∃ y : Int32, y = x4 + (1 : Int32) := ⟨_, rfl⟩
            replace hf := nm_some ex19 hf
            refine lv_iinc (v := x19) (lv' := [(4, .int x19), (0, .ref (ad 16)), (1, .ref (ad 19)), (2, .int a1), (3, .int x15)]) hx hb dX6_rankIn_37 hl_17 (k := 4) rfl (by rw [ex19]; rfl) (by decide) rfl (fun ls_20 hl_20 => ?_)
            refine lv_goto (tgt := 5) hx hb dX6_rankIn_40 (by decide) ?_
            cases hf
            exact ih1 _ _ hK1 H_16 lo_16 I_16 ls_20 (lv_sub hl_20 [1, 2, 3, 4, 0] rfl)
          replace hf := hv21
          refine lv_icmp_le (tgt := 37) hx hb dX6_rankIn_31 (by decide) (fun c24 => ?_) (fun c24 => ?_)
          · replace hf := (if_pos c24).symm.trans hf
            cases hf
            exact J14 H_9 lo_9 I_9 ls_10 (lv_sub hl_10 [0, 1, 2, 3, 4] rfl)
          · replace hf := (if_neg c24).symm.trans hf
            obtain ⟨x22, ex22⟩ : ∃ y : Int32, y = x3 + (1 : Int32) := ⟨_, rfl⟩
            replace hf := nm_some ex22 hf
            refine lv_iinc (v := x22) (lv' := [(3, .int x22), (0, .ref (ad 16)), (1, .ref (ad 19)), (2, .int a1), (4, .int x4)]) hx hb dX6_rankIn_34 hl_10 (k := 3) rfl (by rw [ex22]; rfl) (by decide) rfl (fun ls_23 hl_23 => ?_)
            cases hf
            exact J14 H_9 lo_9 I_9 ls_23 (lv_sub hl_23 [1, 2, 3, 0, 4] rfl)
  exact L1 FU _ _ hq1 H lo I ls_2 (lv_sub hl_2 [2, 3, 4, 1, 0] rfl)
def C_SD_isStable_s1 (a1 : Int32) (r1 : Int32) (x6 : Int32) (G7 : Nat → Nat → Int32) : Option ((Int32 × (Nat → Nat → Int32)) ⊕ (Int32 × (Nat → Nat → Int32))) :=
if G7 5 0 ≤ x6 then
(some (.inr ((1 : Int32), G7)))
else
(bd (C_CO_at G7 x6) fun r11 =>
nm (wc G7 23 24 8) fun G15 =>
nm (C_CO_listenerOf r11) fun r17 =>
ri 8 r17 <|
bd (C_SD_addPoints_19 G15 r11 (-(G15 22 r17.toNatClampNeg))) fun G21 =>
bd (C_SD_rankIn_19 G21 a1) fun r24 =>
if r24 = r1 then
(nm (x6 + (1 : Int32) : Int32) fun x27 =>
some (.inl (x27, G21)))
else
(some (.inr ((0 : Int32), G21))))
def C_SD_isStable (G : Nat → Nat → Int32) (a1 : Int32) : Option (Int32 × (Nat → Nat → Int32)) :=
bd (C_SD_rankIn_18 G a1) fun r1 =>
lp (fun q => C_SD_isStable_s1 a1 r1 q.1 q.2) FU ((0 : Int32), G)
set_option maxRecDepth 100000 in
set_option maxHeartbeats 4000000 in
theorem cC_SD_isStable (G : Nat → Nat → Int32) (E : Nat → Nat → Int64) (Dd : Nat → Nat → UInt64) (P : Nat → Option PRec) (Z : List PRec) (a1 : Int32) (rv : Int32) (newG : Nat → Nat → Int32) (hf : C_SD_isStable G a1 = some (rv, newG)) : sMi D (cT cI cJ cD cS) (cW ad cI cJ cD cS) l yX6_isStable (ws1 yX6_isStable cX6_isStable 6 (some .boolean)) ({ frames := 2, cells := 0, slots := 0, locals := 44 }) [.ref (ad 16), .ref (ad 2), .int a1] (G, E, Dd, P, Z) (rv, (newG, E, Dd, P, Z)) := by
  unfold C_SD_isStable at hf
  refine sMz_of (by decide) (Nat.le_of_ble_eq_true rfl) ?_
  intro p e R s m args below meth c A Q ls H lo F hRf hRl I hl ret
  obtain ⟨hx, hb, hml, hown, hG⟩ := id F
  replace hl : lv_has ls 6 [(0, .ref (ad 16)), (1, .ref (ad 2)), (2, .int a1)] := hl
  refine lv_aload_n hx hb dX6_isStable_0 rfl (lv_at hl 0 rfl) ?_
  refine lv_aload_n hx hb dX6_isStable_1 rfl (lv_at hl 0 rfl) ?_
  refine kgtX6_26_16 F I dX6_isStable_2 ?_
  refine lv_iload_n hx hb dX6_isStable_5 rfl (lv_at hl 2 rfl) ?_
  obtain ⟨r1, h2, hf⟩ := bd_some hf
  refine s_callVi (As := [.ref (ad 18), .int a1]) (rest := []) F I (cC_SD_rankIn_18 G E Dd P Z a1 r1 h2) kX6_93 ⟨rfl, rfl⟩ ⟨Nat.le_trans (Nat.le_of_ble_eq_true rfl) hRf, Nat.le_trans (Nat.le_of_ble_eq_true rfl) hRl⟩ (16) 6 rfl rfl rfl rfl rfl hl.1 (Nat.le_of_ble_eq_true rfl) ⟨Nat.zero_le _, Nat.zero_le _⟩ dX6_isStable_6 ?_
  intro H_3 lo_3 I_3
  refine lv_istore_n (lv' := [(3, .int r1), (0, .ref (ad 16)), (1, .ref (ad 2)), (2, .int a1)]) hx hb dX6_isStable_9 rfl hl (by decide) rfl (fun ls_4 hl_4 => ?_)
  refine lv_iconst (v := (0 : Int32)) hx hb dX6_isStable_10 (by decide) ?_
  refine lv_istore (lv' := [(4, .int (0 : Int32)), (3, .int r1), (0, .ref (ad 16)), (1, .ref (ad 2)), (2, .int a1)]) hx hb dX6_isStable_11 hl_4 (by decide) rfl (fun ls_5 hl_5 => ?_)
  have hq1 : lp (fun q => C_SD_isStable_s1 a1 r1 q.1 q.2) FU ((0 : Int32), G) = some (rv, newG) := hf
  have L1 : ∀ (n : Nat) (x6 : Int32) (G7 : Nat → Nat → Int32), lp (fun q => C_SD_isStable_s1 a1 r1 q.1 q.2) n (x6, G7) = some (rv, newG) → ∀ (H : Heap) (locs : List Loc), sInv D (cT cI cJ cD cS) (cW ad cI cJ cD cS) A s H locs (G7, E, Dd, P, Z) → ∀ (ls : Array Slot), lv_has ls 6 [(0, .ref (ad 16)), (1, .ref (ad 2)), (2, .int a1), (3, .int r1), (4, .int x6)] → W p l e R s m args below meth c H locs 0 0 Q (F0 m 13 ls []) := by
    intro n
    induction n with
    | zero => intro x6 G7 hq; exact (lp_0 hq).elim
    | succ n ih1 =>
      intro x6 G7 hq H_8 lo_8 I_8 ls_9 hl_9
      obtain ⟨y1, hf, hK1⟩ := lp_go hq
      replace hf : C_SD_isStable_s1 a1 r1 x6 G7 = some y1 := hf
      unfold C_SD_isStable_s1 at hf
      refine lv_iload hx hb dX6_isStable_13 (lv_at hl_9 4 rfl) ?_
      refine lv_aload_n hx hb dX6_isStable_15 rfl (lv_at hl_9 1 rfl) ?_
      refine kgtX6_73_2 F I_8 dX6_isStable_16 ?_
      refine lv_icmp_ge (tgt := 86) hx hb dX6_isStable_19 (by decide) (fun c30 => ?_) (fun c30 => ?_)
      · replace hf := (if_pos c30).symm.trans hf
        refine lv_iconst (v := (1 : Int32)) hx hb dX6_isStable_86 (by decide) ?_
        cases hf
        have hf := congrArg some (show _ = _ from hK1)
        cases hf
        exact ret H_8 lo_8 _ ls_9 I_8 (Or.inr rfl) dX6_isStable_87
      · replace hf := (if_neg c30).symm.trans hf
        refine lv_aload_n hx hb dX6_isStable_22 rfl (lv_at hl_9 1 rfl) ?_
        refine lv_iload hx hb dX6_isStable_23 (lv_at hl_9 4 rfl) ?_
        obtain ⟨r11, h12, hf⟩ := bd_some hf
        refine s_callVi (As := [.int x6]) (rest := []) F I_8 (cC_CO_at G7 E Dd P Z x6 r11 h12) kX6_78 ⟨rfl, rfl⟩ ⟨Nat.le_trans (Nat.le_of_ble_eq_true rfl) hRf, Nat.le_trans (Nat.le_of_ble_eq_true rfl) hRl⟩ (2) 1 rfl rfl rfl rfl rfl hl_9.1 (Nat.le_of_ble_eq_true rfl) ⟨Nat.zero_le _, Nat.zero_le _⟩ dX6_isStable_25 ?_
        intro H_13 lo_13 I_13
        refine lv_istore (lv' := [(5, .int r11), (0, .ref (ad 16)), (1, .ref (ad 2)), (2, .int a1), (3, .int r1), (4, .int x6)]) hx hb dX6_isStable_28 hl_9 (by decide) rfl (fun ls_14 hl_14 => ?_)
        refine lv_aload_n hx hb dX6_isStable_30 rfl (lv_at hl_14 1 rfl) ?_
        refine kgtX6_26_16 F I_13 dX6_isStable_31 ?_
        refine lv_iconst (v := (0 : Int32)) hx hb dX6_isStable_34 (by decide) ?_
        refine lv_aload_n hx hb dX6_isStable_35 rfl (lv_at hl_14 1 rfl) ?_
        refine kgtX6_29_16 F I_13 dX6_isStable_36 ?_
        refine lv_iconst (v := (0 : Int32)) hx hb dX6_isStable_39 (by decide) ?_
        refine lv_bipush (v := (8 : Int32)) hx hb dX6_isStable_40 (by decide) ?_
        refine kcpX6_139_18_19 F I_13 hl_14.1 (Nat.le_trans (Nat.le_of_ble_eq_true rfl) hRf) (Nat.le_trans (Nat.le_of_ble_eq_true rfl) hRl) (Nat.le_of_ble_eq_true rfl) dX6_isStable_42 ?_
        intro H_16 lo_16 G15 eG15 I_16
        replace hf := nm_some eG15 hf
        refine lv_aload_n hx hb dX6_isStable_45 rfl (lv_at hl_14 1 rfl) ?_
        refine kgtX6_29_16 F I_16 dX6_isStable_46 ?_
        refine lv_iload hx hb dX6_isStable_49 (lv_at hl_14 0 rfl) ?_
        refine lv_aload_n hx hb dX6_isStable_51 rfl (lv_at hl_14 1 rfl) ?_
        refine kgtX6_15_16 F I_16 dX6_isStable_52 ?_
        refine lv_iload hx hb dX6_isStable_55 (lv_at hl_14 0 rfl) ?_
        obtain ⟨r17, h18⟩ : ∃ z, z = C_CO_listenerOf r11 := ⟨_, rfl⟩
        replace hf := nm_some h18 hf
        refine s_callSi (As := [.int r11]) (rest := [.ref (ad 17), .int r11, .ref (ad 19)]) F I_16 (cC_CO_listenerOf G15 E Dd P Z r11 r17 h18) kX6_82 ⟨rfl, rfl⟩ ⟨Nat.le_trans (Nat.le_of_ble_eq_true rfl) hRf, Nat.le_trans (Nat.le_of_ble_eq_true rfl) hRl⟩ rfl rfl hl_14.1 (Nat.le_of_ble_eq_true rfl) ⟨Nat.zero_le _, Nat.zero_le _⟩ dX6_isStable_57 ?_
        intro H_19 lo_19 I_19
        obtain ⟨g20, hf⟩ := ri_some hf
        refine kal17 F I_19 g20 dX6_isStable_60 ?_
        refine lv_ineg hx hb dX6_isStable_61 ?_
        obtain ⟨G21, h22, hf⟩ := bd_some hf
        refine s_callSv (As := [.ref (ad 19), .int r11, .int (-(G15 22 r17.toNatClampNeg))]) (rest := []) F I_19 (cC_SD_addPoints_19 G15 E Dd P Z r11 (-(G15 22 r17.toNatClampNeg)) G21 h22) kX6_89 ⟨rfl, rfl⟩ ⟨Nat.le_trans (Nat.le_of_ble_eq_true rfl) hRf, Nat.le_trans (Nat.le_of_ble_eq_true rfl) hRl⟩ rfl rfl hl_14.1 (Nat.le_of_ble_eq_true rfl) ⟨Nat.zero_le _, Nat.zero_le _⟩ dX6_isStable_62 ?_
        intro H_23 lo_23 I_23
        refine lv_aload_n hx hb dX6_isStable_65 rfl (lv_at hl_14 1 rfl) ?_
        refine lv_aload_n hx hb dX6_isStable_66 rfl (lv_at hl_14 1 rfl) ?_
        refine kgtX6_29_16 F I_23 dX6_isStable_67 ?_
        refine lv_iload_n hx hb dX6_isStable_70 rfl (lv_at hl_14 3 rfl) ?_
        obtain ⟨r24, h25, hf⟩ := bd_some hf
        refine s_callVi (As := [.ref (ad 19), .int a1]) (rest := []) F I_23 (cC_SD_rankIn_19 G21 E Dd P Z a1 r24 h25) kX6_93 ⟨rfl, rfl⟩ ⟨Nat.le_trans (Nat.le_of_ble_eq_true rfl) hRf, Nat.le_trans (Nat.le_of_ble_eq_true rfl) hRl⟩ (16) 6 rfl rfl rfl rfl rfl hl_14.1 (Nat.le_of_ble_eq_true rfl) ⟨Nat.zero_le _, Nat.zero_le _⟩ dX6_isStable_71 ?_
        intro H_26 lo_26 I_26
        refine lv_iload_n hx hb dX6_isStable_74 rfl (lv_at hl_14 4 rfl) ?_
        refine lv_icmp_eq (tgt := 80) hx hb dX6_isStable_75 (by decide) (fun c29 => ?_) (fun c29 => ?_)
        · replace hf := (if_pos c29).symm.trans hf
          obtain ⟨x27, ex27⟩ : ∃ y : Int32, y = x6 + (1 : Int32) := ⟨_, rfl⟩
          replace hf := nm_some ex27 hf
          refine lv_iinc (v := x27) (lv' := [(4, .int x27), (5, .int r11), (0, .ref (ad 16)), (1, .ref (ad 2)), (2, .int a1), (3, .int r1)]) hx hb dX6_isStable_80 hl_14 (k := 5) rfl (by rw [ex27]; rfl) (by decide) rfl (fun ls_28 hl_28 => ?_)
          refine lv_goto (tgt := 13) hx hb dX6_isStable_83 (by decide) ?_
          cases hf
          exact ih1 _ _ hK1 H_26 lo_26 I_26 ls_28 (lv_sub hl_28 [2, 3, 4, 5, 0] rfl)
        · replace hf := (if_neg c29).symm.trans hf
          refine lv_iconst (v := (0 : Int32)) hx hb dX6_isStable_78 (by decide) ?_
          cases hf
          have hf := congrArg some (show _ = _ from hK1)
          cases hf
          exact ret H_26 lo_26 _ ls_14 I_26 (Or.inl rfl) dX6_isStable_79
  exact L1 FU _ _ hq1 H_3 lo_3 I_3 ls_5 (lv_sub hl_5 [2, 3, 4, 1, 0] rfl)
def C_LE_isAhead_22 (G : Nat → Nat → Int32) (a0 : Int32) (a1 : Int32) : Option (Int32) :=
nm (C_LT_cell a0 a1) fun r1 =>
ri 64 r1 <|
if G 20 r1.toNatClampNeg ≤ 0 then
(some (0 : Int32))
else
(some (1 : Int32))
set_option maxRecDepth 100000 in
set_option maxHeartbeats 4000000 in
theorem cC_LE_isAhead_22 (G : Nat → Nat → Int32) (E : Nat → Nat → Int64) (Dd : Nat → Nat → UInt64) (P : Nat → Option PRec) (Z : List PRec) (a0 : Int32) (a1 : Int32) (rv : Int32)  (hf : C_LE_isAhead_22 G a0 a1 = some rv) : sMi D (cT cI cJ cD cS) (cW ad cI cJ cD cS) l yX3_isAhead (ws1 yX3_isAhead cX3_isAhead 3 (some .boolean)) ({ frames := 1, cells := 0, slots := 0, locals := 21 }) [.ref (ad 22), .int a0, .int a1] (G, E, Dd, P, Z) (rv, (G, E, Dd, P, Z)) := by
  unfold C_LE_isAhead_22 at hf
  refine sMz_of (by decide) (Nat.le_of_ble_eq_true rfl) ?_
  intro p e R s m args below meth c A Q ls H lo F hRf hRl I hl ret
  obtain ⟨hx, hb, hml, hown, hG⟩ := id F
  replace hl : lv_has ls 3 [(0, .ref (ad 22)), (1, .int a0), (2, .int a1)] := hl
  refine lv_aload_n hx hb dX3_isAhead_0 rfl (lv_at hl 0 rfl) ?_
  refine kgtX3_9_22 F I dX3_isAhead_1 ?_
  refine lv_iload_n hx hb dX3_isAhead_4 rfl (lv_at hl 1 rfl) ?_
  refine lv_iload_n hx hb dX3_isAhead_5 rfl (lv_at hl 2 rfl) ?_
  obtain ⟨r1, h2⟩ : ∃ z, z = C_LT_cell a0 a1 := ⟨_, rfl⟩
  replace hf := nm_some h2 hf
  refine s_callSNi (As := [.int a0, .int a1]) (rest := [.ref (ad 23)]) F I (cC_LT_cell G E Dd P Z a0 a1 r1 h2) kX3_50 ⟨rfl, rfl⟩ ⟨Nat.le_trans (Nat.le_of_ble_eq_true rfl) hRf, Nat.le_trans (Nat.le_of_ble_eq_true rfl) hRl⟩ rfl rfl hl.1 (Nat.le_of_ble_eq_true rfl) ⟨Nat.zero_le _, Nat.zero_le _⟩ dX3_isAhead_6 ?_
  intro H_3 lo_3 I_3
  obtain ⟨g4, hf⟩ := ri_some hf
  refine kal23 F I_3 g4 dX3_isAhead_9 ?_
  refine lv_if_le (tgt := 17) hx hb dX3_isAhead_10 (by decide) (fun c5 => ?_) (fun c5 => ?_)
  · replace hf := (if_pos c5).symm.trans hf
    refine lv_iconst (v := (0 : Int32)) hx hb dX3_isAhead_17 (by decide) ?_
    cases hf
    exact ret H_3 lo_3 _ ls I_3 (Or.inl rfl) dX3_isAhead_18
  · replace hf := (if_neg c5).symm.trans hf
    refine lv_iconst (v := (1 : Int32)) hx hb dX3_isAhead_13 (by decide) ?_
    refine lv_goto (tgt := 18) hx hb dX3_isAhead_14 (by decide) ?_
    cases hf
    exact ret H_3 lo_3 _ ls I_3 (Or.inr rfl) dX3_isAhead_18
def C_SD_dominanceOf_s1 (a0 : Int32) (G : Nat → Nat → Int32) (x3 : Int32) (x4 : Int32) : Option ((Int32 × Int32) ⊕ (Int32)) :=
if G 21 0 ≤ x4 then
(some (.inr x3))
else
(bd (C_LE_isAhead_22 G a0 x4) fun r12 =>
bd (if r12 = 0 then
(some x3)
else
(nm (x3 + (1 : Int32) : Int32) fun x35 =>
some x35)) fun x16 =>
bd (C_LE_isAhead_22 G x4 a0) fun r20 =>
bd (if r20 = 0 then
(some x16)
else
(nm (x16 + (-1 : Int32) : Int32) fun x31 =>
some x31)) fun x24 =>
nm (x4 + (1 : Int32) : Int32) fun x28 =>
some (.inl (x24, x28)))
def C_SD_dominanceOf (G : Nat → Nat → Int32) (a0 : Int32) : Option (Int32) :=
bd (lp (fun q => C_SD_dominanceOf_s1 a0 G q.1 q.2) FU ((0 : Int32), (0 : Int32))) fun x5 =>
some x5
set_option maxRecDepth 100000 in
set_option maxHeartbeats 4000000 in
theorem cC_SD_dominanceOf (G : Nat → Nat → Int32) (E : Nat → Nat → Int64) (Dd : Nat → Nat → UInt64) (P : Nat → Option PRec) (Z : List PRec) (a0 : Int32) (rv : Int32)  (hf : C_SD_dominanceOf G a0 = some rv) : sMi D (cT cI cJ cD cS) (cW ad cI cJ cD cS) l yX6_dominanceOf (ws1 yX6_dominanceOf cX6_dominanceOf 4 (some .int)) ({ frames := 2, cells := 0, slots := 0, locals := 43 }) [.ref (ad 16), .int a0] (G, E, Dd, P, Z) (rv, (G, E, Dd, P, Z)) := by
  unfold C_SD_dominanceOf at hf
  refine sMi_of (by decide) (Nat.le_of_ble_eq_true rfl) ?_
  intro p e R s m args below meth c A Q ls H lo F hRf hRl I hl ret
  obtain ⟨hx, hb, hml, hown, hG⟩ := id F
  replace hl : lv_has ls 4 [(0, .ref (ad 16)), (1, .int a0)] := hl
  refine lv_iconst (v := (0 : Int32)) hx hb dX6_dominanceOf_0 (by decide) ?_
  refine lv_istore_n (lv' := [(2, .int (0 : Int32)), (0, .ref (ad 16)), (1, .int a0)]) hx hb dX6_dominanceOf_1 rfl hl (by decide) rfl (fun ls_1 hl_1 => ?_)
  refine lv_iconst (v := (0 : Int32)) hx hb dX6_dominanceOf_2 (by decide) ?_
  refine lv_istore_n (lv' := [(3, .int (0 : Int32)), (2, .int (0 : Int32)), (0, .ref (ad 16)), (1, .int a0)]) hx hb dX6_dominanceOf_3 rfl hl_1 (by decide) rfl (fun ls_2 hl_2 => ?_)
  obtain ⟨x5, hq1, hf⟩ := bd_some hf
  have K1 : ∀ (H : Heap) (locs : List Loc), sInv D (cT cI cJ cD cS) (cW ad cI cJ cD cS) A s H locs (G, E, Dd, P, Z) → ∀ (ls : Array Slot), lv_has ls 4 [(2, .int x5)] → W p l e R s m args below meth c H locs 0 0 Q (F0 m 48 ls []) := by
    intro H_6 lo_6 I_6 ls_7 hl_7
    refine lv_iload_n hx hb dX6_dominanceOf_48 rfl (lv_at hl_7 0 rfl) ?_
    cases hf
    exact ret H_6 lo_6 _ ls_7 I_6 dX6_dominanceOf_49
  have L1 : ∀ (n : Nat) (x3 : Int32) (x4 : Int32), lp (fun q => C_SD_dominanceOf_s1 a0 G q.1 q.2) n (x3, x4) = some x5 → ∀ (H : Heap) (locs : List Loc), sInv D (cT cI cJ cD cS) (cW ad cI cJ cD cS) A s H locs (G, E, Dd, P, Z) → ∀ (ls : Array Slot), lv_has ls 4 [(0, .ref (ad 16)), (1, .int a0), (2, .int x3), (3, .int x4)] → W p l e R s m args below meth c H locs 0 0 Q (F0 m 4 ls []) := by
    intro n
    induction n with
    | zero => intro x3 x4 hq; exact (lp_0 hq).elim
    | succ n ih1 =>
      intro x3 x4 hq H_9 lo_9 I_9 ls_10 hl_10
      obtain ⟨y1, hf, hK1⟩ := lp_go hq
      replace hf : C_SD_dominanceOf_s1 a0 G x3 x4 = some y1 := hf
      unfold C_SD_dominanceOf_s1 at hf
      refine lv_iload_n hx hb dX6_dominanceOf_4 rfl (lv_at hl_10 3 rfl) ?_
      refine lv_aload_n hx hb dX6_dominanceOf_5 rfl (lv_at hl_10 0 rfl) ?_
      refine kgtX6_9_16 F I_9 dX6_dominanceOf_6 ?_
      refine lv_icmp_ge (tgt := 48) hx hb dX6_dominanceOf_9 (by decide) (fun c38 => ?_) (fun c38 => ?_)
      · replace hf := (if_pos c38).symm.trans hf
        cases hf
        cases (show x3 = x5 from hK1)
        exact K1 H_9 lo_9 I_9 ls_10 (lv_sub hl_10 [2] rfl)
      · replace hf := (if_neg c38).symm.trans hf
        refine lv_aload_n hx hb dX6_dominanceOf_12 rfl (lv_at hl_10 0 rfl) ?_
        refine kgtX6_22_16 F I_9 dX6_dominanceOf_13 ?_
        refine lv_iload_n hx hb dX6_dominanceOf_16 rfl (lv_at hl_10 1 rfl) ?_
        refine lv_iload_n hx hb dX6_dominanceOf_17 rfl (lv_at hl_10 3 rfl) ?_
        obtain ⟨r12, h13, hf⟩ := bd_some hf
        refine s_callVi (As := [.int a0, .int x4]) (rest := []) F I_9 (cC_LE_isAhead_22 G E Dd P Z a0 x4 r12 h13) kX6_145 ⟨rfl, rfl⟩ ⟨Nat.le_trans (Nat.le_of_ble_eq_true rfl) hRf, Nat.le_trans (Nat.le_of_ble_eq_true rfl) hRl⟩ (22) 3 rfl rfl rfl rfl rfl hl_10.1 (Nat.le_of_ble_eq_true rfl) ⟨Nat.zero_le _, Nat.zero_le _⟩ dX6_dominanceOf_18 ?_
        intro H_14 lo_14 I_14
        obtain ⟨x16, hv34, hf⟩ := bd_some hf
        have J15 : ∀ (H : Heap) (locs : List Loc), sInv D (cT cI cJ cD cS) (cW ad cI cJ cD cS) A s H locs (G, E, Dd, P, Z) → ∀ (ls : Array Slot), lv_has ls 4 [(0, .ref (ad 16)), (1, .int a0), (2, .int x16), (3, .int x4)] → W p l e R s m args below meth c H locs 0 0 Q (F0 m 27 ls []) := by
          intro H_17 lo_17 I_17 ls_18 hl_18
          refine lv_aload_n hx hb dX6_dominanceOf_27 rfl (lv_at hl_18 0 rfl) ?_
          refine kgtX6_22_16 F I_17 dX6_dominanceOf_28 ?_
          refine lv_iload_n hx hb dX6_dominanceOf_31 rfl (lv_at hl_18 3 rfl) ?_
          refine lv_iload_n hx hb dX6_dominanceOf_32 rfl (lv_at hl_18 1 rfl) ?_
          obtain ⟨r20, h21, hf⟩ := bd_some hf
          refine s_callVi (As := [.int x4, .int a0]) (rest := []) F I_17 (cC_LE_isAhead_22 G E Dd P Z x4 a0 r20 h21) kX6_145 ⟨rfl, rfl⟩ ⟨Nat.le_trans (Nat.le_of_ble_eq_true rfl) hRf, Nat.le_trans (Nat.le_of_ble_eq_true rfl) hRl⟩ (22) 3 rfl rfl rfl rfl rfl hl_18.1 (Nat.le_of_ble_eq_true rfl) ⟨Nat.zero_le _, Nat.zero_le _⟩ dX6_dominanceOf_33 ?_
          intro H_22 lo_22 I_22
          obtain ⟨x24, hv30, hf⟩ := bd_some hf
          have J23 : ∀ (H : Heap) (locs : List Loc), sInv D (cT cI cJ cD cS) (cW ad cI cJ cD cS) A s H locs (G, E, Dd, P, Z) → ∀ (ls : Array Slot), lv_has ls 4 [(0, .ref (ad 16)), (1, .int a0), (2, .int x24), (3, .int x4)] → W p l e R s m args below meth c H locs 0 0 Q (F0 m 42 ls []) := by
            intro H_25 lo_25 I_25 ls_26 hl_26
            obtain ⟨x28, ex28⟩ : ∃ y : Int32, y = x4 + (1 : Int32) := ⟨_, rfl⟩
            replace hf := nm_some ex28 hf
            refine lv_iinc (v := x28) (lv' := [(3, .int x28), (0, .ref (ad 16)), (1, .int a0), (2, .int x24)]) hx hb dX6_dominanceOf_42 hl_26 (k := 3) rfl (by rw [ex28]; rfl) (by decide) rfl (fun ls_29 hl_29 => ?_)
            refine lv_goto (tgt := 4) hx hb dX6_dominanceOf_45 (by decide) ?_
            cases hf
            exact ih1 _ _ hK1 H_25 lo_25 I_25 ls_29 (lv_sub hl_29 [1, 2, 3, 0] rfl)
          replace hf := hv30
          refine lv_if_eq (tgt := 42) hx hb dX6_dominanceOf_36 (by decide) (fun c33 => ?_) (fun c33 => ?_)
          · replace hf := (if_pos c33).symm.trans hf
            cases hf
            exact J23 H_22 lo_22 I_22 ls_18 (lv_sub hl_18 [0, 1, 2, 3] rfl)
          · replace hf := (if_neg c33).symm.trans hf
            obtain ⟨x31, ex31⟩ : ∃ y : Int32, y = x16 + (-1 : Int32) := ⟨_, rfl⟩
            replace hf := nm_some ex31 hf
            refine lv_iinc (v := x31) (lv' := [(2, .int x31), (0, .ref (ad 16)), (1, .int a0), (3, .int x4)]) hx hb dX6_dominanceOf_39 hl_18 (k := 2) rfl (by rw [ex31]; rfl) (by decide) rfl (fun ls_32 hl_32 => ?_)
            cases hf
            exact J23 H_22 lo_22 I_22 ls_32 (lv_sub hl_32 [1, 2, 0, 3] rfl)
        replace hf := hv34
        refine lv_if_eq (tgt := 27) hx hb dX6_dominanceOf_21 (by decide) (fun c37 => ?_) (fun c37 => ?_)
        · replace hf := (if_pos c37).symm.trans hf
          cases hf
          exact J15 H_14 lo_14 I_14 ls_10 (lv_sub hl_10 [0, 1, 2, 3] rfl)
        · replace hf := (if_neg c37).symm.trans hf
          obtain ⟨x35, ex35⟩ : ∃ y : Int32, y = x3 + (1 : Int32) := ⟨_, rfl⟩
          replace hf := nm_some ex35 hf
          refine lv_iinc (v := x35) (lv' := [(2, .int x35), (0, .ref (ad 16)), (1, .int a0), (3, .int x4)]) hx hb dX6_dominanceOf_24 hl_10 (k := 2) rfl (by rw [ex35]; rfl) (by decide) rfl (fun ls_36 hl_36 => ?_)
          cases hf
          exact J15 H_14 lo_14 I_14 ls_36 (lv_sub hl_36 [1, 2, 0, 3] rfl)
  exact L1 FU _ _ hq1 H lo I ls_2 (lv_sub hl_2 [2, 3, 1, 0] rfl)
def C_SD_findBeaters_s2 (x2 : Int32) (x15 : Int32) (G16 : Nat → Nat → Int32) : Option ((Int32 × (Nat → Nat → Int32)) ⊕ ((Nat → Nat → Int32))) :=
if G16 21 0 ≤ x15 then
(some (.inr G16))
else
(bd (C_LE_isAhead_22 G16 x15 x2) fun r26 =>
bd (if r26 = 0 then
(some G16)
else
(ri 8 x2 <|
ri 8 x2 <|
nm (wr G16 25 x2 ((G16 25 x2.toNatClampNeg) ||| ((1 : Int32) <<< (x15 &&& 31)))) fun G39 =>
some G39)) fun G30 =>
nm (x15 + (1 : Int32) : Int32) fun x34 =>
some (.inl (x34, G30)))
def C_SD_findBeaters_s1  (x2 : Int32) (G3 : Nat → Nat → Int32) : Option ((Int32 × (Nat → Nat → Int32)) ⊕ ((Nat → Nat → Int32))) :=
if G3 21 0 ≤ x2 then
(some (.inr G3))
else
(ri 8 x2 <|
nm (wr G3 25 x2 (0 : Int32)) fun G12 =>
bd (lp (fun q => C_SD_findBeaters_s2 x2 q.1 q.2) FU ((0 : Int32), G12)) fun G17 =>
nm (x2 + (1 : Int32) : Int32) fun x21 =>
some (.inl (x21, G17)))
def C_SD_findBeaters (G : Nat → Nat → Int32) : Option ((Nat → Nat → Int32)) :=
bd (lp (fun q => C_SD_findBeaters_s1 q.1 q.2) FU ((0 : Int32), G)) fun G4 =>
some G4
set_option maxRecDepth 100000 in
set_option maxHeartbeats 4000000 in
theorem cC_SD_findBeaters (G : Nat → Nat → Int32) (E : Nat → Nat → Int64) (Dd : Nat → Nat → UInt64) (P : Nat → Option PRec) (Z : List PRec)   (newG : Nat → Nat → Int32) (hf : C_SD_findBeaters G = some newG) : sMv D (cT cI cJ cD cS) (cW ad cI cJ cD cS) l yX6_findBeaters (ws1 yX6_findBeaters cX6_findBeaters 3 none) ({ frames := 2, cells := 0, slots := 0, locals := 43 }) [.ref (ad 16)] (G, E, Dd, P, Z) (newG, E, Dd, P, Z) := by
  unfold C_SD_findBeaters at hf
  refine sMv_of (by decide) (Nat.le_of_ble_eq_true rfl) ?_
  intro p e R s m args below meth c A Q ls H lo F hRf hRl I hl ret
  obtain ⟨hx, hb, hml, hown, hG⟩ := id F
  replace hl : lv_has ls 3 [(0, .ref (ad 16))] := hl
  refine lv_iconst (v := (0 : Int32)) hx hb dX6_findBeaters_0 (by decide) ?_
  refine lv_istore_n (lv' := [(1, .int (0 : Int32)), (0, .ref (ad 16))]) hx hb dX6_findBeaters_1 rfl hl (by decide) rfl (fun ls_1 hl_1 => ?_)
  obtain ⟨G4, hq1, hf⟩ := bd_some hf
  have K1 : ∀ (H : Heap) (locs : List Loc), sInv D (cT cI cJ cD cS) (cW ad cI cJ cD cS) A s H locs (G4, E, Dd, P, Z) → ∀ (ls : Array Slot), lv_has ls 3 [] → W p l e R s m args below meth c H locs 0 0 Q (F0 m 63 ls []) := by
    intro H_5 lo_5 I_5 ls_6 hl_6
    cases hf
    exact ret H_5 lo_5 _ ls_6 I_5 dX6_findBeaters_63
  have L1 : ∀ (n : Nat) (x2 : Int32) (G3 : Nat → Nat → Int32), lp (fun q => C_SD_findBeaters_s1 q.1 q.2) n (x2, G3) = some G4 → ∀ (H : Heap) (locs : List Loc), sInv D (cT cI cJ cD cS) (cW ad cI cJ cD cS) A s H locs (G3, E, Dd, P, Z) → ∀ (ls : Array Slot), lv_has ls 3 [(0, .ref (ad 16)), (1, .int x2)] → W p l e R s m args below meth c H locs 0 0 Q (F0 m 2 ls []) := by
    intro n
    induction n with
    | zero => intro x2 G3 hq; exact (lp_0 hq).elim
    | succ n ih1 =>
      intro x2 G3 hq H_8 lo_8 I_8 ls_9 hl_9
      obtain ⟨y1, hf, hK1⟩ := lp_go hq
      replace hf : C_SD_findBeaters_s1 x2 G3 = some y1 := hf
      unfold C_SD_findBeaters_s1 at hf
      refine lv_iload_n hx hb dX6_findBeaters_2 rfl (lv_at hl_9 1 rfl) ?_
      refine lv_aload_n hx hb dX6_findBeaters_3 rfl (lv_at hl_9 0 rfl) ?_
      refine kgtX6_9_16 F I_8 dX6_findBeaters_4 ?_
      refine lv_icmp_ge (tgt := 63) hx hb dX6_findBeaters_7 (by decide) (fun c43 => ?_) (fun c43 => ?_)
      · replace hf := (if_pos c43).symm.trans hf
        cases hf
        cases (show G3 = G4 from hK1)
        exact K1 H_8 lo_8 I_8 ls_9 (lv_sub hl_9 [] rfl)
      · replace hf := (if_neg c43).symm.trans hf
        refine lv_aload_n hx hb dX6_findBeaters_10 rfl (lv_at hl_9 0 rfl) ?_
        refine kgtX6_32_16 F I_8 dX6_findBeaters_11 ?_
        refine lv_iload_n hx hb dX6_findBeaters_14 rfl (lv_at hl_9 1 rfl) ?_
        refine lv_iconst (v := (0 : Int32)) hx hb dX6_findBeaters_15 (by decide) ?_
        obtain ⟨g11, hf⟩ := ri_some hf
        refine kas20 F I_8 g11 dX6_findBeaters_16 ?_
        intro H_13 lo_13 G12 eG12 I_13
        replace hf := nm_some eG12 hf
        refine lv_iconst (v := (0 : Int32)) hx hb dX6_findBeaters_17 (by decide) ?_
        refine lv_istore_n (lv' := [(2, .int (0 : Int32)), (0, .ref (ad 16)), (1, .int x2)]) hx hb dX6_findBeaters_18 rfl hl_9 (by decide) rfl (fun ls_14 hl_14 => ?_)
        obtain ⟨G17, hq2, hf⟩ := bd_some hf
        have K2 : ∀ (H : Heap) (locs : List Loc), sInv D (cT cI cJ cD cS) (cW ad cI cJ cD cS) A s H locs (G17, E, Dd, P, Z) → ∀ (ls : Array Slot), lv_has ls 3 [(0, .ref (ad 16)), (1, .int x2)] → W p l e R s m args below meth c H locs 0 0 Q (F0 m 57 ls []) := by
          intro H_18 lo_18 I_18 ls_19 hl_19
          obtain ⟨x21, ex21⟩ : ∃ y : Int32, y = x2 + (1 : Int32) := ⟨_, rfl⟩
          replace hf := nm_some ex21 hf
          refine lv_iinc (v := x21) (lv' := [(1, .int x21), (0, .ref (ad 16))]) hx hb dX6_findBeaters_57 hl_19 (k := 1) rfl (by rw [ex21]; rfl) (by decide) rfl (fun ls_22 hl_22 => ?_)
          refine lv_goto (tgt := 2) hx hb dX6_findBeaters_60 (by decide) ?_
          cases hf
          exact ih1 _ _ hK1 H_18 lo_18 I_18 ls_22 (lv_sub hl_22 [1, 0] rfl)
        have L2 : ∀ (n : Nat) (x15 : Int32) (G16 : Nat → Nat → Int32), lp (fun q => C_SD_findBeaters_s2 x2 q.1 q.2) n (x15, G16) = some G17 → ∀ (H : Heap) (locs : List Loc), sInv D (cT cI cJ cD cS) (cW ad cI cJ cD cS) A s H locs (G16, E, Dd, P, Z) → ∀ (ls : Array Slot), lv_has ls 3 [(0, .ref (ad 16)), (1, .int x2), (2, .int x15)] → W p l e R s m args below meth c H locs 0 0 Q (F0 m 19 ls []) := by
          intro n
          induction n with
          | zero => intro x15 G16 hq; exact (lp_0 hq).elim
          | succ n ih2 =>
            intro x15 G16 hq H_23 lo_23 I_23 ls_24 hl_24
            obtain ⟨y2, hf, hK2⟩ := lp_go hq
            replace hf : C_SD_findBeaters_s2 x2 x15 G16 = some y2 := hf
            unfold C_SD_findBeaters_s2 at hf
            refine lv_iload_n hx hb dX6_findBeaters_19 rfl (lv_at hl_24 2 rfl) ?_
            refine lv_aload_n hx hb dX6_findBeaters_20 rfl (lv_at hl_24 0 rfl) ?_
            refine kgtX6_9_16 F I_23 dX6_findBeaters_21 ?_
            refine lv_icmp_ge (tgt := 57) hx hb dX6_findBeaters_24 (by decide) (fun c42 => ?_) (fun c42 => ?_)
            · replace hf := (if_pos c42).symm.trans hf
              cases hf
              cases (show G16 = G17 from hK2)
              exact K2 H_23 lo_23 I_23 ls_24 (lv_sub hl_24 [0, 1] rfl)
            · replace hf := (if_neg c42).symm.trans hf
              refine lv_aload_n hx hb dX6_findBeaters_27 rfl (lv_at hl_24 0 rfl) ?_
              refine kgtX6_22_16 F I_23 dX6_findBeaters_28 ?_
              refine lv_iload_n hx hb dX6_findBeaters_31 rfl (lv_at hl_24 2 rfl) ?_
              refine lv_iload_n hx hb dX6_findBeaters_32 rfl (lv_at hl_24 1 rfl) ?_
              obtain ⟨r26, h27, hf⟩ := bd_some hf
              refine s_callVi (As := [.int x15, .int x2]) (rest := []) F I_23 (cC_LE_isAhead_22 G16 E Dd P Z x15 x2 r26 h27) kX6_145 ⟨rfl, rfl⟩ ⟨Nat.le_trans (Nat.le_of_ble_eq_true rfl) hRf, Nat.le_trans (Nat.le_of_ble_eq_true rfl) hRl⟩ (22) 3 rfl rfl rfl rfl rfl hl_24.1 (Nat.le_of_ble_eq_true rfl) ⟨Nat.zero_le _, Nat.zero_le _⟩ dX6_findBeaters_33 ?_
              intro H_28 lo_28 I_28
              obtain ⟨G30, hv36, hf⟩ := bd_some hf
              have J29 : ∀ (H : Heap) (locs : List Loc), sInv D (cT cI cJ cD cS) (cW ad cI cJ cD cS) A s H locs (G30, E, Dd, P, Z) → ∀ (ls : Array Slot), lv_has ls 3 [(0, .ref (ad 16)), (1, .int x2), (2, .int x15)] → W p l e R s m args below meth c H locs 0 0 Q (F0 m 51 ls []) := by
                intro H_31 lo_31 I_31 ls_32 hl_32
                obtain ⟨x34, ex34⟩ : ∃ y : Int32, y = x15 + (1 : Int32) := ⟨_, rfl⟩
                replace hf := nm_some ex34 hf
                refine lv_iinc (v := x34) (lv' := [(2, .int x34), (0, .ref (ad 16)), (1, .int x2)]) hx hb dX6_findBeaters_51 hl_32 (k := 2) rfl (by rw [ex34]; rfl) (by decide) rfl (fun ls_35 hl_35 => ?_)
                refine lv_goto (tgt := 19) hx hb dX6_findBeaters_54 (by decide) ?_
                cases hf
                exact ih2 _ _ hK2 H_31 lo_31 I_31 ls_35 (lv_sub hl_35 [1, 2, 0] rfl)
              replace hf := hv36
              refine lv_if_eq (tgt := 51) hx hb dX6_findBeaters_36 (by decide) (fun c41 => ?_) (fun c41 => ?_)
              · replace hf := (if_pos c41).symm.trans hf
                cases hf
                exact J29 H_28 lo_28 I_28 ls_24 (lv_sub hl_24 [0, 1, 2] rfl)
              · replace hf := (if_neg c41).symm.trans hf
                refine lv_aload_n hx hb dX6_findBeaters_39 rfl (lv_at hl_24 0 rfl) ?_
                refine kgtX6_32_16 F I_28 dX6_findBeaters_40 ?_
                refine lv_iload_n hx hb dX6_findBeaters_43 rfl (lv_at hl_24 1 rfl) ?_
                refine lv_dup2_11 hx hb dX6_findBeaters_44 rfl rfl ?_
                obtain ⟨g37, hf⟩ := ri_some hf
                refine kal20 F I_28 g37 dX6_findBeaters_45 ?_
                refine lv_iconst (v := (1 : Int32)) hx hb dX6_findBeaters_46 (by decide) ?_
                refine lv_iload_n hx hb dX6_findBeaters_47 rfl (lv_at hl_24 2 rfl) ?_
                refine lv_ishl hx hb dX6_findBeaters_48 ?_
                refine lv_ior hx hb dX6_findBeaters_49 ?_
                obtain ⟨g38, hf⟩ := ri_some hf
                refine kas20 F I_28 g38 dX6_findBeaters_50 ?_
                intro H_40 lo_40 G39 eG39 I_40
                replace hf := nm_some eG39 hf
                cases hf
                exact J29 H_40 lo_40 I_40 ls_24 (lv_sub hl_24 [0, 1, 2] rfl)
        exact L2 FU _ _ hq2 H_13 lo_13 I_13 ls_14 (lv_sub hl_14 [1, 2, 0] rfl)
  exact L1 FU _ _ hq1 H lo I ls_1 (lv_sub hl_1 [1, 0] rfl)
def C_SD_closedSet_s2 (a1 : Int32) (G : Nat → Nat → Int32) (x10 : Int32) (x11 : Int32) : Option ((Int32 × Int32) ⊕ (Int32)) :=
if G 21 0 ≤ x11 then
(some (.inr x10))
else
(bd (C_LT_contains (a1 &&& (x10 ^^^ (-1 : Int32))) x11) fun r22 =>
bd (if r22 = 0 then
(some x10)
else
(ri 8 x11 <|
if x10 &&& ((G 25 x11.toNatClampNeg) ^^^ (-1 : Int32)) = 0 then
(some x10)
else
(nm (x10 ||| ((1 : Int32) <<< (x11 &&& 31)) : Int32) fun x35 =>
some x35))) fun x27 =>
nm (x11 + (1 : Int32) : Int32) fun x31 =>
some (.inl (x27, x31)))
def C_SD_closedSet_s1 (a1 : Int32) (G : Nat → Nat → Int32) (x3 : Int32) (x4 : Int32) : Option ((Int32 × Int32) ⊕ (Int32)) :=
if G 21 0 ≤ x4 then
(some (.inr x3))
else
(bd (lp (fun q => C_SD_closedSet_s2 a1 G q.1 q.2) FU (x3, (0 : Int32))) fun x12 =>
if x12 = x3 then
(some (.inr x12))
else
(nm (x4 + (1 : Int32) : Int32) fun x16 =>
some (.inl (x12, x16))))
def C_SD_closedSet (G : Nat → Nat → Int32) (a0 : Int32) (a1 : Int32) : Option (Int32) :=
lp (fun q => C_SD_closedSet_s1 a1 G q.1 q.2) FU (a0, (0 : Int32))
set_option maxRecDepth 100000 in
set_option maxHeartbeats 4000000 in
theorem cC_SD_closedSet (G : Nat → Nat → Int32) (E : Nat → Nat → Int64) (Dd : Nat → Nat → UInt64) (P : Nat → Option PRec) (Z : List PRec) (a0 : Int32) (a1 : Int32) (rv : Int32)  (hf : C_SD_closedSet G a0 a1 = some rv) : sMi D (cT cI cJ cD cS) (cW ad cI cJ cD cS) l yX6_closedSet (ws1 yX6_closedSet cX6_closedSet 8 (some .int)) ({ frames := 1, cells := 0, slots := 0, locals := 21 }) [.ref (ad 16), .int a0, .int a1] (G, E, Dd, P, Z) (rv, (G, E, Dd, P, Z)) := by
  unfold C_SD_closedSet at hf
  refine sMi_of (by decide) (Nat.le_of_ble_eq_true rfl) ?_
  intro p e R s m args below meth c A Q ls H lo F hRf hRl I hl ret
  obtain ⟨hx, hb, hml, hown, hG⟩ := id F
  replace hl : lv_has ls 8 [(0, .ref (ad 16)), (1, .int a0), (2, .int a1)] := hl
  refine lv_iload_n hx hb dX6_closedSet_0 rfl (lv_at hl 1 rfl) ?_
  refine lv_istore_n (lv' := [(3, .int a0), (0, .ref (ad 16)), (1, .int a0), (2, .int a1)]) hx hb dX6_closedSet_1 rfl hl (by decide) rfl (fun ls_1 hl_1 => ?_)
  refine lv_iconst (v := (0 : Int32)) hx hb dX6_closedSet_2 (by decide) ?_
  refine lv_istore (lv' := [(4, .int (0 : Int32)), (3, .int a0), (0, .ref (ad 16)), (1, .int a0), (2, .int a1)]) hx hb dX6_closedSet_3 hl_1 (by decide) rfl (fun ls_2 hl_2 => ?_)
  have hq1 : lp (fun q => C_SD_closedSet_s1 a1 G q.1 q.2) FU (a0, (0 : Int32)) = some rv := hf
  have L1 : ∀ (n : Nat) (x3 : Int32) (x4 : Int32), lp (fun q => C_SD_closedSet_s1 a1 G q.1 q.2) n (x3, x4) = some rv → ∀ (H : Heap) (locs : List Loc), sInv D (cT cI cJ cD cS) (cW ad cI cJ cD cS) A s H locs (G, E, Dd, P, Z) → ∀ (ls : Array Slot), lv_has ls 8 [(0, .ref (ad 16)), (2, .int a1), (3, .int x3), (4, .int x4)] → W p l e R s m args below meth c H locs 0 0 Q (F0 m 5 ls []) := by
    intro n
    induction n with
    | zero => intro x3 x4 hq; exact (lp_0 hq).elim
    | succ n ih1 =>
      intro x3 x4 hq H_5 lo_5 I_5 ls_6 hl_6
      obtain ⟨y1, hf, hK1⟩ := lp_go hq
      replace hf : C_SD_closedSet_s1 a1 G x3 x4 = some y1 := hf
      unfold C_SD_closedSet_s1 at hf
      refine lv_iload hx hb dX6_closedSet_5 (lv_at hl_6 3 rfl) ?_
      refine lv_aload_n hx hb dX6_closedSet_7 rfl (lv_at hl_6 0 rfl) ?_
      refine kgtX6_9_16 F I_5 dX6_closedSet_8 ?_
      refine lv_icmp_ge (tgt := 88) hx hb dX6_closedSet_11 (by decide) (fun c40 => ?_) (fun c40 => ?_)
      · replace hf := (if_pos c40).symm.trans hf
        refine lv_iload_n hx hb dX6_closedSet_88 rfl (lv_at hl_6 2 rfl) ?_
        cases hf
        have hf := congrArg some (show _ = _ from hK1)
        cases hf
        exact ret H_5 lo_5 _ ls_6 I_5 dX6_closedSet_89
      · replace hf := (if_neg c40).symm.trans hf
        refine lv_iload_n hx hb dX6_closedSet_14 rfl (lv_at hl_6 2 rfl) ?_
        refine lv_istore (lv' := [(5, .int x3), (0, .ref (ad 16)), (2, .int a1), (3, .int x3), (4, .int x4)]) hx hb dX6_closedSet_15 hl_6 (by decide) rfl (fun ls_8 hl_8 => ?_)
        refine lv_iconst (v := (0 : Int32)) hx hb dX6_closedSet_17 (by decide) ?_
        refine lv_istore (lv' := [(6, .int (0 : Int32)), (5, .int x3), (0, .ref (ad 16)), (2, .int a1), (3, .int x3), (4, .int x4)]) hx hb dX6_closedSet_18 hl_8 (by decide) rfl (fun ls_9 hl_9 => ?_)
        obtain ⟨x12, hq2, hf⟩ := bd_some hf
        have K2 : ∀ (H : Heap) (locs : List Loc), sInv D (cT cI cJ cD cS) (cW ad cI cJ cD cS) A s H locs (G, E, Dd, P, Z) → ∀ (ls : Array Slot), lv_has ls 8 [(0, .ref (ad 16)), (2, .int a1), (3, .int x12), (4, .int x4), (5, .int x3)] → W p l e R s m args below meth c H locs 0 0 Q (F0 m 73 ls []) := by
          intro H_13 lo_13 I_13 ls_14 hl_14
          refine lv_iload_n hx hb dX6_closedSet_73 rfl (lv_at hl_14 2 rfl) ?_
          refine lv_iload hx hb dX6_closedSet_74 (lv_at hl_14 4 rfl) ?_
          refine lv_icmp_ne (tgt := 82) hx hb dX6_closedSet_76 (by decide) (fun c18 => ?_) (fun c18 => ?_)
          · replace hf := (if_neg c18).symm.trans hf
            obtain ⟨x16, ex16⟩ : ∃ y : Int32, y = x4 + (1 : Int32) := ⟨_, rfl⟩
            replace hf := nm_some ex16 hf
            refine lv_iinc (v := x16) (lv' := [(4, .int x16), (0, .ref (ad 16)), (2, .int a1), (3, .int x12), (5, .int x3)]) hx hb dX6_closedSet_82 hl_14 (k := 3) rfl (by rw [ex16]; rfl) (by decide) rfl (fun ls_17 hl_17 => ?_)
            refine lv_goto (tgt := 5) hx hb dX6_closedSet_85 (by decide) ?_
            cases hf
            exact ih1 _ _ hK1 H_13 lo_13 I_13 ls_17 (lv_sub hl_17 [1, 2, 3, 0] rfl)
          · replace hf := (if_pos c18).symm.trans hf
            refine lv_goto (tgt := 88) hx hb dX6_closedSet_79 (by decide) ?_
            refine lv_iload_n hx hb dX6_closedSet_88 rfl (lv_at hl_14 2 rfl) ?_
            cases hf
            have hf := congrArg some (show _ = _ from hK1)
            cases hf
            exact ret H_13 lo_13 _ ls_14 I_13 dX6_closedSet_89
        have L2 : ∀ (n : Nat) (x10 : Int32) (x11 : Int32), lp (fun q => C_SD_closedSet_s2 a1 G q.1 q.2) n (x10, x11) = some x12 → ∀ (H : Heap) (locs : List Loc), sInv D (cT cI cJ cD cS) (cW ad cI cJ cD cS) A s H locs (G, E, Dd, P, Z) → ∀ (ls : Array Slot), lv_has ls 8 [(0, .ref (ad 16)), (2, .int a1), (3, .int x10), (4, .int x4), (5, .int x3), (6, .int x11)] → W p l e R s m args below meth c H locs 0 0 Q (F0 m 20 ls []) := by
          intro n
          induction n with
          | zero => intro x10 x11 hq; exact (lp_0 hq).elim
          | succ n ih2 =>
            intro x10 x11 hq H_19 lo_19 I_19 ls_20 hl_20
            obtain ⟨y2, hf, hK2⟩ := lp_go hq
            replace hf : C_SD_closedSet_s2 a1 G x10 x11 = some y2 := hf
            unfold C_SD_closedSet_s2 at hf
            refine lv_iload hx hb dX6_closedSet_20 (lv_at hl_20 5 rfl) ?_
            refine lv_aload_n hx hb dX6_closedSet_22 rfl (lv_at hl_20 0 rfl) ?_
            refine kgtX6_9_16 F I_19 dX6_closedSet_23 ?_
            refine lv_icmp_ge (tgt := 73) hx hb dX6_closedSet_26 (by decide) (fun c39 => ?_) (fun c39 => ?_)
            · replace hf := (if_pos c39).symm.trans hf
              cases hf
              cases (show x10 = x12 from hK2)
              exact K2 H_19 lo_19 I_19 ls_20 (lv_sub hl_20 [0, 1, 2, 3, 4] rfl)
            · replace hf := (if_neg c39).symm.trans hf
              refine lv_iload_n hx hb dX6_closedSet_29 rfl (lv_at hl_20 1 rfl) ?_
              refine lv_iload_n hx hb dX6_closedSet_30 rfl (lv_at hl_20 2 rfl) ?_
              refine lv_iconst (v := (-1 : Int32)) hx hb dX6_closedSet_31 (by decide) ?_
              refine lv_ixor hx hb dX6_closedSet_32 ?_
              refine lv_iand hx hb dX6_closedSet_33 ?_
              refine lv_iload hx hb dX6_closedSet_34 (lv_at hl_20 5 rfl) ?_
              obtain ⟨r22, h23, hf⟩ := bd_some hf
              refine s_callSNi (As := [.int (a1 &&& (x10 ^^^ (-1 : Int32))), .int x11]) (rest := []) F I_19 (cC_LT_contains G E Dd P Z (a1 &&& (x10 ^^^ (-1 : Int32))) x11 r22 h23) kX6_155 ⟨rfl, rfl⟩ ⟨Nat.le_trans (Nat.le_of_ble_eq_true rfl) hRf, Nat.le_trans (Nat.le_of_ble_eq_true rfl) hRl⟩ rfl rfl hl_20.1 (Nat.le_of_ble_eq_true rfl) ⟨Nat.zero_le _, Nat.zero_le _⟩ dX6_closedSet_36 ?_
              intro H_24 lo_24 I_24
              refine lv_istore (lv' := [(7, .int r22), (0, .ref (ad 16)), (2, .int a1), (3, .int x10), (4, .int x4), (5, .int x3), (6, .int x11)]) hx hb dX6_closedSet_39 hl_20 (by decide) rfl (fun ls_25 hl_25 => ?_)
              refine lv_iload hx hb dX6_closedSet_41 (lv_at hl_25 0 rfl) ?_
              obtain ⟨x27, hv33, hf⟩ := bd_some hf
              have J26 : ∀ (H : Heap) (locs : List Loc), sInv D (cT cI cJ cD cS) (cW ad cI cJ cD cS) A s H locs (G, E, Dd, P, Z) → ∀ (ls : Array Slot), lv_has ls 8 [(0, .ref (ad 16)), (2, .int a1), (3, .int x27), (4, .int x4), (5, .int x3), (6, .int x11)] → W p l e R s m args below meth c H locs 0 0 Q (F0 m 67 ls []) := by
                intro H_28 lo_28 I_28 ls_29 hl_29
                obtain ⟨x31, ex31⟩ : ∃ y : Int32, y = x11 + (1 : Int32) := ⟨_, rfl⟩
                replace hf := nm_some ex31 hf
                refine lv_iinc (v := x31) (lv' := [(6, .int x31), (0, .ref (ad 16)), (2, .int a1), (3, .int x27), (4, .int x4), (5, .int x3)]) hx hb dX6_closedSet_67 hl_29 (k := 5) rfl (by rw [ex31]; rfl) (by decide) rfl (fun ls_32 hl_32 => ?_)
                refine lv_goto (tgt := 20) hx hb dX6_closedSet_70 (by decide) ?_
                cases hf
                exact ih2 _ _ hK2 H_28 lo_28 I_28 ls_32 (lv_sub hl_32 [1, 2, 3, 4, 5, 0] rfl)
              replace hf := hv33
              refine lv_if_eq (tgt := 67) hx hb dX6_closedSet_43 (by decide) (fun c38 => ?_) (fun c38 => ?_)
              · replace hf := (if_pos c38).symm.trans hf
                cases hf
                exact J26 H_24 lo_24 I_24 ls_25 (lv_sub hl_25 [1, 2, 3, 4, 5, 6] rfl)
              · replace hf := (if_neg c38).symm.trans hf
                refine lv_iload_n hx hb dX6_closedSet_46 rfl (lv_at hl_25 3 rfl) ?_
                refine lv_aload_n hx hb dX6_closedSet_47 rfl (lv_at hl_25 1 rfl) ?_
                refine kgtX6_32_16 F I_24 dX6_closedSet_48 ?_
                refine lv_iload hx hb dX6_closedSet_51 (lv_at hl_25 6 rfl) ?_
                obtain ⟨g34, hf⟩ := ri_some hf
                refine kal20 F I_24 g34 dX6_closedSet_53 ?_
                refine lv_iconst (v := (-1 : Int32)) hx hb dX6_closedSet_54 (by decide) ?_
                refine lv_ixor hx hb dX6_closedSet_55 ?_
                refine lv_iand hx hb dX6_closedSet_56 ?_
                refine lv_if_eq (tgt := 67) hx hb dX6_closedSet_57 (by decide) (fun c37 => ?_) (fun c37 => ?_)
                · replace hf := (if_pos c37).symm.trans hf
                  cases hf
                  exact J26 H_24 lo_24 I_24 ls_25 (lv_sub hl_25 [1, 2, 3, 4, 5, 6] rfl)
                · replace hf := (if_neg c37).symm.trans hf
                  refine lv_iload_n hx hb dX6_closedSet_60 rfl (lv_at hl_25 3 rfl) ?_
                  refine lv_iconst (v := (1 : Int32)) hx hb dX6_closedSet_61 (by decide) ?_
                  refine lv_iload hx hb dX6_closedSet_62 (lv_at hl_25 6 rfl) ?_
                  refine lv_ishl hx hb dX6_closedSet_64 ?_
                  refine lv_ior hx hb dX6_closedSet_65 ?_
                  refine lv_topi (fun x35 ex35 => ?_)
                  replace hf := nm_some ex35 hf
                  refine lv_istore_n (lv' := [(3, .int x35), (7, .int r22), (0, .ref (ad 16)), (2, .int a1), (4, .int x4), (5, .int x3), (6, .int x11)]) hx hb dX6_closedSet_66 rfl hl_25 (by decide) rfl (fun ls_36 hl_36 => ?_)
                  cases hf
                  exact J26 H_24 lo_24 I_24 ls_36 (lv_sub hl_36 [2, 3, 0, 4, 5, 6] rfl)
        exact L2 FU _ _ hq2 H_5 lo_5 I_5 ls_9 (lv_sub hl_9 [2, 3, 4, 5, 1, 0] rfl)
  exact L1 FU _ _ hq1 H lo I ls_2 (lv_sub hl_2 [2, 4, 1, 0] rfl)
def C_JI_bitCount_ (a0 : Int32) : Int32 :=
nm (a0 - (((a0.toUInt32 >>> ((1 : Int32).toUInt32 &&& Int32.toUInt32 31)).toInt32) &&& (1431655765 : Int32)) : Int32) fun x1 =>
nm ((x1 &&& (858993459 : Int32)) + (((x1.toUInt32 >>> ((2 : Int32).toUInt32 &&& Int32.toUInt32 31)).toInt32) &&& (858993459 : Int32)) : Int32) fun x3 =>
nm ((x3 + ((x3.toUInt32 >>> ((4 : Int32).toUInt32 &&& Int32.toUInt32 31)).toInt32)) &&& (252645135 : Int32) : Int32) fun x5 =>
nm (x5 + ((x5.toUInt32 >>> ((8 : Int32).toUInt32 &&& Int32.toUInt32 31)).toInt32) : Int32) fun x7 =>
nm (x7 + ((x7.toUInt32 >>> ((16 : Int32).toUInt32 &&& Int32.toUInt32 31)).toInt32) : Int32) fun x9 =>
(x9 &&& (63 : Int32))
set_option maxRecDepth 100000 in
set_option maxHeartbeats 4000000 in
theorem cC_JI_bitCount_ (G : Nat → Nat → Int32) (E : Nat → Nat → Int64) (Dd : Nat → Nat → UInt64) (P : Nat → Option PRec) (Z : List PRec) (a0 : Int32) (rv : Int32)  (hv : rv = C_JI_bitCount_ a0) : sMi D (cT cI cJ cD cS) (cW ad cI cJ cD cS) l yJ6_bitCount_0f7a4 (ws1 yJ6_bitCount_0f7a4 cJ6_bitCount_0f7a4 1 (some .int)) ({ frames := 0, cells := 0, slots := 0, locals := 0 }) [.int a0] (G, E, Dd, P, Z) (rv, (G, E, Dd, P, Z)) := by
  have hf : (nm (a0 - (((a0.toUInt32 >>> ((1 : Int32).toUInt32 &&& Int32.toUInt32 31)).toInt32) &&& (1431655765 : Int32)) : Int32) fun x1 =>
nm ((x1 &&& (858993459 : Int32)) + (((x1.toUInt32 >>> ((2 : Int32).toUInt32 &&& Int32.toUInt32 31)).toInt32) &&& (858993459 : Int32)) : Int32) fun x3 =>
nm ((x3 + ((x3.toUInt32 >>> ((4 : Int32).toUInt32 &&& Int32.toUInt32 31)).toInt32)) &&& (252645135 : Int32) : Int32) fun x5 =>
nm (x5 + ((x5.toUInt32 >>> ((8 : Int32).toUInt32 &&& Int32.toUInt32 31)).toInt32) : Int32) fun x7 =>
nm (x7 + ((x7.toUInt32 >>> ((16 : Int32).toUInt32 &&& Int32.toUInt32 31)).toInt32) : Int32) fun x9 =>
some (x9 &&& (63 : Int32))) = some rv := by rw [hv]; rfl
  refine sMi_of (by decide) (Nat.le_of_ble_eq_true rfl) ?_
  intro p e R s m args below meth c A Q ls H lo F hRf hRl I hl ret
  obtain ⟨hx, hb, hml, hown, hG⟩ := id F
  replace hl : lv_has ls 1 [(0, .int a0)] := hl
  refine lv_iload_n hx hb dJ6_bitCount_0f7a4_0 rfl (lv_at hl 0 rfl) ?_
  refine lv_iload_n hx hb dJ6_bitCount_0f7a4_1 rfl (lv_at hl 0 rfl) ?_
  refine lv_iconst (v := (1 : Int32)) hx hb dJ6_bitCount_0f7a4_2 (by decide) ?_
  refine lv_iushr hx hb dJ6_bitCount_0f7a4_3 rfl ?_
  refine lv_ldcw (v := (1431655765 : Int32)) hx hb hown (hG _ q683) dJ6_bitCount_0f7a4_4 ?_
  refine lv_iand hx hb dJ6_bitCount_0f7a4_7 ?_
  refine lv_isub hx hb dJ6_bitCount_0f7a4_8 ?_
  refine lv_topi (fun x1 ex1 => ?_)
  replace hf := nm_some ex1 hf
  refine lv_istore_n (lv' := [(0, .int x1)]) hx hb dJ6_bitCount_0f7a4_9 rfl hl (by decide) rfl (fun ls_2 hl_2 => ?_)
  refine lv_iload_n hx hb dJ6_bitCount_0f7a4_10 rfl (lv_at hl_2 0 rfl) ?_
  refine lv_ldcw (v := (858993459 : Int32)) hx hb hown (hG _ q684) dJ6_bitCount_0f7a4_11 ?_
  refine lv_iand hx hb dJ6_bitCount_0f7a4_14 ?_
  refine lv_iload_n hx hb dJ6_bitCount_0f7a4_15 rfl (lv_at hl_2 0 rfl) ?_
  refine lv_iconst (v := (2 : Int32)) hx hb dJ6_bitCount_0f7a4_16 (by decide) ?_
  refine lv_iushr hx hb dJ6_bitCount_0f7a4_17 rfl ?_
  refine lv_ldcw (v := (858993459 : Int32)) hx hb hown (hG _ q684) dJ6_bitCount_0f7a4_18 ?_
  refine lv_iand hx hb dJ6_bitCount_0f7a4_21 ?_
  refine lv_iadd hx hb dJ6_bitCount_0f7a4_22 ?_
  refine lv_topi (fun x3 ex3 => ?_)
  replace hf := nm_some ex3 hf
  refine lv_istore_n (lv' := [(0, .int x3)]) hx hb dJ6_bitCount_0f7a4_23 rfl hl_2 (by decide) rfl (fun ls_4 hl_4 => ?_)
  refine lv_iload_n hx hb dJ6_bitCount_0f7a4_24 rfl (lv_at hl_4 0 rfl) ?_
  refine lv_iload_n hx hb dJ6_bitCount_0f7a4_25 rfl (lv_at hl_4 0 rfl) ?_
  refine lv_iconst (v := (4 : Int32)) hx hb dJ6_bitCount_0f7a4_26 (by decide) ?_
  refine lv_iushr hx hb dJ6_bitCount_0f7a4_27 rfl ?_
  refine lv_iadd hx hb dJ6_bitCount_0f7a4_28 ?_
  refine lv_ldcw (v := (252645135 : Int32)) hx hb hown (hG _ q685) dJ6_bitCount_0f7a4_29 ?_
  refine lv_iand hx hb dJ6_bitCount_0f7a4_32 ?_
  refine lv_topi (fun x5 ex5 => ?_)
  replace hf := nm_some ex5 hf
  refine lv_istore_n (lv' := [(0, .int x5)]) hx hb dJ6_bitCount_0f7a4_33 rfl hl_4 (by decide) rfl (fun ls_6 hl_6 => ?_)
  refine lv_iload_n hx hb dJ6_bitCount_0f7a4_34 rfl (lv_at hl_6 0 rfl) ?_
  refine lv_iload_n hx hb dJ6_bitCount_0f7a4_35 rfl (lv_at hl_6 0 rfl) ?_
  refine lv_bipush (v := (8 : Int32)) hx hb dJ6_bitCount_0f7a4_36 (by decide) ?_
  refine lv_iushr hx hb dJ6_bitCount_0f7a4_38 rfl ?_
  refine lv_iadd hx hb dJ6_bitCount_0f7a4_39 ?_
  refine lv_topi (fun x7 ex7 => ?_)
  replace hf := nm_some ex7 hf
  refine lv_istore_n (lv' := [(0, .int x7)]) hx hb dJ6_bitCount_0f7a4_40 rfl hl_6 (by decide) rfl (fun ls_8 hl_8 => ?_)
  refine lv_iload_n hx hb dJ6_bitCount_0f7a4_41 rfl (lv_at hl_8 0 rfl) ?_
  refine lv_iload_n hx hb dJ6_bitCount_0f7a4_42 rfl (lv_at hl_8 0 rfl) ?_
  refine lv_bipush (v := (16 : Int32)) hx hb dJ6_bitCount_0f7a4_43 (by decide) ?_
  refine lv_iushr hx hb dJ6_bitCount_0f7a4_45 rfl ?_
  refine lv_iadd hx hb dJ6_bitCount_0f7a4_46 ?_
  refine lv_topi (fun x9 ex9 => ?_)
  replace hf := nm_some ex9 hf
  refine lv_istore_n (lv' := [(0, .int x9)]) hx hb dJ6_bitCount_0f7a4_47 rfl hl_8 (by decide) rfl (fun ls_10 hl_10 => ?_)
  refine lv_iload_n hx hb dJ6_bitCount_0f7a4_48 rfl (lv_at hl_10 0 rfl) ?_
  refine lv_bipush (v := (63 : Int32)) hx hb dJ6_bitCount_0f7a4_49 (by decide) ?_
  refine lv_iand hx hb dJ6_bitCount_0f7a4_51 ?_
  cases hf
  exact ret H lo _ ls_10 I dJ6_bitCount_0f7a4_52
def C_SD_topSetOf_s1 (a0 : Int32) (G : Nat → Nat → Int32) (x3 : Int32) (x4 : Int32) : Option ((Int32 × Int32) ⊕ (Int32)) :=
if G 21 0 ≤ x4 then
(some (.inr x3))
else
(bd (C_LT_contains a0 x4) fun r12 =>
bd (if r12 = 0 then
(some x3)
else
(bd (C_SD_closedSet G ((1 : Int32) <<< (x4 &&& 31)) a0) fun r23 =>
nm (C_JI_bitCount_ r23) fun r27 =>
nm (C_JI_bitCount_ x3) fun r30 =>
if r30 ≤ r27 then
(some x3)
else
(some r23))) fun x16 =>
nm (x4 + (1 : Int32) : Int32) fun x20 =>
some (.inl (x16, x20)))
def C_SD_topSetOf (G : Nat → Nat → Int32) (a0 : Int32) : Option (Int32) :=
bd (lp (fun q => C_SD_topSetOf_s1 a0 G q.1 q.2) FU (a0, (0 : Int32))) fun x5 =>
some x5
set_option maxRecDepth 100000 in
set_option maxHeartbeats 4000000 in
theorem cC_SD_topSetOf (G : Nat → Nat → Int32) (E : Nat → Nat → Int64) (Dd : Nat → Nat → UInt64) (P : Nat → Option PRec) (Z : List PRec) (a0 : Int32) (rv : Int32)  (hf : C_SD_topSetOf G a0 = some rv) : sMi D (cT cI cJ cD cS) (cW ad cI cJ cD cS) l yX6_topSetOf (ws1 yX6_topSetOf cX6_topSetOf 5 (some .int)) ({ frames := 2, cells := 0, slots := 0, locals := 48 }) [.ref (ad 16), .int a0] (G, E, Dd, P, Z) (rv, (G, E, Dd, P, Z)) := by
  unfold C_SD_topSetOf at hf
  refine sMi_of (by decide) (Nat.le_of_ble_eq_true rfl) ?_
  intro p e R s m args below meth c A Q ls H lo F hRf hRl I hl ret
  obtain ⟨hx, hb, hml, hown, hG⟩ := id F
  replace hl : lv_has ls 5 [(0, .ref (ad 16)), (1, .int a0)] := hl
  refine lv_iload_n hx hb dX6_topSetOf_0 rfl (lv_at hl 1 rfl) ?_
  refine lv_istore_n (lv' := [(2, .int a0), (0, .ref (ad 16)), (1, .int a0)]) hx hb dX6_topSetOf_1 rfl hl (by decide) rfl (fun ls_1 hl_1 => ?_)
  refine lv_iconst (v := (0 : Int32)) hx hb dX6_topSetOf_2 (by decide) ?_
  refine lv_istore_n (lv' := [(3, .int (0 : Int32)), (2, .int a0), (0, .ref (ad 16)), (1, .int a0)]) hx hb dX6_topSetOf_3 rfl hl_1 (by decide) rfl (fun ls_2 hl_2 => ?_)
  obtain ⟨x5, hq1, hf⟩ := bd_some hf
  have K1 : ∀ (H : Heap) (locs : List Loc), sInv D (cT cI cJ cD cS) (cW ad cI cJ cD cS) A s H locs (G, E, Dd, P, Z) → ∀ (ls : Array Slot), lv_has ls 5 [(2, .int x5)] → W p l e R s m args below meth c H locs 0 0 Q (F0 m 51 ls []) := by
    intro H_6 lo_6 I_6 ls_7 hl_7
    refine lv_iload_n hx hb dX6_topSetOf_51 rfl (lv_at hl_7 0 rfl) ?_
    cases hf
    exact ret H_6 lo_6 _ ls_7 I_6 dX6_topSetOf_52
  have L1 : ∀ (n : Nat) (x3 : Int32) (x4 : Int32), lp (fun q => C_SD_topSetOf_s1 a0 G q.1 q.2) n (x3, x4) = some x5 → ∀ (H : Heap) (locs : List Loc), sInv D (cT cI cJ cD cS) (cW ad cI cJ cD cS) A s H locs (G, E, Dd, P, Z) → ∀ (ls : Array Slot), lv_has ls 5 [(0, .ref (ad 16)), (1, .int a0), (2, .int x3), (3, .int x4)] → W p l e R s m args below meth c H locs 0 0 Q (F0 m 4 ls []) := by
    intro n
    induction n with
    | zero => intro x3 x4 hq; exact (lp_0 hq).elim
    | succ n ih1 =>
      intro x3 x4 hq H_9 lo_9 I_9 ls_10 hl_10
      obtain ⟨y1, hf, hK1⟩ := lp_go hq
      replace hf : C_SD_topSetOf_s1 a0 G x3 x4 = some y1 := hf
      unfold C_SD_topSetOf_s1 at hf
      refine lv_iload_n hx hb dX6_topSetOf_4 rfl (lv_at hl_10 3 rfl) ?_
      refine lv_aload_n hx hb dX6_topSetOf_5 rfl (lv_at hl_10 0 rfl) ?_
      refine kgtX6_9_16 F I_9 dX6_topSetOf_6 ?_
      refine lv_icmp_ge (tgt := 51) hx hb dX6_topSetOf_9 (by decide) (fun c36 => ?_) (fun c36 => ?_)
      · replace hf := (if_pos c36).symm.trans hf
        cases hf
        cases (show x3 = x5 from hK1)
        exact K1 H_9 lo_9 I_9 ls_10 (lv_sub hl_10 [2] rfl)
      · replace hf := (if_neg c36).symm.trans hf
        refine lv_iload_n hx hb dX6_topSetOf_12 rfl (lv_at hl_10 1 rfl) ?_
        refine lv_iload_n hx hb dX6_topSetOf_13 rfl (lv_at hl_10 3 rfl) ?_
        obtain ⟨r12, h13, hf⟩ := bd_some hf
        refine s_callSNi (As := [.int a0, .int x4]) (rest := []) F I_9 (cC_LT_contains G E Dd P Z a0 x4 r12 h13) kX6_155 ⟨rfl, rfl⟩ ⟨Nat.le_trans (Nat.le_of_ble_eq_true rfl) hRf, Nat.le_trans (Nat.le_of_ble_eq_true rfl) hRl⟩ rfl rfl hl_10.1 (Nat.le_of_ble_eq_true rfl) ⟨Nat.zero_le _, Nat.zero_le _⟩ dX6_topSetOf_14 ?_
        intro H_14 lo_14 I_14
        obtain ⟨x16, hv22, hf⟩ := bd_some hf
        have J15 : ∀ (H : Heap) (locs : List Loc), sInv D (cT cI cJ cD cS) (cW ad cI cJ cD cS) A s H locs (G, E, Dd, P, Z) → ∀ (ls : Array Slot), lv_has ls 5 [(0, .ref (ad 16)), (1, .int a0), (2, .int x16), (3, .int x4)] → W p l e R s m args below meth c H locs 0 0 Q (F0 m 45 ls []) := by
          intro H_17 lo_17 I_17 ls_18 hl_18
          obtain ⟨x20, ex20⟩ : ∃ y : Int32, y = x4 + (1 : Int32) := ⟨_, rfl⟩
          replace hf := nm_some ex20 hf
          refine lv_iinc (v := x20) (lv' := [(3, .int x20), (0, .ref (ad 16)), (1, .int a0), (2, .int x16)]) hx hb dX6_topSetOf_45 hl_18 (k := 3) rfl (by rw [ex20]; rfl) (by decide) rfl (fun ls_21 hl_21 => ?_)
          refine lv_goto (tgt := 4) hx hb dX6_topSetOf_48 (by decide) ?_
          cases hf
          exact ih1 _ _ hK1 H_17 lo_17 I_17 ls_21 (lv_sub hl_21 [1, 2, 3, 0] rfl)
        replace hf := hv22
        refine lv_if_eq (tgt := 45) hx hb dX6_topSetOf_17 (by decide) (fun c35 => ?_) (fun c35 => ?_)
        · replace hf := (if_pos c35).symm.trans hf
          cases hf
          exact J15 H_14 lo_14 I_14 ls_10 (lv_sub hl_10 [0, 1, 2, 3] rfl)
        · replace hf := (if_neg c35).symm.trans hf
          refine lv_aload_n hx hb dX6_topSetOf_20 rfl (lv_at hl_10 0 rfl) ?_
          refine lv_iconst (v := (1 : Int32)) hx hb dX6_topSetOf_21 (by decide) ?_
          refine lv_iload_n hx hb dX6_topSetOf_22 rfl (lv_at hl_10 3 rfl) ?_
          refine lv_ishl hx hb dX6_topSetOf_23 ?_
          refine lv_iload_n hx hb dX6_topSetOf_24 rfl (lv_at hl_10 1 rfl) ?_
          obtain ⟨r23, h24, hf⟩ := bd_some hf
          refine s_callVi (As := [.int ((1 : Int32) <<< (x4 &&& 31)), .int a0]) (rest := []) F I_14 (cC_SD_closedSet G E Dd P Z ((1 : Int32) <<< (x4 &&& 31)) a0 r23 h24) kX6_158 ⟨rfl, rfl⟩ ⟨Nat.le_trans (Nat.le_of_ble_eq_true rfl) hRf, Nat.le_trans (Nat.le_of_ble_eq_true rfl) hRl⟩ (16) 6 rfl rfl rfl rfl rfl hl_10.1 (Nat.le_of_ble_eq_true rfl) ⟨Nat.zero_le _, Nat.zero_le _⟩ dX6_topSetOf_25 ?_
          intro H_25 lo_25 I_25
          refine lv_istore (lv' := [(4, .int r23), (0, .ref (ad 16)), (1, .int a0), (2, .int x3), (3, .int x4)]) hx hb dX6_topSetOf_28 hl_10 (by decide) rfl (fun ls_26 hl_26 => ?_)
          refine lv_iload hx hb dX6_topSetOf_30 (lv_at hl_26 0 rfl) ?_
          obtain ⟨r27, h28⟩ : ∃ z, z = C_JI_bitCount_ r23 := ⟨_, rfl⟩
          replace hf := nm_some h28 hf
          refine s_callSi (As := [.int r23]) (rest := []) F I_25 (cC_JI_bitCount_ G E Dd P Z r23 r27 h28) kX6_161 ⟨rfl, rfl⟩ ⟨Nat.le_trans (Nat.le_of_ble_eq_true rfl) hRf, Nat.le_trans (Nat.le_of_ble_eq_true rfl) hRl⟩ rfl rfl hl_26.1 (Nat.le_of_ble_eq_true rfl) ⟨Nat.zero_le _, Nat.zero_le _⟩ dX6_topSetOf_32 ?_
          intro H_29 lo_29 I_29
          refine lv_iload_n hx hb dX6_topSetOf_35 rfl (lv_at hl_26 3 rfl) ?_
          obtain ⟨r30, h31⟩ : ∃ z, z = C_JI_bitCount_ x3 := ⟨_, rfl⟩
          replace hf := nm_some h31 hf
          refine s_callSi (As := [.int x3]) (rest := [.int r27]) F I_29 (cC_JI_bitCount_ G E Dd P Z x3 r30 h31) kX6_161 ⟨rfl, rfl⟩ ⟨Nat.le_trans (Nat.le_of_ble_eq_true rfl) hRf, Nat.le_trans (Nat.le_of_ble_eq_true rfl) hRl⟩ rfl rfl hl_26.1 (Nat.le_of_ble_eq_true rfl) ⟨Nat.zero_le _, Nat.zero_le _⟩ dX6_topSetOf_36 ?_
          intro H_32 lo_32 I_32
          refine lv_icmp_ge (tgt := 45) hx hb dX6_topSetOf_39 (by decide) (fun c34 => ?_) (fun c34 => ?_)
          · replace hf := (if_pos c34).symm.trans hf
            cases hf
            exact J15 H_32 lo_32 I_32 ls_26 (lv_sub hl_26 [1, 2, 3, 4] rfl)
          · replace hf := (if_neg c34).symm.trans hf
            refine lv_iload hx hb dX6_topSetOf_42 (lv_at hl_26 0 rfl) ?_
            refine lv_istore_n (lv' := [(2, .int r23), (4, .int r23), (0, .ref (ad 16)), (1, .int a0), (3, .int x4)]) hx hb dX6_topSetOf_44 rfl hl_26 (by decide) rfl (fun ls_33 hl_33 => ?_)
            cases hf
            exact J15 H_32 lo_32 I_32 ls_33 (lv_sub hl_33 [2, 3, 0, 4] rfl)
  exact L1 FU _ _ hq1 H lo I ls_2 (lv_sub hl_2 [2, 3, 1, 0] rfl)
def C_SD_findLayers_s2 (x17 : Int32) (r26 : Int32) (x31 : Int32) (G32 : Nat → Nat → Int32) : Option ((Int32 × (Nat → Nat → Int32)) ⊕ ((Nat → Nat → Int32))) :=
if G32 21 0 ≤ x31 then
(some (.inr G32))
else
(bd (C_LT_contains r26 x31) fun r46 =>
bd (if r46 = 0 then
(some G32)
else
(ri 8 x31 <|
nm (wr G32 26 x31 x17) fun G58 =>
some G58)) fun G50 =>
nm (x31 + (1 : Int32) : Int32) fun x54 =>
some (.inl (x54, G50)))
def C_SD_findLayers_s1  (x16 : Int32) (x17 : Int32) (G18 : Nat → Nat → Int32) : Option ((Int32 × Int32 × (Nat → Nat → Int32)) ⊕ ((Nat → Nat → Int32))) :=
if G18 21 0 ≤ x17 then
(some (.inr G18))
else
(if x16 = 0 then
(some (.inr G18))
else
(bd (C_SD_topSetOf G18 x16) fun r26 =>
bd (lp (fun q => C_SD_findLayers_s2 x17 r26 q.1 q.2) FU ((0 : Int32), G18)) fun G33 =>
nm (wf G33 27 ((G33 27 0) + (1 : Int32))) fun G37 =>
nm (x16 &&& (r26 ^^^ (-1 : Int32)) : Int32) fun x39 =>
nm (x17 + (1 : Int32) : Int32) fun x41 =>
some (.inl (x39, x41, G37))))
def C_SD_findLayers (G : Nat → Nat → Int32) : Option ((Nat → Nat → Int32)) :=
if G 29 0 = 0 then
(nm (wf G 29 (1 : Int32)) fun G1 =>
bd (C_SD_findBeaters G1) fun G3 =>
nm (((1 : Int32) <<< ((G3 21 0) &&& 31)) - (1 : Int32) : Int32) fun x6 =>
bd (C_SD_topSetOf G3 x6) fun r8 =>
nm (wf G3 28 r8) fun G11 =>
nm (wf G11 27 (0 : Int32)) fun G13 =>
bd (lp (fun q => C_SD_findLayers_s1 q.1 q.2.1 q.2.2) FU (x6, (0 : Int32), G13)) fun G19 =>
some G19)
else
(some G)
set_option maxRecDepth 100000 in
set_option maxHeartbeats 4000000 in
theorem cC_SD_findLayers (G : Nat → Nat → Int32) (E : Nat → Nat → Int64) (Dd : Nat → Nat → UInt64) (P : Nat → Option PRec) (Z : List PRec)   (newG : Nat → Nat → Int32) (hf : C_SD_findLayers G = some newG) : sMv D (cT cI cJ cD cS) (cW ad cI cJ cD cS) l yX6_findLayers (ws1 yX6_findLayers cX6_findLayers 5 none) ({ frames := 3, cells := 0, slots := 0, locals := 72 }) [.ref (ad 16)] (G, E, Dd, P, Z) (newG, E, Dd, P, Z) := by
  unfold C_SD_findLayers at hf
  refine sMv_of (by decide) (Nat.le_of_ble_eq_true rfl) ?_
  intro p e R s m args below meth c A Q ls H lo F hRf hRl I hl ret
  obtain ⟨hx, hb, hml, hown, hG⟩ := id F
  replace hl : lv_has ls 5 [(0, .ref (ad 16))] := hl
  refine lv_aload_n hx hb dX6_findLayers_0 rfl (lv_at hl 0 rfl) ?_
  refine kgtX6_44_16 F I dX6_findLayers_1 ?_
  refine lv_if_eq (tgt := 8) hx hb dX6_findLayers_4 (by decide) (fun c64 => ?_) (fun c64 => ?_)
  · replace hf := (if_pos c64).symm.trans hf
    refine lv_aload_n hx hb dX6_findLayers_8 rfl (lv_at hl 0 rfl) ?_
    refine lv_iconst (v := (1 : Int32)) hx hb dX6_findLayers_9 (by decide) ?_
    refine kptX6_44_16 F I (by decide) dX6_findLayers_10 ?_
    intro H_2 lo_2 G1 eG1 I_2
    replace hf := nm_some eG1 hf
    refine lv_aload_n hx hb dX6_findLayers_13 rfl (lv_at hl 0 rfl) ?_
    obtain ⟨G3, h4, hf⟩ := bd_some hf
    refine s_callVv (As := []) (rest := []) F I_2 (cC_SD_findBeaters G1 E Dd P Z G3 h4) kX6_149 ⟨rfl, rfl⟩ ⟨Nat.le_trans (Nat.le_of_ble_eq_true rfl) hRf, Nat.le_trans (Nat.le_of_ble_eq_true rfl) hRl⟩ (16) 6 rfl rfl rfl rfl rfl hl.1 (Nat.le_of_ble_eq_true rfl) ⟨Nat.zero_le _, Nat.zero_le _⟩ dX6_findLayers_14 ?_
    intro H_5 lo_5 I_5
    refine lv_iconst (v := (1 : Int32)) hx hb dX6_findLayers_17 (by decide) ?_
    refine lv_aload_n hx hb dX6_findLayers_18 rfl (lv_at hl 0 rfl) ?_
    refine kgtX6_9_16 F I_5 dX6_findLayers_19 ?_
    refine lv_ishl hx hb dX6_findLayers_22 ?_
    refine lv_iconst (v := (1 : Int32)) hx hb dX6_findLayers_23 (by decide) ?_
    refine lv_isub hx hb dX6_findLayers_24 ?_
    refine lv_topi (fun x6 ex6 => ?_)
    replace hf := nm_some ex6 hf
    refine lv_istore_n (lv' := [(1, .int x6), (0, .ref (ad 16))]) hx hb dX6_findLayers_25 rfl hl (by decide) rfl (fun ls_7 hl_7 => ?_)
    refine lv_aload_n hx hb dX6_findLayers_26 rfl (lv_at hl_7 1 rfl) ?_
    refine lv_aload_n hx hb dX6_findLayers_27 rfl (lv_at hl_7 1 rfl) ?_
    refine lv_iload_n hx hb dX6_findLayers_28 rfl (lv_at hl_7 0 rfl) ?_
    obtain ⟨r8, h9, hf⟩ := bd_some hf
    refine s_callVi (As := [.int x6]) (rest := [.ref (ad 16)]) F I_5 (cC_SD_topSetOf G3 E Dd P Z x6 r8 h9) kX6_152 ⟨rfl, rfl⟩ ⟨Nat.le_trans (Nat.le_of_ble_eq_true rfl) hRf, Nat.le_trans (Nat.le_of_ble_eq_true rfl) hRl⟩ (16) 6 rfl rfl rfl rfl rfl hl_7.1 (Nat.le_of_ble_eq_true rfl) ⟨Nat.zero_le _, Nat.zero_le _⟩ dX6_findLayers_29 ?_
    intro H_10 lo_10 I_10
    refine kptX6_41_16 F I_10 dX6_findLayers_32 ?_
    intro H_12 lo_12 G11 eG11 I_12
    replace hf := nm_some eG11 hf
    refine lv_aload_n hx hb dX6_findLayers_35 rfl (lv_at hl_7 1 rfl) ?_
    refine lv_iconst (v := (0 : Int32)) hx hb dX6_findLayers_36 (by decide) ?_
    refine kptX6_38_16 F I_12 dX6_findLayers_37 ?_
    intro H_14 lo_14 G13 eG13 I_14
    replace hf := nm_some eG13 hf
    refine lv_iconst (v := (0 : Int32)) hx hb dX6_findLayers_40 (by decide) ?_
    refine lv_istore_n (lv' := [(2, .int (0 : Int32)), (1, .int x6), (0, .ref (ad 16))]) hx hb dX6_findLayers_41 rfl hl_7 (by decide) rfl (fun ls_15 hl_15 => ?_)
    obtain ⟨G19, hq1, hf⟩ := bd_some hf
    have K1 : ∀ (H : Heap) (locs : List Loc), sInv D (cT cI cJ cD cS) (cW ad cI cJ cD cS) A s H locs (G19, E, Dd, P, Z) → ∀ (ls : Array Slot), lv_has ls 5 [] → W p l e R s m args below meth c H locs 0 0 Q (F0 m 117 ls []) := by
      intro H_20 lo_20 I_20 ls_21 hl_21
      cases hf
      exact ret H_20 lo_20 _ ls_21 I_20 dX6_findLayers_117
    have L1 : ∀ (n : Nat) (x16 : Int32) (x17 : Int32) (G18 : Nat → Nat → Int32), lp (fun q => C_SD_findLayers_s1 q.1 q.2.1 q.2.2) n (x16, x17, G18) = some G19 → ∀ (H : Heap) (locs : List Loc), sInv D (cT cI cJ cD cS) (cW ad cI cJ cD cS) A s H locs (G18, E, Dd, P, Z) → ∀ (ls : Array Slot), lv_has ls 5 [(0, .ref (ad 16)), (1, .int x16), (2, .int x17)] → W p l e R s m args below meth c H locs 0 0 Q (F0 m 42 ls []) := by
      intro n
      induction n with
      | zero => intro x16 x17 G18 hq; exact (lp_0 hq).elim
      | succ n ih1 =>
        intro x16 x17 G18 hq H_23 lo_23 I_23 ls_24 hl_24
        obtain ⟨y1, hf, hK1⟩ := lp_go hq
        replace hf : C_SD_findLayers_s1 x16 x17 G18 = some y1 := hf
        unfold C_SD_findLayers_s1 at hf
        refine lv_iload_n hx hb dX6_findLayers_42 rfl (lv_at hl_24 2 rfl) ?_
        refine lv_aload_n hx hb dX6_findLayers_43 rfl (lv_at hl_24 0 rfl) ?_
        refine kgtX6_9_16 F I_23 dX6_findLayers_44 ?_
        refine lv_icmp_ge (tgt := 117) hx hb dX6_findLayers_47 (by decide) (fun c63 => ?_) (fun c63 => ?_)
        · replace hf := (if_pos c63).symm.trans hf
          cases hf
          cases (show G18 = G19 from hK1)
          exact K1 H_23 lo_23 I_23 ls_24 (lv_sub hl_24 [] rfl)
        · replace hf := (if_neg c63).symm.trans hf
          refine lv_iload_n hx hb dX6_findLayers_50 rfl (lv_at hl_24 1 rfl) ?_
          refine lv_if_eq (tgt := 117) hx hb dX6_findLayers_51 (by decide) (fun c62 => ?_) (fun c62 => ?_)
          · replace hf := (if_pos c62).symm.trans hf
            cases hf
            cases (show G18 = G19 from hK1)
            exact K1 H_23 lo_23 I_23 ls_24 (lv_sub hl_24 [] rfl)
          · replace hf := (if_neg c62).symm.trans hf
            refine lv_aload_n hx hb dX6_findLayers_54 rfl (lv_at hl_24 0 rfl) ?_
            refine lv_iload_n hx hb dX6_findLayers_55 rfl (lv_at hl_24 1 rfl) ?_
            obtain ⟨r26, h27, hf⟩ := bd_some hf
            refine s_callVi (As := [.int x16]) (rest := []) F I_23 (cC_SD_topSetOf G18 E Dd P Z x16 r26 h27) kX6_152 ⟨rfl, rfl⟩ ⟨Nat.le_trans (Nat.le_of_ble_eq_true rfl) hRf, Nat.le_trans (Nat.le_of_ble_eq_true rfl) hRl⟩ (16) 6 rfl rfl rfl rfl rfl hl_24.1 (Nat.le_of_ble_eq_true rfl) ⟨Nat.zero_le _, Nat.zero_le _⟩ dX6_findLayers_56 ?_
            intro H_28 lo_28 I_28
            refine lv_istore_n (lv' := [(3, .int r26), (0, .ref (ad 16)), (1, .int x16), (2, .int x17)]) hx hb dX6_findLayers_59 rfl hl_24 (by decide) rfl (fun ls_29 hl_29 => ?_)
            refine lv_iconst (v := (0 : Int32)) hx hb dX6_findLayers_60 (by decide) ?_
            refine lv_istore (lv' := [(4, .int (0 : Int32)), (3, .int r26), (0, .ref (ad 16)), (1, .int x16), (2, .int x17)]) hx hb dX6_findLayers_61 hl_29 (by decide) rfl (fun ls_30 hl_30 => ?_)
            obtain ⟨G33, hq2, hf⟩ := bd_some hf
            have K2 : ∀ (H : Heap) (locs : List Loc), sInv D (cT cI cJ cD cS) (cW ad cI cJ cD cS) A s H locs (G33, E, Dd, P, Z) → ∀ (ls : Array Slot), lv_has ls 5 [(0, .ref (ad 16)), (1, .int x16), (2, .int x17), (3, .int r26)] → W p l e R s m args below meth c H locs 0 0 Q (F0 m 95 ls []) := by
              intro H_34 lo_34 I_34 ls_35 hl_35
              refine lv_aload_n hx hb dX6_findLayers_95 rfl (lv_at hl_35 0 rfl) ?_
              refine lv_dup hx hb dX6_findLayers_96 rfl ?_
              refine kgtX6_38_16 F I_34 dX6_findLayers_97 ?_
              refine lv_iconst (v := (1 : Int32)) hx hb dX6_findLayers_100 (by decide) ?_
              refine lv_iadd hx hb dX6_findLayers_101 ?_
              refine kptX6_38_16 F I_34 dX6_findLayers_102 ?_
              intro H_38 lo_38 G37 eG37 I_38
              replace hf := nm_some eG37 hf
              refine lv_iload_n hx hb dX6_findLayers_105 rfl (lv_at hl_35 1 rfl) ?_
              refine lv_iload_n hx hb dX6_findLayers_106 rfl (lv_at hl_35 3 rfl) ?_
              refine lv_iconst (v := (-1 : Int32)) hx hb dX6_findLayers_107 (by decide) ?_
              refine lv_ixor hx hb dX6_findLayers_108 ?_
              refine lv_iand hx hb dX6_findLayers_109 ?_
              refine lv_topi (fun x39 ex39 => ?_)
              replace hf := nm_some ex39 hf
              refine lv_istore_n (lv' := [(1, .int x39), (0, .ref (ad 16)), (2, .int x17), (3, .int r26)]) hx hb dX6_findLayers_110 rfl hl_35 (by decide) rfl (fun ls_40 hl_40 => ?_)
              obtain ⟨x41, ex41⟩ : ∃ y : Int32, y = x17 + (1 : Int32) := ⟨_, rfl⟩
              replace hf := nm_some ex41 hf
              refine lv_iinc (v := x41) (lv' := [(2, .int x41), (1, .int x39), (0, .ref (ad 16)), (3, .int r26)]) hx hb dX6_findLayers_111 hl_40 (k := 2) rfl (by rw [ex41]; rfl) (by decide) rfl (fun ls_42 hl_42 => ?_)
              refine lv_goto (tgt := 42) hx hb dX6_findLayers_114 (by decide) ?_
              cases hf
              exact ih1 _ _ _ hK1 H_38 lo_38 I_38 ls_42 (lv_sub hl_42 [2, 1, 0] rfl)
            have L2 : ∀ (n : Nat) (x31 : Int32) (G32 : Nat → Nat → Int32), lp (fun q => C_SD_findLayers_s2 x17 r26 q.1 q.2) n (x31, G32) = some G33 → ∀ (H : Heap) (locs : List Loc), sInv D (cT cI cJ cD cS) (cW ad cI cJ cD cS) A s H locs (G32, E, Dd, P, Z) → ∀ (ls : Array Slot), lv_has ls 5 [(0, .ref (ad 16)), (1, .int x16), (2, .int x17), (3, .int r26), (4, .int x31)] → W p l e R s m args below meth c H locs 0 0 Q (F0 m 63 ls []) := by
              intro n
              induction n with
              | zero => intro x31 G32 hq; exact (lp_0 hq).elim
              | succ n ih2 =>
                intro x31 G32 hq H_43 lo_43 I_43 ls_44 hl_44
                obtain ⟨y2, hf, hK2⟩ := lp_go hq
                replace hf : C_SD_findLayers_s2 x17 r26 x31 G32 = some y2 := hf
                unfold C_SD_findLayers_s2 at hf
                refine lv_iload hx hb dX6_findLayers_63 (lv_at hl_44 4 rfl) ?_
                refine lv_aload_n hx hb dX6_findLayers_65 rfl (lv_at hl_44 0 rfl) ?_
                refine kgtX6_9_16 F I_43 dX6_findLayers_66 ?_
                refine lv_icmp_ge (tgt := 95) hx hb dX6_findLayers_69 (by decide) (fun c61 => ?_) (fun c61 => ?_)
                · replace hf := (if_pos c61).symm.trans hf
                  cases hf
                  cases (show G32 = G33 from hK2)
                  exact K2 H_43 lo_43 I_43 ls_44 (lv_sub hl_44 [0, 1, 2, 3] rfl)
                · replace hf := (if_neg c61).symm.trans hf
                  refine lv_iload_n hx hb dX6_findLayers_72 rfl (lv_at hl_44 3 rfl) ?_
                  refine lv_iload hx hb dX6_findLayers_73 (lv_at hl_44 4 rfl) ?_
                  obtain ⟨r46, h47, hf⟩ := bd_some hf
                  refine s_callSNi (As := [.int r26, .int x31]) (rest := []) F I_43 (cC_LT_contains G32 E Dd P Z r26 x31 r46 h47) kX6_155 ⟨rfl, rfl⟩ ⟨Nat.le_trans (Nat.le_of_ble_eq_true rfl) hRf, Nat.le_trans (Nat.le_of_ble_eq_true rfl) hRl⟩ rfl rfl hl_44.1 (Nat.le_of_ble_eq_true rfl) ⟨Nat.zero_le _, Nat.zero_le _⟩ dX6_findLayers_75 ?_
                  intro H_48 lo_48 I_48
                  obtain ⟨G50, hv56, hf⟩ := bd_some hf
                  have J49 : ∀ (H : Heap) (locs : List Loc), sInv D (cT cI cJ cD cS) (cW ad cI cJ cD cS) A s H locs (G50, E, Dd, P, Z) → ∀ (ls : Array Slot), lv_has ls 5 [(0, .ref (ad 16)), (1, .int x16), (2, .int x17), (3, .int r26), (4, .int x31)] → W p l e R s m args below meth c H locs 0 0 Q (F0 m 89 ls []) := by
                    intro H_51 lo_51 I_51 ls_52 hl_52
                    obtain ⟨x54, ex54⟩ : ∃ y : Int32, y = x31 + (1 : Int32) := ⟨_, rfl⟩
                    replace hf := nm_some ex54 hf
                    refine lv_iinc (v := x54) (lv' := [(4, .int x54), (0, .ref (ad 16)), (1, .int x16), (2, .int x17), (3, .int r26)]) hx hb dX6_findLayers_89 hl_52 (k := 4) rfl (by rw [ex54]; rfl) (by decide) rfl (fun ls_55 hl_55 => ?_)
                    refine lv_goto (tgt := 63) hx hb dX6_findLayers_92 (by decide) ?_
                    cases hf
                    exact ih2 _ _ hK2 H_51 lo_51 I_51 ls_55 (lv_sub hl_55 [1, 2, 3, 4, 0] rfl)
                  replace hf := hv56
                  refine lv_if_eq (tgt := 89) hx hb dX6_findLayers_78 (by decide) (fun c60 => ?_) (fun c60 => ?_)
                  · replace hf := (if_pos c60).symm.trans hf
                    cases hf
                    exact J49 H_48 lo_48 I_48 ls_44 (lv_sub hl_44 [0, 1, 2, 3, 4] rfl)
                  · replace hf := (if_neg c60).symm.trans hf
                    refine lv_aload_n hx hb dX6_findLayers_81 rfl (lv_at hl_44 0 rfl) ?_
                    refine kgtX6_35_16 F I_48 dX6_findLayers_82 ?_
                    refine lv_iload hx hb dX6_findLayers_85 (lv_at hl_44 4 rfl) ?_
                    refine lv_iload_n hx hb dX6_findLayers_87 rfl (lv_at hl_44 2 rfl) ?_
                    obtain ⟨g57, hf⟩ := ri_some hf
                    refine kas21 F I_48 g57 dX6_findLayers_88 ?_
                    intro H_59 lo_59 G58 eG58 I_59
                    replace hf := nm_some eG58 hf
                    cases hf
                    exact J49 H_59 lo_59 I_59 ls_44 (lv_sub hl_44 [0, 1, 2, 3, 4] rfl)
            exact L2 FU _ _ hq2 H_28 lo_28 I_28 ls_30 (lv_sub hl_30 [2, 3, 4, 1, 0] rfl)
    exact L1 FU _ _ _ hq1 H_14 lo_14 I_14 ls_15 (lv_sub hl_15 [2, 1, 0] rfl)
  · replace hf := (if_neg c64).symm.trans hf
    cases hf
    exact ret H lo _ ls I dX6_findLayers_7
def C_SD_propertyOf (G : Nat → Nat → Int32) (a1 : Int32) (a2 : Int32) : Option (Int32 × (Nat → Nat → Int32)) :=
if a2 = (0 : Int32) then
(ri 8 (a1 &&& (7 : Int32)) <|
some (G 23 (a1 &&& (7 : Int32)).toNatClampNeg, G))
else if a2 = (1 : Int32) then
(bd (C_SD_rankIn_18 G a1) fun r4 =>
some (r4, G))
else if a2 = (2 : Int32) then
(bd2 (C_SD_isStable G a1) fun r8 G9 =>
if r8 = 0 then
(some ((0 : Int32), G9))
else
(some ((1 : Int32), G9)))
else if a2 = (3 : Int32) then
(bd (C_SD_dominanceOf G a1) fun r14 =>
some (r14, G))
else if a2 = (4 : Int32) then
(bd (C_SD_findLayers G) fun G18 =>
ri 8 (a1 &&& (7 : Int32)) <|
some (G18 26 (a1 &&& (7 : Int32)).toNatClampNeg, G18))
else (bd (C_BO_find_22 G (G 21 0)) fun G22 =>
bd (C_BO_placeOf G22 a1) fun r25 =>
some (r25, G22))
set_option maxRecDepth 100000 in
set_option maxHeartbeats 4000000 in
theorem cC_SD_propertyOf (G : Nat → Nat → Int32) (E : Nat → Nat → Int64) (Dd : Nat → Nat → UInt64) (P : Nat → Option PRec) (Z : List PRec) (a1 : Int32) (a2 : Int32) (rv : Int32) (newG : Nat → Nat → Int32) (hf : C_SD_propertyOf G a1 a2 = some (rv, newG)) : sMi D (cT cI cJ cD cS) (cW ad cI cJ cD cS) l yX6_propertyOf (ws1 yX6_propertyOf cX6_propertyOf 4 (some .int)) ({ frames := 4, cells := 0, slots := 0, locals := 96 }) [.ref (ad 16), .ref (ad 2), .int a1, .int a2] (G, E, Dd, P, Z) (rv, (newG, E, Dd, P, Z)) := by
  unfold C_SD_propertyOf at hf
  refine sMi_of (by decide) (Nat.le_of_ble_eq_true rfl) ?_
  intro p e R s m args below meth c A Q ls H lo F hRf hRl I hl ret
  obtain ⟨hx, hb, hml, hown, hG⟩ := id F
  replace hl : lv_has ls 4 [(0, .ref (ad 16)), (1, .ref (ad 2)), (2, .int a1), (3, .int a2)] := hl
  refine lv_iload_n hx hb dX6_propertyOf_0 rfl (lv_at hl 3 rfl) ?_
  by_cases c1 : a2 = (0 : Int32)
  · replace hf := (if_pos c1).symm.trans hf
    refine lv_tableIn (off := 35) (tgt := 36) hx hb dX6_propertyOf_1 (by rw [c1]; decide) (by rw [c1]; decide) (by rw [c1]; rfl) (by decide) ?_
    refine lv_aload_n hx hb dX6_propertyOf_36 rfl (lv_at hl 0 rfl) ?_
    refine kgtX6_26_16 F I dX6_propertyOf_37 ?_
    refine lv_iload_n hx hb dX6_propertyOf_40 rfl (lv_at hl 2 rfl) ?_
    refine lv_bipush (v := (7 : Int32)) hx hb dX6_propertyOf_41 (by decide) ?_
    refine lv_iand hx hb dX6_propertyOf_43 ?_
    obtain ⟨g2, hf⟩ := ri_some hf
    refine kal18 F I g2 dX6_propertyOf_44 ?_
    cases hf
    exact ret H lo _ ls I dX6_propertyOf_45
  replace hf := (if_neg c1).symm.trans hf
  by_cases c3 : a2 = (1 : Int32)
  · replace hf := (if_pos c3).symm.trans hf
    refine lv_tableIn (off := 45) (tgt := 46) hx hb dX6_propertyOf_1 (by rw [c3]; decide) (by rw [c3]; decide) (by rw [c3]; rfl) (by decide) ?_
    refine lv_aload_n hx hb dX6_propertyOf_46 rfl (lv_at hl 0 rfl) ?_
    refine lv_aload_n hx hb dX6_propertyOf_47 rfl (lv_at hl 0 rfl) ?_
    refine kgtX6_26_16 F I dX6_propertyOf_48 ?_
    refine lv_iload_n hx hb dX6_propertyOf_51 rfl (lv_at hl 2 rfl) ?_
    obtain ⟨r4, h5, hf⟩ := bd_some hf
    refine s_callVi (As := [.ref (ad 18), .int a1]) (rest := []) F I (cC_SD_rankIn_18 G E Dd P Z a1 r4 h5) kX6_93 ⟨rfl, rfl⟩ ⟨Nat.le_trans (Nat.le_of_ble_eq_true rfl) hRf, Nat.le_trans (Nat.le_of_ble_eq_true rfl) hRl⟩ (16) 6 rfl rfl rfl rfl rfl hl.1 (Nat.le_of_ble_eq_true rfl) ⟨Nat.zero_le _, Nat.zero_le _⟩ dX6_propertyOf_52 ?_
    intro H_6 lo_6 I_6
    cases hf
    exact ret H_6 lo_6 _ ls I_6 dX6_propertyOf_55
  replace hf := (if_neg c3).symm.trans hf
  by_cases c7 : a2 = (2 : Int32)
  · replace hf := (if_pos c7).symm.trans hf
    refine lv_tableIn (off := 55) (tgt := 56) hx hb dX6_propertyOf_1 (by rw [c7]; decide) (by rw [c7]; decide) (by rw [c7]; rfl) (by decide) ?_
    refine lv_aload_n hx hb dX6_propertyOf_56 rfl (lv_at hl 0 rfl) ?_
    refine lv_aload_n hx hb dX6_propertyOf_57 rfl (lv_at hl 1 rfl) ?_
    refine lv_iload_n hx hb dX6_propertyOf_58 rfl (lv_at hl 2 rfl) ?_
    obtain ⟨r8, G9, h10, hf⟩ := bd2_some hf
    refine s_callVi (As := [.ref (ad 2), .int a1]) (rest := []) F I (cC_SD_isStable G E Dd P Z a1 r8 G9 h10) kX6_97 ⟨rfl, rfl⟩ ⟨Nat.le_trans (Nat.le_of_ble_eq_true rfl) hRf, Nat.le_trans (Nat.le_of_ble_eq_true rfl) hRl⟩ (16) 6 rfl rfl rfl rfl rfl hl.1 (Nat.le_of_ble_eq_true rfl) ⟨Nat.zero_le _, Nat.zero_le _⟩ dX6_propertyOf_59 ?_
    intro H_11 lo_11 I_11
    refine lv_if_eq (tgt := 69) hx hb dX6_propertyOf_62 (by decide) (fun c12 => ?_) (fun c12 => ?_)
    · replace hf := (if_pos c12).symm.trans hf
      refine lv_iconst (v := (0 : Int32)) hx hb dX6_propertyOf_69 (by decide) ?_
      cases hf
      exact ret H_11 lo_11 _ ls I_11 dX6_propertyOf_70
    · replace hf := (if_neg c12).symm.trans hf
      refine lv_iconst (v := (1 : Int32)) hx hb dX6_propertyOf_65 (by decide) ?_
      refine lv_goto (tgt := 70) hx hb dX6_propertyOf_66 (by decide) ?_
      cases hf
      exact ret H_11 lo_11 _ ls I_11 dX6_propertyOf_70
  replace hf := (if_neg c7).symm.trans hf
  by_cases c13 : a2 = (3 : Int32)
  · replace hf := (if_pos c13).symm.trans hf
    refine lv_tableIn (off := 70) (tgt := 71) hx hb dX6_propertyOf_1 (by rw [c13]; decide) (by rw [c13]; decide) (by rw [c13]; rfl) (by decide) ?_
    refine lv_aload_n hx hb dX6_propertyOf_71 rfl (lv_at hl 0 rfl) ?_
    refine lv_iload_n hx hb dX6_propertyOf_72 rfl (lv_at hl 2 rfl) ?_
    obtain ⟨r14, h15, hf⟩ := bd_some hf
    refine s_callVi (As := [.int a1]) (rest := []) F I (cC_SD_dominanceOf G E Dd P Z a1 r14 h15) kX6_101 ⟨rfl, rfl⟩ ⟨Nat.le_trans (Nat.le_of_ble_eq_true rfl) hRf, Nat.le_trans (Nat.le_of_ble_eq_true rfl) hRl⟩ (16) 6 rfl rfl rfl rfl rfl hl.1 (Nat.le_of_ble_eq_true rfl) ⟨Nat.zero_le _, Nat.zero_le _⟩ dX6_propertyOf_73 ?_
    intro H_16 lo_16 I_16
    cases hf
    exact ret H_16 lo_16 _ ls I_16 dX6_propertyOf_76
  replace hf := (if_neg c13).symm.trans hf
  by_cases c17 : a2 = (4 : Int32)
  · replace hf := (if_pos c17).symm.trans hf
    refine lv_tableIn (off := 76) (tgt := 77) hx hb dX6_propertyOf_1 (by rw [c17]; decide) (by rw [c17]; decide) (by rw [c17]; rfl) (by decide) ?_
    refine lv_aload_n hx hb dX6_propertyOf_77 rfl (lv_at hl 0 rfl) ?_
    obtain ⟨G18, h19, hf⟩ := bd_some hf
    refine s_callVv (As := []) (rest := []) F I (cC_SD_findLayers G E Dd P Z G18 h19) kX6_104 ⟨rfl, rfl⟩ ⟨Nat.le_trans (Nat.le_of_ble_eq_true rfl) hRf, Nat.le_trans (Nat.le_of_ble_eq_true rfl) hRl⟩ (16) 6 rfl rfl rfl rfl rfl hl.1 (Nat.le_of_ble_eq_true rfl) ⟨Nat.zero_le _, Nat.zero_le _⟩ dX6_propertyOf_78 ?_
    intro H_20 lo_20 I_20
    refine lv_aload_n hx hb dX6_propertyOf_81 rfl (lv_at hl 0 rfl) ?_
    refine kgtX6_35_16 F I_20 dX6_propertyOf_82 ?_
    refine lv_iload_n hx hb dX6_propertyOf_85 rfl (lv_at hl 2 rfl) ?_
    refine lv_bipush (v := (7 : Int32)) hx hb dX6_propertyOf_86 (by decide) ?_
    refine lv_iand hx hb dX6_propertyOf_88 ?_
    obtain ⟨g21, hf⟩ := ri_some hf
    refine kal21 F I_20 g21 dX6_propertyOf_89 ?_
    cases hf
    exact ret H_20 lo_20 _ ls I_20 dX6_propertyOf_90
  replace hf := (if_neg c17).symm.trans hf
  refine lv_tableOut (tgt := 91) hx hb dX6_propertyOf_1 (tsw4 c1 c3 c7 c13 c17) (by decide) ?_
  refine lv_aload_n hx hb dX6_propertyOf_91 rfl (lv_at hl 0 rfl) ?_
  refine kgtX6_51_16 F I dX6_propertyOf_92 ?_
  refine lv_aload_n hx hb dX6_propertyOf_95 rfl (lv_at hl 0 rfl) ?_
  refine kgtX6_22_16 F I dX6_propertyOf_96 ?_
  refine lv_aload_n hx hb dX6_propertyOf_99 rfl (lv_at hl 0 rfl) ?_
  refine kgtX6_9_16 F I dX6_propertyOf_100 ?_
  obtain ⟨G22, h23, hf⟩ := bd_some hf
  refine s_callVv (As := [.ref (ad 22), .int (G 21 0)]) (rest := []) F I (cC_BO_find_22 G E Dd P Z (G 21 0) G22 h23) kX6_107 ⟨rfl, rfl⟩ ⟨Nat.le_trans (Nat.le_of_ble_eq_true rfl) hRf, Nat.le_trans (Nat.le_of_ble_eq_true rfl) hRl⟩ (24) 0 rfl rfl rfl rfl rfl hl.1 (Nat.le_of_ble_eq_true rfl) ⟨Nat.zero_le _, Nat.zero_le _⟩ dX6_propertyOf_103 ?_
  intro H_24 lo_24 I_24
  refine lv_aload_n hx hb dX6_propertyOf_106 rfl (lv_at hl 0 rfl) ?_
  refine kgtX6_51_16 F I_24 dX6_propertyOf_107 ?_
  refine lv_iload_n hx hb dX6_propertyOf_110 rfl (lv_at hl 2 rfl) ?_
  obtain ⟨r25, h26, hf⟩ := bd_some hf
  refine s_callVi (As := [.int a1]) (rest := []) F I_24 (cC_BO_placeOf G22 E Dd P Z a1 r25 h26) kX6_111 ⟨rfl, rfl⟩ ⟨Nat.le_trans (Nat.le_of_ble_eq_true rfl) hRf, Nat.le_trans (Nat.le_of_ble_eq_true rfl) hRl⟩ (24) 0 rfl rfl rfl rfl rfl hl.1 (Nat.le_of_ble_eq_true rfl) ⟨Nat.zero_le _, Nat.zero_le _⟩ dX6_propertyOf_111 ?_
  intro H_27 lo_27 I_27
  cases hf
  exact ret H_27 lo_27 _ ls I_27 dX6_propertyOf_114
def C_LE_isRing_22 (G : Nat → Nat → Int32) (a0 : Int32) (a1 : Int32) (a2 : Int32) : Option (Int32) :=
bd (C_LE_isAhead_22 G a0 a1) fun r1 =>
if r1 = 0 then
(some (0 : Int32))
else
(bd (C_LE_isAhead_22 G a1 a2) fun r4 =>
if r4 = 0 then
(some (0 : Int32))
else
(bd (C_LE_isAhead_22 G a2 a0) fun r7 =>
if r7 = 0 then
(some (0 : Int32))
else
(some (1 : Int32))))
set_option maxRecDepth 100000 in
set_option maxHeartbeats 4000000 in
theorem cC_LE_isRing_22 (G : Nat → Nat → Int32) (E : Nat → Nat → Int64) (Dd : Nat → Nat → UInt64) (P : Nat → Option PRec) (Z : List PRec) (a0 : Int32) (a1 : Int32) (a2 : Int32) (rv : Int32)  (hf : C_LE_isRing_22 G a0 a1 a2 = some rv) : sMi D (cT cI cJ cD cS) (cW ad cI cJ cD cS) l yX3_isRing (ws1 yX3_isRing cX3_isRing 4 (some .boolean)) ({ frames := 2, cells := 0, slots := 0, locals := 43 }) [.ref (ad 22), .int a0, .int a1, .int a2] (G, E, Dd, P, Z) (rv, (G, E, Dd, P, Z)) := by
  unfold C_LE_isRing_22 at hf
  refine sMz_of (by decide) (Nat.le_of_ble_eq_true rfl) ?_
  intro p e R s m args below meth c A Q ls H lo F hRf hRl I hl ret
  obtain ⟨hx, hb, hml, hown, hG⟩ := id F
  replace hl : lv_has ls 4 [(0, .ref (ad 22)), (1, .int a0), (2, .int a1), (3, .int a2)] := hl
  refine lv_aload_n hx hb dX3_isRing_0 rfl (lv_at hl 0 rfl) ?_
  refine lv_iload_n hx hb dX3_isRing_1 rfl (lv_at hl 1 rfl) ?_
  refine lv_iload_n hx hb dX3_isRing_2 rfl (lv_at hl 2 rfl) ?_
  obtain ⟨r1, h2, hf⟩ := bd_some hf
  refine s_callVi (As := [.int a0, .int a1]) (rest := []) F I (cC_LE_isAhead_22 G E Dd P Z a0 a1 r1 h2) kX3_61 ⟨rfl, rfl⟩ ⟨Nat.le_trans (Nat.le_of_ble_eq_true rfl) hRf, Nat.le_trans (Nat.le_of_ble_eq_true rfl) hRl⟩ (22) 3 rfl rfl rfl rfl rfl hl.1 (Nat.le_of_ble_eq_true rfl) ⟨Nat.zero_le _, Nat.zero_le _⟩ dX3_isRing_3 ?_
  intro H_3 lo_3 I_3
  refine lv_if_eq (tgt := 31) hx hb dX3_isRing_6 (by decide) (fun c12 => ?_) (fun c12 => ?_)
  · replace hf := (if_pos c12).symm.trans hf
    refine lv_iconst (v := (0 : Int32)) hx hb dX3_isRing_31 (by decide) ?_
    cases hf
    exact ret H_3 lo_3 _ ls I_3 (Or.inl rfl) dX3_isRing_32
  · replace hf := (if_neg c12).symm.trans hf
    refine lv_aload_n hx hb dX3_isRing_9 rfl (lv_at hl 0 rfl) ?_
    refine lv_iload_n hx hb dX3_isRing_10 rfl (lv_at hl 2 rfl) ?_
    refine lv_iload_n hx hb dX3_isRing_11 rfl (lv_at hl 3 rfl) ?_
    obtain ⟨r4, h5, hf⟩ := bd_some hf
    refine s_callVi (As := [.int a1, .int a2]) (rest := []) F I_3 (cC_LE_isAhead_22 G E Dd P Z a1 a2 r4 h5) kX3_61 ⟨rfl, rfl⟩ ⟨Nat.le_trans (Nat.le_of_ble_eq_true rfl) hRf, Nat.le_trans (Nat.le_of_ble_eq_true rfl) hRl⟩ (22) 3 rfl rfl rfl rfl rfl hl.1 (Nat.le_of_ble_eq_true rfl) ⟨Nat.zero_le _, Nat.zero_le _⟩ dX3_isRing_12 ?_
    intro H_6 lo_6 I_6
    refine lv_if_eq (tgt := 31) hx hb dX3_isRing_15 (by decide) (fun c11 => ?_) (fun c11 => ?_)
    · replace hf := (if_pos c11).symm.trans hf
      refine lv_iconst (v := (0 : Int32)) hx hb dX3_isRing_31 (by decide) ?_
      cases hf
      exact ret H_6 lo_6 _ ls I_6 (Or.inl rfl) dX3_isRing_32
    · replace hf := (if_neg c11).symm.trans hf
      refine lv_aload_n hx hb dX3_isRing_18 rfl (lv_at hl 0 rfl) ?_
      refine lv_iload_n hx hb dX3_isRing_19 rfl (lv_at hl 3 rfl) ?_
      refine lv_iload_n hx hb dX3_isRing_20 rfl (lv_at hl 1 rfl) ?_
      obtain ⟨r7, h8, hf⟩ := bd_some hf
      refine s_callVi (As := [.int a2, .int a0]) (rest := []) F I_6 (cC_LE_isAhead_22 G E Dd P Z a2 a0 r7 h8) kX3_61 ⟨rfl, rfl⟩ ⟨Nat.le_trans (Nat.le_of_ble_eq_true rfl) hRf, Nat.le_trans (Nat.le_of_ble_eq_true rfl) hRl⟩ (22) 3 rfl rfl rfl rfl rfl hl.1 (Nat.le_of_ble_eq_true rfl) ⟨Nat.zero_le _, Nat.zero_le _⟩ dX3_isRing_21 ?_
      intro H_9 lo_9 I_9
      refine lv_if_eq (tgt := 31) hx hb dX3_isRing_24 (by decide) (fun c10 => ?_) (fun c10 => ?_)
      · replace hf := (if_pos c10).symm.trans hf
        refine lv_iconst (v := (0 : Int32)) hx hb dX3_isRing_31 (by decide) ?_
        cases hf
        exact ret H_9 lo_9 _ ls I_9 (Or.inl rfl) dX3_isRing_32
      · replace hf := (if_neg c10).symm.trans hf
        refine lv_iconst (v := (1 : Int32)) hx hb dX3_isRing_27 (by decide) ?_
        refine lv_goto (tgt := 32) hx hb dX3_isRing_28 (by decide) ?_
        cases hf
        exact ret H_9 lo_9 _ ls I_9 (Or.inr rfl) dX3_isRing_32
def C_LE_countRings_22_s3 (a0 : Int32) (x4 : Int32) (x15 : Int32) (G : Nat → Nat → Int32) (x27 : Int32) (x28 : Int32) : Option ((Int32 × Int32) ⊕ (Int32)) :=
if a0 ≤ x28 then
(some (.inr x27))
else
(bd (C_LE_isRing_22 G x4 x15 x28) fun r38 =>
bd (if r38 = 0 then
(bd (C_LE_isRing_22 G x28 x15 x4) fun r51 =>
if r51 = 0 then
(some x27)
else
(nm (x27 + (1 : Int32) : Int32) fun x54 =>
some x54))
else
(nm (x27 + (1 : Int32) : Int32) fun x49 =>
some x49)) fun x42 =>
nm (x28 + (1 : Int32) : Int32) fun x46 =>
some (.inl (x42, x46)))
def C_LE_countRings_22_s2 (a0 : Int32) (x4 : Int32) (G : Nat → Nat → Int32) (x14 : Int32) (x15 : Int32) : Option ((Int32 × Int32) ⊕ (Int32)) :=
if a0 ≤ x15 then
(some (.inr x14))
else
(nm (x15 + (1 : Int32) : Int32) fun x25 =>
bd (lp (fun q => C_LE_countRings_22_s3 a0 x4 x15 G q.1 q.2) FU (x14, x25)) fun x29 =>
nm (x15 + (1 : Int32) : Int32) fun x33 =>
some (.inl (x29, x33)))
def C_LE_countRings_22_s1 (a0 : Int32) (G : Nat → Nat → Int32) (x3 : Int32) (x4 : Int32) : Option ((Int32 × Int32) ⊕ (Int32)) :=
if a0 ≤ x4 then
(some (.inr x3))
else
(nm (x4 + (1 : Int32) : Int32) fun x12 =>
bd (lp (fun q => C_LE_countRings_22_s2 a0 x4 G q.1 q.2) FU (x3, x12)) fun x16 =>
nm (x4 + (1 : Int32) : Int32) fun x20 =>
some (.inl (x16, x20)))
def C_LE_countRings_22 (G : Nat → Nat → Int32) (a0 : Int32) : Option (Int32) :=
bd (lp (fun q => C_LE_countRings_22_s1 a0 G q.1 q.2) FU ((0 : Int32), (0 : Int32))) fun x5 =>
some x5
set_option maxRecDepth 100000 in
set_option maxHeartbeats 4000000 in
theorem cC_LE_countRings_22 (G : Nat → Nat → Int32) (E : Nat → Nat → Int64) (Dd : Nat → Nat → UInt64) (P : Nat → Option PRec) (Z : List PRec) (a0 : Int32) (rv : Int32)  (hf : C_LE_countRings_22 G a0 = some rv) : sMi D (cT cI cJ cD cS) (cW ad cI cJ cD cS) l yX3_countRings (ws1 yX3_countRings cX3_countRings 6 (some .int)) ({ frames := 3, cells := 0, slots := 0, locals := 66 }) [.ref (ad 22), .int a0] (G, E, Dd, P, Z) (rv, (G, E, Dd, P, Z)) := by
  unfold C_LE_countRings_22 at hf
  refine sMi_of (by decide) (Nat.le_of_ble_eq_true rfl) ?_
  intro p e R s m args below meth c A Q ls H lo F hRf hRl I hl ret
  obtain ⟨hx, hb, hml, hown, hG⟩ := id F
  replace hl : lv_has ls 6 [(0, .ref (ad 22)), (1, .int a0)] := hl
  refine lv_iconst (v := (0 : Int32)) hx hb dX3_countRings_0 (by decide) ?_
  refine lv_istore_n (lv' := [(2, .int (0 : Int32)), (0, .ref (ad 22)), (1, .int a0)]) hx hb dX3_countRings_1 rfl hl (by decide) rfl (fun ls_1 hl_1 => ?_)
  refine lv_iconst (v := (0 : Int32)) hx hb dX3_countRings_2 (by decide) ?_
  refine lv_istore_n (lv' := [(3, .int (0 : Int32)), (2, .int (0 : Int32)), (0, .ref (ad 22)), (1, .int a0)]) hx hb dX3_countRings_3 rfl hl_1 (by decide) rfl (fun ls_2 hl_2 => ?_)
  obtain ⟨x5, hq1, hf⟩ := bd_some hf
  have K1 : ∀ (H : Heap) (locs : List Loc), sInv D (cT cI cJ cD cS) (cW ad cI cJ cD cS) A s H locs (G, E, Dd, P, Z) → ∀ (ls : Array Slot), lv_has ls 6 [(2, .int x5)] → W p l e R s m args below meth c H locs 0 0 Q (F0 m 77 ls []) := by
    intro H_6 lo_6 I_6 ls_7 hl_7
    refine lv_iload_n hx hb dX3_countRings_77 rfl (lv_at hl_7 0 rfl) ?_
    cases hf
    exact ret H_6 lo_6 _ ls_7 I_6 dX3_countRings_78
  have L1 : ∀ (n : Nat) (x3 : Int32) (x4 : Int32), lp (fun q => C_LE_countRings_22_s1 a0 G q.1 q.2) n (x3, x4) = some x5 → ∀ (H : Heap) (locs : List Loc), sInv D (cT cI cJ cD cS) (cW ad cI cJ cD cS) A s H locs (G, E, Dd, P, Z) → ∀ (ls : Array Slot), lv_has ls 6 [(0, .ref (ad 22)), (1, .int a0), (2, .int x3), (3, .int x4)] → W p l e R s m args below meth c H locs 0 0 Q (F0 m 4 ls []) := by
    intro n
    induction n with
    | zero => intro x3 x4 hq; exact (lp_0 hq).elim
    | succ n ih1 =>
      intro x3 x4 hq H_9 lo_9 I_9 ls_10 hl_10
      obtain ⟨y1, hf, hK1⟩ := lp_go hq
      replace hf : C_LE_countRings_22_s1 a0 G x3 x4 = some y1 := hf
      unfold C_LE_countRings_22_s1 at hf
      refine lv_iload_n hx hb dX3_countRings_4 rfl (lv_at hl_10 3 rfl) ?_
      refine lv_iload_n hx hb dX3_countRings_5 rfl (lv_at hl_10 1 rfl) ?_
      refine lv_icmp_ge (tgt := 77) hx hb dX3_countRings_6 (by decide) (fun c60 => ?_) (fun c60 => ?_)
      · replace hf := (if_pos c60).symm.trans hf
        cases hf
        cases (show x3 = x5 from hK1)
        exact K1 H_9 lo_9 I_9 ls_10 (lv_sub hl_10 [2] rfl)
      · replace hf := (if_neg c60).symm.trans hf
        refine lv_iload_n hx hb dX3_countRings_9 rfl (lv_at hl_10 3 rfl) ?_
        refine lv_iconst (v := (1 : Int32)) hx hb dX3_countRings_10 (by decide) ?_
        refine lv_iadd hx hb dX3_countRings_11 ?_
        refine lv_topi (fun x12 ex12 => ?_)
        replace hf := nm_some ex12 hf
        refine lv_istore (lv' := [(4, .int x12), (0, .ref (ad 22)), (1, .int a0), (2, .int x3), (3, .int x4)]) hx hb dX3_countRings_12 hl_10 (by decide) rfl (fun ls_13 hl_13 => ?_)
        obtain ⟨x16, hq2, hf⟩ := bd_some hf
        have K2 : ∀ (H : Heap) (locs : List Loc), sInv D (cT cI cJ cD cS) (cW ad cI cJ cD cS) A s H locs (G, E, Dd, P, Z) → ∀ (ls : Array Slot), lv_has ls 6 [(0, .ref (ad 22)), (1, .int a0), (2, .int x16), (3, .int x4)] → W p l e R s m args below meth c H locs 0 0 Q (F0 m 71 ls []) := by
          intro H_17 lo_17 I_17 ls_18 hl_18
          obtain ⟨x20, ex20⟩ : ∃ y : Int32, y = x4 + (1 : Int32) := ⟨_, rfl⟩
          replace hf := nm_some ex20 hf
          refine lv_iinc (v := x20) (lv' := [(3, .int x20), (0, .ref (ad 22)), (1, .int a0), (2, .int x16)]) hx hb dX3_countRings_71 hl_18 (k := 3) rfl (by rw [ex20]; rfl) (by decide) rfl (fun ls_21 hl_21 => ?_)
          refine lv_goto (tgt := 4) hx hb dX3_countRings_74 (by decide) ?_
          cases hf
          exact ih1 _ _ hK1 H_17 lo_17 I_17 ls_21 (lv_sub hl_21 [1, 2, 3, 0] rfl)
        have L2 : ∀ (n : Nat) (x14 : Int32) (x15 : Int32), lp (fun q => C_LE_countRings_22_s2 a0 x4 G q.1 q.2) n (x14, x15) = some x16 → ∀ (H : Heap) (locs : List Loc), sInv D (cT cI cJ cD cS) (cW ad cI cJ cD cS) A s H locs (G, E, Dd, P, Z) → ∀ (ls : Array Slot), lv_has ls 6 [(0, .ref (ad 22)), (1, .int a0), (2, .int x14), (3, .int x4), (4, .int x15)] → W p l e R s m args below meth c H locs 0 0 Q (F0 m 14 ls []) := by
          intro n
          induction n with
          | zero => intro x14 x15 hq; exact (lp_0 hq).elim
          | succ n ih2 =>
            intro x14 x15 hq H_22 lo_22 I_22 ls_23 hl_23
            obtain ⟨y2, hf, hK2⟩ := lp_go hq
            replace hf : C_LE_countRings_22_s2 a0 x4 G x14 x15 = some y2 := hf
            unfold C_LE_countRings_22_s2 at hf
            refine lv_iload hx hb dX3_countRings_14 (lv_at hl_23 4 rfl) ?_
            refine lv_iload_n hx hb dX3_countRings_16 rfl (lv_at hl_23 1 rfl) ?_
            refine lv_icmp_ge (tgt := 71) hx hb dX3_countRings_17 (by decide) (fun c59 => ?_) (fun c59 => ?_)
            · replace hf := (if_pos c59).symm.trans hf
              cases hf
              cases (show x14 = x16 from hK2)
              exact K2 H_22 lo_22 I_22 ls_23 (lv_sub hl_23 [0, 1, 2, 3] rfl)
            · replace hf := (if_neg c59).symm.trans hf
              refine lv_iload hx hb dX3_countRings_20 (lv_at hl_23 4 rfl) ?_
              refine lv_iconst (v := (1 : Int32)) hx hb dX3_countRings_22 (by decide) ?_
              refine lv_iadd hx hb dX3_countRings_23 ?_
              refine lv_topi (fun x25 ex25 => ?_)
              replace hf := nm_some ex25 hf
              refine lv_istore (lv' := [(5, .int x25), (0, .ref (ad 22)), (1, .int a0), (2, .int x14), (3, .int x4), (4, .int x15)]) hx hb dX3_countRings_24 hl_23 (by decide) rfl (fun ls_26 hl_26 => ?_)
              obtain ⟨x29, hq3, hf⟩ := bd_some hf
              have K3 : ∀ (H : Heap) (locs : List Loc), sInv D (cT cI cJ cD cS) (cW ad cI cJ cD cS) A s H locs (G, E, Dd, P, Z) → ∀ (ls : Array Slot), lv_has ls 6 [(0, .ref (ad 22)), (1, .int a0), (2, .int x29), (3, .int x4), (4, .int x15)] → W p l e R s m args below meth c H locs 0 0 Q (F0 m 65 ls []) := by
                intro H_30 lo_30 I_30 ls_31 hl_31
                obtain ⟨x33, ex33⟩ : ∃ y : Int32, y = x15 + (1 : Int32) := ⟨_, rfl⟩
                replace hf := nm_some ex33 hf
                refine lv_iinc (v := x33) (lv' := [(4, .int x33), (0, .ref (ad 22)), (1, .int a0), (2, .int x29), (3, .int x4)]) hx hb dX3_countRings_65 hl_31 (k := 4) rfl (by rw [ex33]; rfl) (by decide) rfl (fun ls_34 hl_34 => ?_)
                refine lv_goto (tgt := 14) hx hb dX3_countRings_68 (by decide) ?_
                cases hf
                exact ih2 _ _ hK2 H_30 lo_30 I_30 ls_34 (lv_sub hl_34 [1, 2, 3, 4, 0] rfl)
              have L3 : ∀ (n : Nat) (x27 : Int32) (x28 : Int32), lp (fun q => C_LE_countRings_22_s3 a0 x4 x15 G q.1 q.2) n (x27, x28) = some x29 → ∀ (H : Heap) (locs : List Loc), sInv D (cT cI cJ cD cS) (cW ad cI cJ cD cS) A s H locs (G, E, Dd, P, Z) → ∀ (ls : Array Slot), lv_has ls 6 [(0, .ref (ad 22)), (1, .int a0), (2, .int x27), (3, .int x4), (4, .int x15), (5, .int x28)] → W p l e R s m args below meth c H locs 0 0 Q (F0 m 26 ls []) := by
                intro n
                induction n with
                | zero => intro x27 x28 hq; exact (lp_0 hq).elim
                | succ n ih3 =>
                  intro x27 x28 hq H_35 lo_35 I_35 ls_36 hl_36
                  obtain ⟨y3, hf, hK3⟩ := lp_go hq
                  replace hf : C_LE_countRings_22_s3 a0 x4 x15 G x27 x28 = some y3 := hf
                  unfold C_LE_countRings_22_s3 at hf
                  refine lv_iload hx hb dX3_countRings_26 (lv_at hl_36 5 rfl) ?_
                  refine lv_iload_n hx hb dX3_countRings_28 rfl (lv_at hl_36 1 rfl) ?_
                  refine lv_icmp_ge (tgt := 65) hx hb dX3_countRings_29 (by decide) (fun c58 => ?_) (fun c58 => ?_)
                  · replace hf := (if_pos c58).symm.trans hf
                    cases hf
                    cases (show x27 = x29 from hK3)
                    exact K3 H_35 lo_35 I_35 ls_36 (lv_sub hl_36 [0, 1, 2, 3, 4] rfl)
                  · replace hf := (if_neg c58).symm.trans hf
                    refine lv_aload_n hx hb dX3_countRings_32 rfl (lv_at hl_36 0 rfl) ?_
                    refine lv_iload_n hx hb dX3_countRings_33 rfl (lv_at hl_36 3 rfl) ?_
                    refine lv_iload hx hb dX3_countRings_34 (lv_at hl_36 4 rfl) ?_
                    refine lv_iload hx hb dX3_countRings_36 (lv_at hl_36 5 rfl) ?_
                    obtain ⟨r38, h39, hf⟩ := bd_some hf
                    refine s_callVi (As := [.int x4, .int x15, .int x28]) (rest := []) F I_35 (cC_LE_isRing_22 G E Dd P Z x4 x15 x28 r38 h39) kX3_57 ⟨rfl, rfl⟩ ⟨Nat.le_trans (Nat.le_of_ble_eq_true rfl) hRf, Nat.le_trans (Nat.le_of_ble_eq_true rfl) hRl⟩ (22) 3 rfl rfl rfl rfl rfl hl_36.1 (Nat.le_of_ble_eq_true rfl) ⟨Nat.zero_le _, Nat.zero_le _⟩ dX3_countRings_38 ?_
                    intro H_40 lo_40 I_40
                    obtain ⟨x42, hv48, hf⟩ := bd_some hf
                    have J41 : ∀ (H : Heap) (locs : List Loc), sInv D (cT cI cJ cD cS) (cW ad cI cJ cD cS) A s H locs (G, E, Dd, P, Z) → ∀ (ls : Array Slot), lv_has ls 6 [(0, .ref (ad 22)), (1, .int a0), (2, .int x42), (3, .int x4), (4, .int x15), (5, .int x28)] → W p l e R s m args below meth c H locs 0 0 Q (F0 m 59 ls []) := by
                      intro H_43 lo_43 I_43 ls_44 hl_44
                      obtain ⟨x46, ex46⟩ : ∃ y : Int32, y = x28 + (1 : Int32) := ⟨_, rfl⟩
                      replace hf := nm_some ex46 hf
                      refine lv_iinc (v := x46) (lv' := [(5, .int x46), (0, .ref (ad 22)), (1, .int a0), (2, .int x42), (3, .int x4), (4, .int x15)]) hx hb dX3_countRings_59 hl_44 (k := 5) rfl (by rw [ex46]; rfl) (by decide) rfl (fun ls_47 hl_47 => ?_)
                      refine lv_goto (tgt := 26) hx hb dX3_countRings_62 (by decide) ?_
                      cases hf
                      exact ih3 _ _ hK3 H_43 lo_43 I_43 ls_47 (lv_sub hl_47 [1, 2, 3, 4, 5, 0] rfl)
                    replace hf := hv48
                    refine lv_if_ne (tgt := 56) hx hb dX3_countRings_41 (by decide) (fun c57 => ?_) (fun c57 => ?_)
                    · replace hf := (if_neg c57).symm.trans hf
                      obtain ⟨x49, ex49⟩ : ∃ y : Int32, y = x27 + (1 : Int32) := ⟨_, rfl⟩
                      replace hf := nm_some ex49 hf
                      refine lv_iinc (v := x49) (lv' := [(2, .int x49), (0, .ref (ad 22)), (1, .int a0), (3, .int x4), (4, .int x15), (5, .int x28)]) hx hb dX3_countRings_56 hl_36 (k := 2) rfl (by rw [ex49]; rfl) (by decide) rfl (fun ls_50 hl_50 => ?_)
                      cases hf
                      exact J41 H_40 lo_40 I_40 ls_50 (lv_sub hl_50 [1, 2, 0, 3, 4, 5] rfl)
                    · replace hf := (if_pos c57).symm.trans hf
                      refine lv_aload_n hx hb dX3_countRings_44 rfl (lv_at hl_36 0 rfl) ?_
                      refine lv_iload hx hb dX3_countRings_45 (lv_at hl_36 5 rfl) ?_
                      refine lv_iload hx hb dX3_countRings_47 (lv_at hl_36 4 rfl) ?_
                      refine lv_iload_n hx hb dX3_countRings_49 rfl (lv_at hl_36 3 rfl) ?_
                      obtain ⟨r51, h52, hf⟩ := bd_some hf
                      refine s_callVi (As := [.int x28, .int x15, .int x4]) (rest := []) F I_40 (cC_LE_isRing_22 G E Dd P Z x28 x15 x4 r51 h52) kX3_57 ⟨rfl, rfl⟩ ⟨Nat.le_trans (Nat.le_of_ble_eq_true rfl) hRf, Nat.le_trans (Nat.le_of_ble_eq_true rfl) hRl⟩ (22) 3 rfl rfl rfl rfl rfl hl_36.1 (Nat.le_of_ble_eq_true rfl) ⟨Nat.zero_le _, Nat.zero_le _⟩ dX3_countRings_50 ?_
                      intro H_53 lo_53 I_53
                      refine lv_if_eq (tgt := 59) hx hb dX3_countRings_53 (by decide) (fun c56 => ?_) (fun c56 => ?_)
                      · replace hf := (if_pos c56).symm.trans hf
                        cases hf
                        exact J41 H_53 lo_53 I_53 ls_36 (lv_sub hl_36 [0, 1, 2, 3, 4, 5] rfl)
                      · replace hf := (if_neg c56).symm.trans hf
                        obtain ⟨x54, ex54⟩ : ∃ y : Int32, y = x27 + (1 : Int32) := ⟨_, rfl⟩
                        replace hf := nm_some ex54 hf
                        refine lv_iinc (v := x54) (lv' := [(2, .int x54), (0, .ref (ad 22)), (1, .int a0), (3, .int x4), (4, .int x15), (5, .int x28)]) hx hb dX3_countRings_56 hl_36 (k := 2) rfl (by rw [ex54]; rfl) (by decide) rfl (fun ls_55 hl_55 => ?_)
                        cases hf
                        exact J41 H_53 lo_53 I_53 ls_55 (lv_sub hl_55 [1, 2, 0, 3, 4, 5] rfl)
              exact L3 FU _ _ hq3 H_22 lo_22 I_22 ls_26 (lv_sub hl_26 [1, 2, 3, 4, 5, 0] rfl)
        exact L2 FU _ _ hq2 H_9 lo_9 I_9 ls_13 (lv_sub hl_13 [1, 2, 3, 4, 0] rfl)
  exact L1 FU _ _ hq1 H lo I ls_2 (lv_sub hl_2 [2, 3, 1, 0] rfl)
def C_SD_countStable_s1  (x3 : Int32) (x4 : Int32) (G5 : Nat → Nat → Int32) : Option ((Int32 × Int32 × (Nat → Nat → Int32)) ⊕ (Int32 × (Nat → Nat → Int32))) :=
if G5 21 0 ≤ x4 then
(some (.inr (x3, G5)))
else
(bd2 (C_SD_isStable G5 x4) fun r14 G15 =>
bd (if r14 = 0 then
(some x3)
else
(nm (x3 + (1 : Int32) : Int32) fun x26 =>
some x26)) fun x19 =>
nm (x4 + (1 : Int32) : Int32) fun x23 =>
some (.inl (x19, x23, G15)))
def C_SD_countStable (G : Nat → Nat → Int32) : Option (Int32 × (Nat → Nat → Int32)) :=
bd2 (lp (fun q => C_SD_countStable_s1 q.1 q.2.1 q.2.2) FU ((0 : Int32), (0 : Int32), G)) fun x6 G7 =>
some (x6, G7)
set_option maxRecDepth 100000 in
set_option maxHeartbeats 4000000 in
theorem cC_SD_countStable (G : Nat → Nat → Int32) (E : Nat → Nat → Int64) (Dd : Nat → Nat → UInt64) (P : Nat → Option PRec) (Z : List PRec)  (rv : Int32) (newG : Nat → Nat → Int32) (hf : C_SD_countStable G = some (rv, newG)) : sMi D (cT cI cJ cD cS) (cW ad cI cJ cD cS) l yX6_countStable (ws1 yX6_countStable cX6_countStable 4 (some .int)) ({ frames := 3, cells := 0, slots := 0, locals := 69 }) [.ref (ad 16), .ref (ad 2)] (G, E, Dd, P, Z) (rv, (newG, E, Dd, P, Z)) := by
  unfold C_SD_countStable at hf
  refine sMi_of (by decide) (Nat.le_of_ble_eq_true rfl) ?_
  intro p e R s m args below meth c A Q ls H lo F hRf hRl I hl ret
  obtain ⟨hx, hb, hml, hown, hG⟩ := id F
  replace hl : lv_has ls 4 [(0, .ref (ad 16)), (1, .ref (ad 2))] := hl
  refine lv_iconst (v := (0 : Int32)) hx hb dX6_countStable_0 (by decide) ?_
  refine lv_istore_n (lv' := [(2, .int (0 : Int32)), (0, .ref (ad 16)), (1, .ref (ad 2))]) hx hb dX6_countStable_1 rfl hl (by decide) rfl (fun ls_1 hl_1 => ?_)
  refine lv_iconst (v := (0 : Int32)) hx hb dX6_countStable_2 (by decide) ?_
  refine lv_istore_n (lv' := [(3, .int (0 : Int32)), (2, .int (0 : Int32)), (0, .ref (ad 16)), (1, .ref (ad 2))]) hx hb dX6_countStable_3 rfl hl_1 (by decide) rfl (fun ls_2 hl_2 => ?_)
  obtain ⟨x6, G7, hq1, hf⟩ := bd2_some hf
  have K1 : ∀ (H : Heap) (locs : List Loc), sInv D (cT cI cJ cD cS) (cW ad cI cJ cD cS) A s H locs (G7, E, Dd, P, Z) → ∀ (ls : Array Slot), lv_has ls 4 [(2, .int x6)] → W p l e R s m args below meth c H locs 0 0 Q (F0 m 30 ls []) := by
    intro H_8 lo_8 I_8 ls_9 hl_9
    refine lv_iload_n hx hb dX6_countStable_30 rfl (lv_at hl_9 0 rfl) ?_
    cases hf
    exact ret H_8 lo_8 _ ls_9 I_8 dX6_countStable_31
  have L1 : ∀ (n : Nat) (x3 : Int32) (x4 : Int32) (G5 : Nat → Nat → Int32), lp (fun q => C_SD_countStable_s1 q.1 q.2.1 q.2.2) n (x3, x4, G5) = some (x6, G7) → ∀ (H : Heap) (locs : List Loc), sInv D (cT cI cJ cD cS) (cW ad cI cJ cD cS) A s H locs (G5, E, Dd, P, Z) → ∀ (ls : Array Slot), lv_has ls 4 [(0, .ref (ad 16)), (1, .ref (ad 2)), (2, .int x3), (3, .int x4)] → W p l e R s m args below meth c H locs 0 0 Q (F0 m 4 ls []) := by
    intro n
    induction n with
    | zero => intro x3 x4 G5 hq; exact (lp_0 hq).elim
    | succ n ih1 =>
      intro x3 x4 G5 hq H_11 lo_11 I_11 ls_12 hl_12
      obtain ⟨y1, hf, hK1⟩ := lp_go hq
      replace hf : C_SD_countStable_s1 x3 x4 G5 = some y1 := hf
      unfold C_SD_countStable_s1 at hf
      refine lv_iload_n hx hb dX6_countStable_4 rfl (lv_at hl_12 3 rfl) ?_
      refine lv_aload_n hx hb dX6_countStable_5 rfl (lv_at hl_12 0 rfl) ?_
      refine kgtX6_9_16 F I_11 dX6_countStable_6 ?_
      refine lv_icmp_ge (tgt := 30) hx hb dX6_countStable_9 (by decide) (fun c29 => ?_) (fun c29 => ?_)
      · replace hf := (if_pos c29).symm.trans hf
        cases hf
        cases (show (x3, G5) = (x6, G7) from hK1)
        exact K1 H_11 lo_11 I_11 ls_12 (lv_sub hl_12 [2] rfl)
      · replace hf := (if_neg c29).symm.trans hf
        refine lv_aload_n hx hb dX6_countStable_12 rfl (lv_at hl_12 0 rfl) ?_
        refine lv_aload_n hx hb dX6_countStable_13 rfl (lv_at hl_12 1 rfl) ?_
        refine lv_iload_n hx hb dX6_countStable_14 rfl (lv_at hl_12 3 rfl) ?_
        obtain ⟨r14, G15, h16, hf⟩ := bd2_some hf
        refine s_callVi (As := [.ref (ad 2), .int x4]) (rest := []) F I_11 (cC_SD_isStable G5 E Dd P Z x4 r14 G15 h16) kX6_97 ⟨rfl, rfl⟩ ⟨Nat.le_trans (Nat.le_of_ble_eq_true rfl) hRf, Nat.le_trans (Nat.le_of_ble_eq_true rfl) hRl⟩ (16) 6 rfl rfl rfl rfl rfl hl_12.1 (Nat.le_of_ble_eq_true rfl) ⟨Nat.zero_le _, Nat.zero_le _⟩ dX6_countStable_15 ?_
        intro H_17 lo_17 I_17
        obtain ⟨x19, hv25, hf⟩ := bd_some hf
        have J18 : ∀ (H : Heap) (locs : List Loc), sInv D (cT cI cJ cD cS) (cW ad cI cJ cD cS) A s H locs (G15, E, Dd, P, Z) → ∀ (ls : Array Slot), lv_has ls 4 [(0, .ref (ad 16)), (1, .ref (ad 2)), (2, .int x19), (3, .int x4)] → W p l e R s m args below meth c H locs 0 0 Q (F0 m 24 ls []) := by
          intro H_20 lo_20 I_20 ls_21 hl_21
          obtain ⟨x23, ex23⟩ : ∃ y : Int32, y = x4 + (1 : Int32) := ⟨_, rfl⟩
          replace hf := nm_some ex23 hf
          refine lv_iinc (v := x23) (lv' := [(3, .int x23), (0, .ref (ad 16)), (1, .ref (ad 2)), (2, .int x19)]) hx hb dX6_countStable_24 hl_21 (k := 3) rfl (by rw [ex23]; rfl) (by decide) rfl (fun ls_24 hl_24 => ?_)
          refine lv_goto (tgt := 4) hx hb dX6_countStable_27 (by decide) ?_
          cases hf
          exact ih1 _ _ _ hK1 H_20 lo_20 I_20 ls_24 (lv_sub hl_24 [1, 2, 3, 0] rfl)
        replace hf := hv25
        refine lv_if_eq (tgt := 24) hx hb dX6_countStable_18 (by decide) (fun c28 => ?_) (fun c28 => ?_)
        · replace hf := (if_pos c28).symm.trans hf
          cases hf
          exact J18 H_17 lo_17 I_17 ls_12 (lv_sub hl_12 [0, 1, 2, 3] rfl)
        · replace hf := (if_neg c28).symm.trans hf
          obtain ⟨x26, ex26⟩ : ∃ y : Int32, y = x3 + (1 : Int32) := ⟨_, rfl⟩
          replace hf := nm_some ex26 hf
          refine lv_iinc (v := x26) (lv' := [(2, .int x26), (0, .ref (ad 16)), (1, .ref (ad 2)), (3, .int x4)]) hx hb dX6_countStable_21 hl_12 (k := 2) rfl (by rw [ex26]; rfl) (by decide) rfl (fun ls_27 hl_27 => ?_)
          cases hf
          exact J18 H_17 lo_17 I_17 ls_27 (lv_sub hl_27 [1, 2, 0, 3] rfl)
  exact L1 FU _ _ _ hq1 H lo I ls_2 (lv_sub hl_2 [2, 3, 1, 0] rfl)
def C_SD_numberOf (G : Nat → Nat → Int32) (a1 : Int32) : Option (Int32 × (Nat → Nat → Int32)) :=
if a1 = (0 : Int32) then
(bd (C_BO_find_22 G (G 21 0)) fun G2 =>
some (G2 32 0, G2))
else if a1 = (1 : Int32) then
(bd (C_BO_find_22 G (G 21 0)) fun G6 =>
some (G6 33 0, G6))
else if a1 = (2 : Int32) then
(bd (C_SD_findLayers G) fun G10 =>
some (G10 27 0, G10))
else if a1 = (3 : Int32) then
(bd (C_SD_findLayers G) fun G14 =>
some (G14 28 0, G14))
else if a1 = (4 : Int32) then
(bd (C_LE_countRings_22 G (G 21 0)) fun r18 =>
some (r18, G))
else (bd2 (C_SD_countStable G) fun r21 G22 =>
some (r21, G22))
set_option maxRecDepth 100000 in
set_option maxHeartbeats 4000000 in
theorem cC_SD_numberOf (G : Nat → Nat → Int32) (E : Nat → Nat → Int64) (Dd : Nat → Nat → UInt64) (P : Nat → Option PRec) (Z : List PRec) (a1 : Int32) (rv : Int32) (newG : Nat → Nat → Int32) (hf : C_SD_numberOf G a1 = some (rv, newG)) : sMi D (cT cI cJ cD cS) (cW ad cI cJ cD cS) l yX6_numberOf (ws1 yX6_numberOf cX6_numberOf 3 (some .int)) ({ frames := 4, cells := 0, slots := 0, locals := 96 }) [.ref (ad 16), .ref (ad 2), .int a1] (G, E, Dd, P, Z) (rv, (newG, E, Dd, P, Z)) := by
  unfold C_SD_numberOf at hf
  refine sMi_of (by decide) (Nat.le_of_ble_eq_true rfl) ?_
  intro p e R s m args below meth c A Q ls H lo F hRf hRl I hl ret
  obtain ⟨hx, hb, hml, hown, hG⟩ := id F
  replace hl : lv_has ls 3 [(0, .ref (ad 16)), (1, .ref (ad 2)), (2, .int a1)] := hl
  refine lv_iload_n hx hb dX6_numberOf_0 rfl (lv_at hl 2 rfl) ?_
  by_cases c1 : a1 = (0 : Int32)
  · replace hf := (if_pos c1).symm.trans hf
    refine lv_tableIn (off := 35) (tgt := 36) hx hb dX6_numberOf_1 (by rw [c1]; decide) (by rw [c1]; decide) (by rw [c1]; rfl) (by decide) ?_
    refine lv_aload_n hx hb dX6_numberOf_36 rfl (lv_at hl 0 rfl) ?_
    refine kgtX6_51_16 F I dX6_numberOf_37 ?_
    refine lv_aload_n hx hb dX6_numberOf_40 rfl (lv_at hl 0 rfl) ?_
    refine kgtX6_22_16 F I dX6_numberOf_41 ?_
    refine lv_aload_n hx hb dX6_numberOf_44 rfl (lv_at hl 0 rfl) ?_
    refine kgtX6_9_16 F I dX6_numberOf_45 ?_
    obtain ⟨G2, h3, hf⟩ := bd_some hf
    refine s_callVv (As := [.ref (ad 22), .int (G 21 0)]) (rest := []) F I (cC_BO_find_22 G E Dd P Z (G 21 0) G2 h3) kX6_107 ⟨rfl, rfl⟩ ⟨Nat.le_trans (Nat.le_of_ble_eq_true rfl) hRf, Nat.le_trans (Nat.le_of_ble_eq_true rfl) hRl⟩ (24) 0 rfl rfl rfl rfl rfl hl.1 (Nat.le_of_ble_eq_true rfl) ⟨Nat.zero_le _, Nat.zero_le _⟩ dX6_numberOf_48 ?_
    intro H_4 lo_4 I_4
    refine lv_aload_n hx hb dX6_numberOf_51 rfl (lv_at hl 0 rfl) ?_
    refine kgtX6_51_16 F I_4 dX6_numberOf_52 ?_
    refine kgtX6_114_24 F I_4 dX6_numberOf_55 ?_
    cases hf
    exact ret H_4 lo_4 _ ls I_4 dX6_numberOf_58
  replace hf := (if_neg c1).symm.trans hf
  by_cases c5 : a1 = (1 : Int32)
  · replace hf := (if_pos c5).symm.trans hf
    refine lv_tableIn (off := 58) (tgt := 59) hx hb dX6_numberOf_1 (by rw [c5]; decide) (by rw [c5]; decide) (by rw [c5]; rfl) (by decide) ?_
    refine lv_aload_n hx hb dX6_numberOf_59 rfl (lv_at hl 0 rfl) ?_
    refine kgtX6_51_16 F I dX6_numberOf_60 ?_
    refine lv_aload_n hx hb dX6_numberOf_63 rfl (lv_at hl 0 rfl) ?_
    refine kgtX6_22_16 F I dX6_numberOf_64 ?_
    refine lv_aload_n hx hb dX6_numberOf_67 rfl (lv_at hl 0 rfl) ?_
    refine kgtX6_9_16 F I dX6_numberOf_68 ?_
    obtain ⟨G6, h7, hf⟩ := bd_some hf
    refine s_callVv (As := [.ref (ad 22), .int (G 21 0)]) (rest := []) F I (cC_BO_find_22 G E Dd P Z (G 21 0) G6 h7) kX6_107 ⟨rfl, rfl⟩ ⟨Nat.le_trans (Nat.le_of_ble_eq_true rfl) hRf, Nat.le_trans (Nat.le_of_ble_eq_true rfl) hRl⟩ (24) 0 rfl rfl rfl rfl rfl hl.1 (Nat.le_of_ble_eq_true rfl) ⟨Nat.zero_le _, Nat.zero_le _⟩ dX6_numberOf_71 ?_
    intro H_8 lo_8 I_8
    refine lv_aload_n hx hb dX6_numberOf_74 rfl (lv_at hl 0 rfl) ?_
    refine kgtX6_51_16 F I_8 dX6_numberOf_75 ?_
    refine kgtX6_117_24 F I_8 dX6_numberOf_78 ?_
    cases hf
    exact ret H_8 lo_8 _ ls I_8 dX6_numberOf_81
  replace hf := (if_neg c5).symm.trans hf
  by_cases c9 : a1 = (2 : Int32)
  · replace hf := (if_pos c9).symm.trans hf
    refine lv_tableIn (off := 81) (tgt := 82) hx hb dX6_numberOf_1 (by rw [c9]; decide) (by rw [c9]; decide) (by rw [c9]; rfl) (by decide) ?_
    refine lv_aload_n hx hb dX6_numberOf_82 rfl (lv_at hl 0 rfl) ?_
    obtain ⟨G10, h11, hf⟩ := bd_some hf
    refine s_callVv (As := []) (rest := []) F I (cC_SD_findLayers G E Dd P Z G10 h11) kX6_104 ⟨rfl, rfl⟩ ⟨Nat.le_trans (Nat.le_of_ble_eq_true rfl) hRf, Nat.le_trans (Nat.le_of_ble_eq_true rfl) hRl⟩ (16) 6 rfl rfl rfl rfl rfl hl.1 (Nat.le_of_ble_eq_true rfl) ⟨Nat.zero_le _, Nat.zero_le _⟩ dX6_numberOf_83 ?_
    intro H_12 lo_12 I_12
    refine lv_aload_n hx hb dX6_numberOf_86 rfl (lv_at hl 0 rfl) ?_
    refine kgtX6_38_16 F I_12 dX6_numberOf_87 ?_
    cases hf
    exact ret H_12 lo_12 _ ls I_12 dX6_numberOf_90
  replace hf := (if_neg c9).symm.trans hf
  by_cases c13 : a1 = (3 : Int32)
  · replace hf := (if_pos c13).symm.trans hf
    refine lv_tableIn (off := 90) (tgt := 91) hx hb dX6_numberOf_1 (by rw [c13]; decide) (by rw [c13]; decide) (by rw [c13]; rfl) (by decide) ?_
    refine lv_aload_n hx hb dX6_numberOf_91 rfl (lv_at hl 0 rfl) ?_
    obtain ⟨G14, h15, hf⟩ := bd_some hf
    refine s_callVv (As := []) (rest := []) F I (cC_SD_findLayers G E Dd P Z G14 h15) kX6_104 ⟨rfl, rfl⟩ ⟨Nat.le_trans (Nat.le_of_ble_eq_true rfl) hRf, Nat.le_trans (Nat.le_of_ble_eq_true rfl) hRl⟩ (16) 6 rfl rfl rfl rfl rfl hl.1 (Nat.le_of_ble_eq_true rfl) ⟨Nat.zero_le _, Nat.zero_le _⟩ dX6_numberOf_92 ?_
    intro H_16 lo_16 I_16
    refine lv_aload_n hx hb dX6_numberOf_95 rfl (lv_at hl 0 rfl) ?_
    refine kgtX6_41_16 F I_16 dX6_numberOf_96 ?_
    cases hf
    exact ret H_16 lo_16 _ ls I_16 dX6_numberOf_99
  replace hf := (if_neg c13).symm.trans hf
  by_cases c17 : a1 = (4 : Int32)
  · replace hf := (if_pos c17).symm.trans hf
    refine lv_tableIn (off := 99) (tgt := 100) hx hb dX6_numberOf_1 (by rw [c17]; decide) (by rw [c17]; decide) (by rw [c17]; rfl) (by decide) ?_
    refine lv_aload_n hx hb dX6_numberOf_100 rfl (lv_at hl 0 rfl) ?_
    refine kgtX6_22_16 F I dX6_numberOf_101 ?_
    refine lv_aload_n hx hb dX6_numberOf_104 rfl (lv_at hl 0 rfl) ?_
    refine kgtX6_9_16 F I dX6_numberOf_105 ?_
    obtain ⟨r18, h19, hf⟩ := bd_some hf
    refine s_callVi (As := [.int (G 21 0)]) (rest := []) F I (cC_LE_countRings_22 G E Dd P Z (G 21 0) r18 h19) kX6_120 ⟨rfl, rfl⟩ ⟨Nat.le_trans (Nat.le_of_ble_eq_true rfl) hRf, Nat.le_trans (Nat.le_of_ble_eq_true rfl) hRl⟩ (22) 3 rfl rfl rfl rfl rfl hl.1 (Nat.le_of_ble_eq_true rfl) ⟨Nat.zero_le _, Nat.zero_le _⟩ dX6_numberOf_108 ?_
    intro H_20 lo_20 I_20
    cases hf
    exact ret H_20 lo_20 _ ls I_20 dX6_numberOf_111
  replace hf := (if_neg c17).symm.trans hf
  refine lv_tableOut (tgt := 112) hx hb dX6_numberOf_1 (tsw4 c1 c5 c9 c13 c17) (by decide) ?_
  refine lv_aload_n hx hb dX6_numberOf_112 rfl (lv_at hl 0 rfl) ?_
  refine lv_aload_n hx hb dX6_numberOf_113 rfl (lv_at hl 1 rfl) ?_
  obtain ⟨r21, G22, h23, hf⟩ := bd2_some hf
  refine s_callVi (As := [.ref (ad 2)]) (rest := []) F I (cC_SD_countStable G E Dd P Z r21 G22 h23) kX6_123 ⟨rfl, rfl⟩ ⟨Nat.le_trans (Nat.le_of_ble_eq_true rfl) hRf, Nat.le_trans (Nat.le_of_ble_eq_true rfl) hRl⟩ (16) 6 rfl rfl rfl rfl rfl hl.1 (Nat.le_of_ble_eq_true rfl) ⟨Nat.zero_le _, Nat.zero_le _⟩ dX6_numberOf_114 ?_
  intro H_24 lo_24 I_24
  cases hf
  exact ret H_24 lo_24 _ ls I_24 dX6_numberOf_117
def C_SD_sampleAt (G : Nat → Nat → Int32) (a0 : Int32) : Option (Int32 × (Nat → Nat → Int32)) :=
bd (C_BO_find_22 G (G 21 0)) fun G1 =>
bd (C_BO_sampleAt G1 a0) fun r4 =>
some (r4, G1)
set_option maxRecDepth 100000 in
set_option maxHeartbeats 4000000 in
theorem cC_SD_sampleAt (G : Nat → Nat → Int32) (E : Nat → Nat → Int64) (Dd : Nat → Nat → UInt64) (P : Nat → Option PRec) (Z : List PRec) (a0 : Int32) (rv : Int32) (newG : Nat → Nat → Int32) (hf : C_SD_sampleAt G a0 = some (rv, newG)) : sMi D (cT cI cJ cD cS) (cW ad cI cJ cD cS) l yX6_sampleAt (ws1 yX6_sampleAt cX6_sampleAt 2 (some .int)) ({ frames := 4, cells := 0, slots := 0, locals := 94 }) [.ref (ad 16), .int a0] (G, E, Dd, P, Z) (rv, (newG, E, Dd, P, Z)) := by
  unfold C_SD_sampleAt at hf
  refine sMi_of (by decide) (Nat.le_of_ble_eq_true rfl) ?_
  intro p e R s m args below meth c A Q ls H lo F hRf hRl I hl ret
  obtain ⟨hx, hb, hml, hown, hG⟩ := id F
  replace hl : lv_has ls 2 [(0, .ref (ad 16)), (1, .int a0)] := hl
  refine lv_aload_n hx hb dX6_sampleAt_0 rfl (lv_at hl 0 rfl) ?_
  refine kgtX6_51_16 F I dX6_sampleAt_1 ?_
  refine lv_aload_n hx hb dX6_sampleAt_4 rfl (lv_at hl 0 rfl) ?_
  refine kgtX6_22_16 F I dX6_sampleAt_5 ?_
  refine lv_aload_n hx hb dX6_sampleAt_8 rfl (lv_at hl 0 rfl) ?_
  refine kgtX6_9_16 F I dX6_sampleAt_9 ?_
  obtain ⟨G1, h2, hf⟩ := bd_some hf
  refine s_callVv (As := [.ref (ad 22), .int (G 21 0)]) (rest := []) F I (cC_BO_find_22 G E Dd P Z (G 21 0) G1 h2) kX6_107 ⟨rfl, rfl⟩ ⟨Nat.le_trans (Nat.le_of_ble_eq_true rfl) hRf, Nat.le_trans (Nat.le_of_ble_eq_true rfl) hRl⟩ (24) 0 rfl rfl rfl rfl rfl hl.1 (Nat.le_of_ble_eq_true rfl) ⟨Nat.zero_le _, Nat.zero_le _⟩ dX6_sampleAt_12 ?_
  intro H_3 lo_3 I_3
  refine lv_aload_n hx hb dX6_sampleAt_15 rfl (lv_at hl 0 rfl) ?_
  refine kgtX6_51_16 F I_3 dX6_sampleAt_16 ?_
  refine lv_iload_n hx hb dX6_sampleAt_19 rfl (lv_at hl 1 rfl) ?_
  obtain ⟨r4, h5, hf⟩ := bd_some hf
  refine s_callVi (As := [.int a0]) (rest := []) F I_3 (cC_BO_sampleAt G1 E Dd P Z a0 r4 h5) kX6_127 ⟨rfl, rfl⟩ ⟨Nat.le_trans (Nat.le_of_ble_eq_true rfl) hRf, Nat.le_trans (Nat.le_of_ble_eq_true rfl) hRl⟩ (24) 0 rfl rfl rfl rfl rfl hl.1 (Nat.le_of_ble_eq_true rfl) ⟨Nat.zero_le _, Nat.zero_le _⟩ dX6_sampleAt_20 ?_
  intro H_6 lo_6 I_6
  cases hf
  exact ret H_6 lo_6 _ ls I_6 dX6_sampleAt_23
def C_JA_fill_d_36_s1 (a1 : UInt64) (x3 : Int32) (Dd4 : Nat → Nat → UInt64) : Option ((Int32 × (Nat → Nat → UInt64)) ⊕ ((Nat → Nat → UInt64))) :=
if (8 : Int32) ≤ x3 then
(some (.inr Dd4))
else
(ri 8 x3 <|
nm (wr Dd4 1 x3 a1) fun Dd13 =>
nm (x3 + (1 : Int32) : Int32) fun x15 =>
some (.inl (x15, Dd13)))
def C_JA_fill_d_36 (Dd : Nat → Nat → UInt64) (a1 : UInt64) : Option ((Nat → Nat → UInt64)) :=
bd (lp (fun q => C_JA_fill_d_36_s1 a1 q.1 q.2) FU ((0 : Int32), Dd)) fun Dd5 =>
some Dd5
set_option maxRecDepth 100000 in
set_option maxHeartbeats 4000000 in
theorem cC_JA_fill_d_36 (G : Nat → Nat → Int32) (E : Nat → Nat → Int64) (Dd : Nat → Nat → UInt64) (P : Nat → Option PRec) (Z : List PRec) (a1 : UInt64)  (newDd : Nat → Nat → UInt64) (hf : C_JA_fill_d_36 Dd a1 = some newDd) : sDv D (cT cI cJ cD cS) (cW ad cI cJ cD cS) cSm l yJ7_fill_7f8df (ws1 yJ7_fill_7f8df cJ7_fill_7f8df 5 none) ({ frames := 0, cells := 0, slots := 0, locals := 0 }) [.ref (ad 36), .double a1] (G, E, Dd, P, Z) (G, E, newDd, P, Z) := by
  unfold C_JA_fill_d_36 at hf
  refine sDv_of (by decide) (Nat.le_of_ble_eq_true rfl) ?_
  intro p e R s m args below meth c A Q ls H lo dr sgm F hRf hRl hd hsm I hl ret
  obtain ⟨_, _, Dm, _⟩ := sgm
  obtain ⟨rfl, rfl, ha, rfl⟩ := cSm_dest hsm
  obtain ⟨hx, hb, hml, hown, hG⟩ := id F
  replace hl : lv_has ls 5 [(0, .ref (ad 36)), (1, .double a1)] := hl
  refine lv_iconst (v := (0 : Int32)) hx hb dJ7_fill_7f8df_0 (by decide) ?_
  refine lv_istore_n (lv' := [(3, .int (0 : Int32)), (0, .ref (ad 36)), (1, .double a1)]) hx hb dJ7_fill_7f8df_1 rfl hl (by decide) rfl (fun ls_1 hl_1 => ?_)
  refine lv_aload_n hx hb dJ7_fill_7f8df_2 rfl (lv_at hl_1 1 rfl) ?_
  refine kln36 (Fdr F) (Idr I) dJ7_fill_7f8df_3 ?_
  refine lv_istore (lv' := [(4, .int (8 : Int32)), (3, .int (0 : Int32)), (0, .ref (ad 36)), (1, .double a1)]) hx hb dJ7_fill_7f8df_4 hl_1 (by decide) rfl (fun ls_2 hl_2 => ?_)
  obtain ⟨Dd5, hq1, hf⟩ := bd_some hf
  have K1 : ∀ (H : Heap) (locs : List Loc) (d : Drawn) (Dm5 : Nat → Nat → UInt64), s.drawn.sameBut d lw_cs → alikeM Dm5 Dd5 → sInv D (cT cI cJ cD cS) (cW ad cI cJ cD cS) A s H locs (G, E, Dm5, P, Z) → ∀ (ls : Array Slot), lv_has ls 5 [] → W p l e R (s.setDrawn d) m args below meth c H locs 0 0 Q (F0 m 22 ls []) := by
    intro H_6 lo_6 dr_8 Dm5 hd_8 ha5 I_6 ls_7 hl_7
    cases hf
    exact ret H_6 lo_6 _ ls_7 dr_8 _ hd_8 I_6 ⟨rfl, rfl, ha5, rfl⟩ dJ7_fill_7f8df_22
  have L1 : ∀ (n : Nat) (x3 : Int32) (Dd4 : Nat → Nat → UInt64), lp (fun q => C_JA_fill_d_36_s1 a1 q.1 q.2) n (x3, Dd4) = some Dd5 → ∀ (H : Heap) (locs : List Loc) (d : Drawn) (Dm4 : Nat → Nat → UInt64), s.drawn.sameBut d lw_cs → alikeM Dm4 Dd4 → sInv D (cT cI cJ cD cS) (cW ad cI cJ cD cS) A s H locs (G, E, Dm4, P, Z) → ∀ (ls : Array Slot), lv_has ls 5 [(0, .ref (ad 36)), (1, .double a1), (3, .int x3), (4, .int (8 : Int32))] → W p l e R (s.setDrawn d) m args below meth c H locs 0 0 Q (F0 m 6 ls []) := by
    intro n
    induction n with
    | zero => intro x3 Dd4 hq; exact (lp_0 hq).elim
    | succ n ih1 =>
      intro x3 Dd4 hq H_9 lo_9 dr_11 Dm4 hd_11 ha4 I_9 ls_10 hl_10
      obtain ⟨y1, hf, hK1⟩ := lp_go hq
      replace hf : C_JA_fill_d_36_s1 a1 x3 Dd4 = some y1 := hf
      unfold C_JA_fill_d_36_s1 at hf
      refine lv_iload_n hx hb dJ7_fill_7f8df_6 rfl (lv_at hl_10 2 rfl) ?_
      refine lv_iload hx hb dJ7_fill_7f8df_7 (lv_at hl_10 3 rfl) ?_
      refine lv_icmp_ge (tgt := 22) hx hb dJ7_fill_7f8df_9 (by decide) (fun c17 => ?_) (fun c17 => ?_)
      · replace hf := (if_pos c17).symm.trans hf
        cases hf
        cases (show Dd4 = Dd5 from hK1)
        exact K1 H_9 lo_9 dr_11 Dm4 hd_11 ha4 I_9 ls_10 (lv_sub hl_10 [] rfl)
      · replace hf := (if_neg c17).symm.trans hf
        refine lv_aload_n hx hb dJ7_fill_7f8df_12 rfl (lv_at hl_10 0 rfl) ?_
        refine lv_iload_n hx hb dJ7_fill_7f8df_13 rfl (lv_at hl_10 2 rfl) ?_
        refine lv_dload_n hx hb dJ7_fill_7f8df_14 rfl (lv_at hl_10 1 rfl) ?_
        obtain ⟨g12, hf⟩ := ri_some hf
        refine kas36 (Fdr F) (Idr I_9) g12 dJ7_fill_7f8df_15 ?_
        intro H_14 lo_14 Dm13 eDm13 I_14
        replace I_14 := Irr I_14
        obtain ⟨Dd13, eDd13⟩ : ∃ z, z = wr Dd4 1 x3 a1 := ⟨_, rfl⟩
        replace hf := nm_some eDd13 hf
        have ha13 : alikeM Dm13 Dd13 := alM_eq eDm13 eDd13 (al_wr ha4 (al_rf a1))
        obtain ⟨x15, ex15⟩ : ∃ y : Int32, y = x3 + (1 : Int32) := ⟨_, rfl⟩
        replace hf := nm_some ex15 hf
        refine lv_iinc (v := x15) (lv' := [(3, .int x15), (0, .ref (ad 36)), (1, .double a1), (4, .int (8 : Int32))]) hx hb dJ7_fill_7f8df_16 hl_10 (k := 2) rfl (by rw [ex15]; rfl) (by decide) rfl (fun ls_16 hl_16 => ?_)
        refine lv_goto (tgt := 6) hx hb dJ7_fill_7f8df_19 (by decide) ?_
        cases hf
        exact ih1 _ _ hK1 H_14 lo_14 dr_11 Dm13 hd_11 ha13 I_14 ls_16 (lv_sub hl_16 [1, 2, 0, 3] rfl)
  exact L1 FU _ _ hq1 H lo dr Dm hd ha I ls_2 (lv_sub hl_2 [2, 3, 1, 0] rfl)
end Meth
