section Meth
variable {D : va_G} {l : Launch} {ad : Nat → Nat} {cI cJ cD cS : ClassId}
def C_JI_numberOfTrailingZeros_ (a0 : Int32) : Option (Int32) :=
nm ((a0 ^^^ (-1 : Int32)) &&& (a0 - (1 : Int32)) : Int32) fun x1 =>
if 0 < x1 then
(bd2 (if x1 ≤ (65536 : Int32) then
(some (x1, (1 : Int32)))
else
(nm ((1 : Int32) + (16 : Int32) : Int32) fun x43 =>
nm ((x1.toUInt32 >>> ((16 : Int32).toUInt32 &&& Int32.toUInt32 31)).toInt32 : Int32) fun x45 =>
some (x45, x43))) fun x5 x6 =>
bd2 (if x5 ≤ (256 : Int32) then
(some (x5, x6))
else
(nm (x6 + (8 : Int32) : Int32) fun x37 =>
nm ((x5.toUInt32 >>> ((8 : Int32).toUInt32 &&& Int32.toUInt32 31)).toInt32 : Int32) fun x39 =>
some (x39, x37))) fun x10 x11 =>
bd2 (if x10 ≤ (16 : Int32) then
(some (x10, x11))
else
(nm (x11 + (4 : Int32) : Int32) fun x31 =>
nm ((x10.toUInt32 >>> ((4 : Int32).toUInt32 &&& Int32.toUInt32 31)).toInt32 : Int32) fun x33 =>
some (x33, x31))) fun x15 x16 =>
bd2 (if x15 ≤ (4 : Int32) then
(some (x15, x16))
else
(nm (x16 + (2 : Int32) : Int32) fun x25 =>
nm ((x15.toUInt32 >>> ((2 : Int32).toUInt32 &&& Int32.toUInt32 31)).toInt32 : Int32) fun x27 =>
some (x27, x25))) fun x20 x21 =>
some (x21 + ((x20.toUInt32 >>> ((1 : Int32).toUInt32 &&& Int32.toUInt32 31)).toInt32)))
else
(some (x1 &&& (32 : Int32)))
set_option maxRecDepth 100000 in
set_option maxHeartbeats 4000000 in
theorem cC_JI_numberOfTrailingZeros_ (G : Nat → Nat → Int32) (E : Nat → Nat → Int64) (Dd : Nat → Nat → UInt64) (P : Nat → Option Nat) (L : List Nat) (pf : Nat → va_E) (a0 : Int32) (rv : Int32)  (hf : C_JI_numberOfTrailingZeros_ a0 = some rv) : sMi D (cT cI cJ cD cS) (cW ad cI cJ cD cS) l yJ6_numberOfTrailingZeros_0f7a4 (ws1 yJ6_numberOfTrailingZeros_0f7a4 cJ6_numberOfTrailingZeros_0f7a4 2 (some .int)) ({ frames := 0, cells := 0, slots := 0, locals := 0 }) [.int a0] (G, E, Dd, P, L, pf) (rv, (G, E, Dd, P, L, pf)) := by
  unfold C_JI_numberOfTrailingZeros_ at hf
  refine sMi_of (by decide) (Nat.le_of_ble_eq_true rfl) ?_
  intro p e R s m args below meth c A Q ls H lo F hRf hRl I hl ret
  obtain ⟨hx, hb, hml, hown, hG⟩ := id F
  replace hl : lv_has ls 2 [(0, .int a0)] := hl
  refine lv_iload_n hx hb dJ6_numberOfTrailingZeros_0f7a4_0 rfl (lv_at hl 0 rfl) ?_
  refine lv_iconst (v := (-1 : Int32)) hx hb dJ6_numberOfTrailingZeros_0f7a4_1 (by decide) ?_
  refine lv_ixor hx hb dJ6_numberOfTrailingZeros_0f7a4_2 ?_
  refine lv_iload_n hx hb dJ6_numberOfTrailingZeros_0f7a4_3 rfl (lv_at hl 0 rfl) ?_
  refine lv_iconst (v := (1 : Int32)) hx hb dJ6_numberOfTrailingZeros_0f7a4_4 (by decide) ?_
  refine lv_isub hx hb dJ6_numberOfTrailingZeros_0f7a4_5 ?_
  refine lv_iand hx hb dJ6_numberOfTrailingZeros_0f7a4_6 ?_
  refine lv_topi (fun x1 ex1 => ?_)
  replace hf := nm_some ex1 hf
  refine lv_istore_n (lv' := [(0, .int x1)]) hx hb dJ6_numberOfTrailingZeros_0f7a4_7 rfl hl (by decide) rfl (fun ls_2 hl_2 => ?_)
  refine lv_iload_n hx hb dJ6_numberOfTrailingZeros_0f7a4_8 rfl (lv_at hl_2 0 rfl) ?_
  refine lv_if_gt (tgt := 17) hx hb dJ6_numberOfTrailingZeros_0f7a4_9 (by decide) (fun c48 => ?_) (fun c48 => ?_)
  · replace hf := (if_pos c48).symm.trans hf
    refine lv_iconst (v := (1 : Int32)) hx hb dJ6_numberOfTrailingZeros_0f7a4_17 (by decide) ?_
    refine lv_istore_n (lv' := [(1, .int (1 : Int32)), (0, .int x1)]) hx hb dJ6_numberOfTrailingZeros_0f7a4_18 rfl hl_2 (by decide) rfl (fun ls_3 hl_3 => ?_)
    refine lv_iload_n hx hb dJ6_numberOfTrailingZeros_0f7a4_19 rfl (lv_at hl_3 1 rfl) ?_
    refine lv_ldcw (v := (65536 : Int32)) hx hb hown (hG _ q700) dJ6_numberOfTrailingZeros_0f7a4_20 ?_
    obtain ⟨x5, x6, hv42, hf⟩ := bd2_some hf
    have J4 : ∀ (H : Heap) (locs : List Loc), sInv D (cT cI cJ cD cS) (cW ad cI cJ cD cS) A s H locs (G, E, Dd, P, L, pf) → ∀ (ls : Array Slot), lv_has ls 2 [(0, .int x5), (1, .int x6)] → W p l e R s m args below meth c H locs 0 0 Q (F0 m 34 ls []) := by
      intro H_7 lo_7 I_7 ls_8 hl_8
      refine lv_iload_n hx hb dJ6_numberOfTrailingZeros_0f7a4_34 rfl (lv_at hl_8 0 rfl) ?_
      refine lv_sipush (v := (256 : Int32)) hx hb dJ6_numberOfTrailingZeros_0f7a4_35 (by decide) ?_
      obtain ⟨x10, x11, hv36, hf⟩ := bd2_some hf
      have J9 : ∀ (H : Heap) (locs : List Loc), sInv D (cT cI cJ cD cS) (cW ad cI cJ cD cS) A s H locs (G, E, Dd, P, L, pf) → ∀ (ls : Array Slot), lv_has ls 2 [(0, .int x10), (1, .int x11)] → W p l e R s m args below meth c H locs 0 0 Q (F0 m 49 ls []) := by
        intro H_12 lo_12 I_12 ls_13 hl_13
        refine lv_iload_n hx hb dJ6_numberOfTrailingZeros_0f7a4_49 rfl (lv_at hl_13 0 rfl) ?_
        refine lv_bipush (v := (16 : Int32)) hx hb dJ6_numberOfTrailingZeros_0f7a4_50 (by decide) ?_
        obtain ⟨x15, x16, hv30, hf⟩ := bd2_some hf
        have J14 : ∀ (H : Heap) (locs : List Loc), sInv D (cT cI cJ cD cS) (cW ad cI cJ cD cS) A s H locs (G, E, Dd, P, L, pf) → ∀ (ls : Array Slot), lv_has ls 2 [(0, .int x15), (1, .int x16)] → W p l e R s m args below meth c H locs 0 0 Q (F0 m 62 ls []) := by
          intro H_17 lo_17 I_17 ls_18 hl_18
          refine lv_iload_n hx hb dJ6_numberOfTrailingZeros_0f7a4_62 rfl (lv_at hl_18 0 rfl) ?_
          refine lv_iconst (v := (4 : Int32)) hx hb dJ6_numberOfTrailingZeros_0f7a4_63 (by decide) ?_
          obtain ⟨x20, x21, hv24, hf⟩ := bd2_some hf
          have J19 : ∀ (H : Heap) (locs : List Loc), sInv D (cT cI cJ cD cS) (cW ad cI cJ cD cS) A s H locs (G, E, Dd, P, L, pf) → ∀ (ls : Array Slot), lv_has ls 2 [(0, .int x20), (1, .int x21)] → W p l e R s m args below meth c H locs 0 0 Q (F0 m 74 ls []) := by
            intro H_22 lo_22 I_22 ls_23 hl_23
            refine lv_iload_n hx hb dJ6_numberOfTrailingZeros_0f7a4_74 rfl (lv_at hl_23 1 rfl) ?_
            refine lv_iload_n hx hb dJ6_numberOfTrailingZeros_0f7a4_75 rfl (lv_at hl_23 0 rfl) ?_
            refine lv_iconst (v := (1 : Int32)) hx hb dJ6_numberOfTrailingZeros_0f7a4_76 (by decide) ?_
            refine lv_iushr hx hb dJ6_numberOfTrailingZeros_0f7a4_77 rfl ?_
            refine lv_iadd hx hb dJ6_numberOfTrailingZeros_0f7a4_78 ?_
            cases hf
            exact ret H_22 lo_22 _ ls_23 I_22 dJ6_numberOfTrailingZeros_0f7a4_79
          replace hf := hv24
          refine lv_icmp_le (tgt := 74) hx hb dJ6_numberOfTrailingZeros_0f7a4_64 (by decide) (fun c29 => ?_) (fun c29 => ?_)
          · replace hf := (if_pos c29).symm.trans hf
            cases hf
            exact J19 H_17 lo_17 I_17 ls_18 (lv_sub hl_18 [0, 1] rfl)
          · replace hf := (if_neg c29).symm.trans hf
            obtain ⟨x25, ex25⟩ : ∃ y : Int32, y = x16 + (2 : Int32) := ⟨_, rfl⟩
            replace hf := nm_some ex25 hf
            refine lv_iinc (v := x25) (lv' := [(1, .int x25), (0, .int x15)]) hx hb dJ6_numberOfTrailingZeros_0f7a4_67 hl_18 (k := 1) rfl (by rw [ex25]; rfl) (by decide) rfl (fun ls_26 hl_26 => ?_)
            refine lv_iload_n hx hb dJ6_numberOfTrailingZeros_0f7a4_70 rfl (lv_at hl_26 1 rfl) ?_
            refine lv_iconst (v := (2 : Int32)) hx hb dJ6_numberOfTrailingZeros_0f7a4_71 (by decide) ?_
            refine lv_iushr hx hb dJ6_numberOfTrailingZeros_0f7a4_72 rfl ?_
            refine lv_topi (fun x27 ex27 => ?_)
            replace hf := nm_some ex27 hf
            refine lv_istore_n (lv' := [(0, .int x27), (1, .int x25)]) hx hb dJ6_numberOfTrailingZeros_0f7a4_73 rfl hl_26 (by decide) rfl (fun ls_28 hl_28 => ?_)
            cases hf
            exact J19 H_17 lo_17 I_17 ls_28 (lv_sub hl_28 [0, 1] rfl)
        replace hf := hv30
        refine lv_icmp_le (tgt := 62) hx hb dJ6_numberOfTrailingZeros_0f7a4_52 (by decide) (fun c35 => ?_) (fun c35 => ?_)
        · replace hf := (if_pos c35).symm.trans hf
          cases hf
          exact J14 H_12 lo_12 I_12 ls_13 (lv_sub hl_13 [0, 1] rfl)
        · replace hf := (if_neg c35).symm.trans hf
          obtain ⟨x31, ex31⟩ : ∃ y : Int32, y = x11 + (4 : Int32) := ⟨_, rfl⟩
          replace hf := nm_some ex31 hf
          refine lv_iinc (v := x31) (lv' := [(1, .int x31), (0, .int x10)]) hx hb dJ6_numberOfTrailingZeros_0f7a4_55 hl_13 (k := 1) rfl (by rw [ex31]; rfl) (by decide) rfl (fun ls_32 hl_32 => ?_)
          refine lv_iload_n hx hb dJ6_numberOfTrailingZeros_0f7a4_58 rfl (lv_at hl_32 1 rfl) ?_
          refine lv_iconst (v := (4 : Int32)) hx hb dJ6_numberOfTrailingZeros_0f7a4_59 (by decide) ?_
          refine lv_iushr hx hb dJ6_numberOfTrailingZeros_0f7a4_60 rfl ?_
          refine lv_topi (fun x33 ex33 => ?_)
          replace hf := nm_some ex33 hf
          refine lv_istore_n (lv' := [(0, .int x33), (1, .int x31)]) hx hb dJ6_numberOfTrailingZeros_0f7a4_61 rfl hl_32 (by decide) rfl (fun ls_34 hl_34 => ?_)
          cases hf
          exact J14 H_12 lo_12 I_12 ls_34 (lv_sub hl_34 [0, 1] rfl)
      replace hf := hv36
      refine lv_icmp_le (tgt := 49) hx hb dJ6_numberOfTrailingZeros_0f7a4_38 (by decide) (fun c41 => ?_) (fun c41 => ?_)
      · replace hf := (if_pos c41).symm.trans hf
        cases hf
        exact J9 H_7 lo_7 I_7 ls_8 (lv_sub hl_8 [0, 1] rfl)
      · replace hf := (if_neg c41).symm.trans hf
        obtain ⟨x37, ex37⟩ : ∃ y : Int32, y = x6 + (8 : Int32) := ⟨_, rfl⟩
        replace hf := nm_some ex37 hf
        refine lv_iinc (v := x37) (lv' := [(1, .int x37), (0, .int x5)]) hx hb dJ6_numberOfTrailingZeros_0f7a4_41 hl_8 (k := 1) rfl (by rw [ex37]; rfl) (by decide) rfl (fun ls_38 hl_38 => ?_)
        refine lv_iload_n hx hb dJ6_numberOfTrailingZeros_0f7a4_44 rfl (lv_at hl_38 1 rfl) ?_
        refine lv_bipush (v := (8 : Int32)) hx hb dJ6_numberOfTrailingZeros_0f7a4_45 (by decide) ?_
        refine lv_iushr hx hb dJ6_numberOfTrailingZeros_0f7a4_47 rfl ?_
        refine lv_topi (fun x39 ex39 => ?_)
        replace hf := nm_some ex39 hf
        refine lv_istore_n (lv' := [(0, .int x39), (1, .int x37)]) hx hb dJ6_numberOfTrailingZeros_0f7a4_48 rfl hl_38 (by decide) rfl (fun ls_40 hl_40 => ?_)
        cases hf
        exact J9 H_7 lo_7 I_7 ls_40 (lv_sub hl_40 [0, 1] rfl)
    replace hf := hv42
    refine lv_icmp_le (tgt := 34) hx hb dJ6_numberOfTrailingZeros_0f7a4_23 (by decide) (fun c47 => ?_) (fun c47 => ?_)
    · replace hf := (if_pos c47).symm.trans hf
      cases hf
      exact J4 H lo I ls_3 (lv_sub hl_3 [1, 0] rfl)
    · replace hf := (if_neg c47).symm.trans hf
      obtain ⟨x43, ex43⟩ : ∃ y : Int32, y = (1 : Int32) + (16 : Int32) := ⟨_, rfl⟩
      replace hf := nm_some ex43 hf
      refine lv_iinc (v := x43) (lv' := [(1, .int x43), (0, .int x1)]) hx hb dJ6_numberOfTrailingZeros_0f7a4_26 hl_3 (k := 0) rfl (by rw [ex43]; rfl) (by decide) rfl (fun ls_44 hl_44 => ?_)
      refine lv_iload_n hx hb dJ6_numberOfTrailingZeros_0f7a4_29 rfl (lv_at hl_44 1 rfl) ?_
      refine lv_bipush (v := (16 : Int32)) hx hb dJ6_numberOfTrailingZeros_0f7a4_30 (by decide) ?_
      refine lv_iushr hx hb dJ6_numberOfTrailingZeros_0f7a4_32 rfl ?_
      refine lv_topi (fun x45 ex45 => ?_)
      replace hf := nm_some ex45 hf
      refine lv_istore_n (lv' := [(0, .int x45), (1, .int x43)]) hx hb dJ6_numberOfTrailingZeros_0f7a4_33 rfl hl_44 (by decide) rfl (fun ls_46 hl_46 => ?_)
      cases hf
      exact J4 H lo I ls_46 (lv_sub hl_46 [0, 1] rfl)
  · replace hf := (if_neg c48).symm.trans hf
    refine lv_iload_n hx hb dJ6_numberOfTrailingZeros_0f7a4_12 rfl (lv_at hl_2 0 rfl) ?_
    refine lv_bipush (v := (32 : Int32)) hx hb dJ6_numberOfTrailingZeros_0f7a4_13 (by decide) ?_
    refine lv_iand hx hb dJ6_numberOfTrailingZeros_0f7a4_15 ?_
    cases hf
    exact ret H lo _ ls_2 I dJ6_numberOfTrailingZeros_0f7a4_16
def C_LT_cell (a0 : Int32) (a1 : Int32) : Int32 :=
(((a0 &&& (7 : Int32)) <<< ((3 : Int32) &&& 31)) ||| (a1 &&& (7 : Int32)))
set_option maxRecDepth 100000 in
set_option maxHeartbeats 4000000 in
theorem cC_LT_cell (G : Nat → Nat → Int32) (E : Nat → Nat → Int64) (Dd : Nat → Nat → UInt64) (P : Nat → Option Nat) (L : List Nat) (pf : Nat → va_E) (a0 : Int32) (a1 : Int32) (rv : Int32)  (hv : rv = C_LT_cell a0 a1) : sMi D (cT cI cJ cD cS) (cW ad cI cJ cD cS) l yX11_cell (ws1 yX11_cell cX11_cell 2 (some .int)) ({ frames := 0, cells := 0, slots := 0, locals := 0 }) [.int a0, .int a1] (G, E, Dd, P, L, pf) (rv, (G, E, Dd, P, L, pf)) := by
  have hf : (some (((a0 &&& (7 : Int32)) <<< ((3 : Int32) &&& 31)) ||| (a1 &&& (7 : Int32)))) = some rv := by rw [hv]; rfl
  refine sMi_of (by decide) (Nat.le_of_ble_eq_true rfl) ?_
  intro p e R s m args below meth c A Q ls H lo F hRf hRl I hl ret
  obtain ⟨hx, hb, hml, hown, hG⟩ := id F
  replace hl : lv_has ls 2 [(0, .int a0), (1, .int a1)] := hl
  refine lv_iload_n hx hb dX11_cell_0 rfl (lv_at hl 0 rfl) ?_
  refine lv_bipush (v := (7 : Int32)) hx hb dX11_cell_1 (by decide) ?_
  refine lv_iand hx hb dX11_cell_3 ?_
  refine lv_iconst (v := (3 : Int32)) hx hb dX11_cell_4 (by decide) ?_
  refine lv_ishl hx hb dX11_cell_5 ?_
  refine lv_iload_n hx hb dX11_cell_6 rfl (lv_at hl 1 rfl) ?_
  refine lv_bipush (v := (7 : Int32)) hx hb dX11_cell_7 (by decide) ?_
  refine lv_iand hx hb dX11_cell_9 ?_
  refine lv_ior hx hb dX11_cell_10 ?_
  cases hf
  exact ret H lo _ ls I dX11_cell_11
def C_LE_lead_22 (G : Nat → Nat → Int32) (a0 : Int32) (a1 : Int32) : Option (Int32) :=
nm (C_LT_cell a0 a1) fun r1 =>
ri 64 r1 <|
some (G 20 r1.toNatClampNeg)
set_option maxRecDepth 100000 in
set_option maxHeartbeats 4000000 in
theorem cC_LE_lead_22 (G : Nat → Nat → Int32) (E : Nat → Nat → Int64) (Dd : Nat → Nat → UInt64) (P : Nat → Option Nat) (L : List Nat) (pf : Nat → va_E) (a0 : Int32) (a1 : Int32) (rv : Int32)  (hf : C_LE_lead_22 G a0 a1 = some rv) : sMi D (cT cI cJ cD cS) (cW ad cI cJ cD cS) l yX3_lead (ws1 yX3_lead cX3_lead 3 (some .int)) ({ frames := 1, cells := 0, slots := 0, locals := 21 }) [.ref (ad 22), .int a0, .int a1] (G, E, Dd, P, L, pf) (rv, (G, E, Dd, P, L, pf)) := by
  unfold C_LE_lead_22 at hf
  refine sMi_of (by decide) (Nat.le_of_ble_eq_true rfl) ?_
  intro p e R s m args below meth c A Q ls H lo F hRf hRl I hl ret
  obtain ⟨hx, hb, hml, hown, hG⟩ := id F
  replace hl : lv_has ls 3 [(0, .ref (ad 22)), (1, .int a0), (2, .int a1)] := hl
  refine lv_aload_n hx hb dX3_lead_0 rfl (lv_at hl 0 rfl) ?_
  refine kgtX3_9_22 F I dX3_lead_1 ?_
  refine lv_iload_n hx hb dX3_lead_4 rfl (lv_at hl 1 rfl) ?_
  refine lv_iload_n hx hb dX3_lead_5 rfl (lv_at hl 2 rfl) ?_
  obtain ⟨r1, h2⟩ : ∃ z, z = C_LT_cell a0 a1 := ⟨_, rfl⟩
  replace hf := nm_some h2 hf
  refine s_callSNi (As := [.int a0, .int a1]) (rest := [.ref (ad 23)]) F I (cC_LT_cell G E Dd P L pf a0 a1 r1 h2) kX3_50 ⟨rfl, rfl⟩ ⟨Nat.le_trans (Nat.le_of_ble_eq_true rfl) hRf, Nat.le_trans (Nat.le_of_ble_eq_true rfl) hRl⟩ rfl rfl hl.1 (Nat.le_of_ble_eq_true rfl) ⟨Nat.zero_le _, Nat.zero_le _⟩ dX3_lead_6 ?_
  intro H_3 lo_3 I_3
  obtain ⟨g4, hf⟩ := ri_some hf
  refine kal23 F I_3 g4 dX3_lead_9 ?_
  cases hf
  exact ret H_3 lo_3 _ ls I_3 dX3_lead_10
def C_BO_takeCosts_22_s2 (x2 : Int32) (x9 : Int32) (x18 : Int32) (G19 : Nat → Nat → Int32) : Option ((Int32 × (Nat → Nat → Int32)) ⊕ ((Nat → Nat → Int32))) :=
if (16 : Int32) ≤ x18 then
(some (.inr G19))
else
(bd (C_JI_numberOfTrailingZeros_ x18) fun r27 =>
nm (x9 + (x18 &&& (x18 - (1 : Int32))) : Int32) fun x31 =>
ri 128 x31 <|
bd (C_LE_lead_22 G19 r27 x2) fun r34 =>
ri 128 (x9 + x18) <|
nm (wr G19 37 (x9 + x18) ((G19 37 x31.toNatClampNeg) + (if (0 : Int32) < r34 then r34 else (0 : Int32)))) fun G38 =>
ri 128 x31 <|
bd (C_LE_lead_22 G38 (r27 + (4 : Int32)) x2) fun r41 =>
ri 128 (x9 + x18) <|
nm (wr G38 38 (x9 + x18) ((G38 38 x31.toNatClampNeg) + (if (0 : Int32) < r41 then r41 else (0 : Int32)))) fun G45 =>
nm (x18 + (1 : Int32) : Int32) fun x47 =>
some (.inl (x47, G45)))
def C_BO_takeCosts_22_s1  (x2 : Int32) (G3 : Nat → Nat → Int32) : Option ((Int32 × (Nat → Nat → Int32)) ⊕ ((Nat → Nat → Int32))) :=
if G3 31 0 ≤ x2 then
(some (.inr G3))
else
(nm (x2 * (16 : Int32) : Int32) fun x9 =>
ri 128 x9 <|
nm (wr G3 37 x9 (0 : Int32)) fun G12 =>
ri 128 x9 <|
nm (wr G12 38 x9 (0 : Int32)) fun G15 =>
bd (lp (fun q => C_BO_takeCosts_22_s2 x2 x9 q.1 q.2) FU ((1 : Int32), G15)) fun G20 =>
nm (x2 + (1 : Int32) : Int32) fun x23 =>
some (.inl (x23, G20)))
def C_BO_takeCosts_22 (G : Nat → Nat → Int32) : Option ((Nat → Nat → Int32)) :=
bd (lp (fun q => C_BO_takeCosts_22_s1 q.1 q.2) FU ((0 : Int32), G)) fun G4 =>
some G4
set_option maxRecDepth 100000 in
set_option maxHeartbeats 4000000 in
theorem cC_BO_takeCosts_22 (G : Nat → Nat → Int32) (E : Nat → Nat → Int64) (Dd : Nat → Nat → UInt64) (P : Nat → Option Nat) (L : List Nat) (pf : Nat → va_E)   (newG : Nat → Nat → Int32) (hf : C_BO_takeCosts_22 G = some newG) : sMv D (cT cI cJ cD cS) (cW ad cI cJ cD cS) l yX0_takeCosts (ws1 yX0_takeCosts cX0_takeCosts 7 none) ({ frames := 2, cells := 0, slots := 0, locals := 43 }) [.ref (ad 24), .ref (ad 22)] (G, E, Dd, P, L, pf) (newG, E, Dd, P, L, pf) := by
  unfold C_BO_takeCosts_22 at hf
  refine sMv_of (by decide) (Nat.le_of_ble_eq_true rfl) ?_
  intro p e R s m args below meth c A Q ls H lo F hRf hRl I hl ret
  obtain ⟨hx, hb, hml, hown, hG⟩ := id F
  replace hl : lv_has ls 7 [(0, .ref (ad 24)), (1, .ref (ad 22))] := hl
  refine lv_iconst (v := (0 : Int32)) hx hb dX0_takeCosts_0 (by decide) ?_
  refine lv_istore_n (lv' := [(2, .int (0 : Int32)), (0, .ref (ad 24)), (1, .ref (ad 22))]) hx hb dX0_takeCosts_1 rfl hl (by decide) rfl (fun ls_1 hl_1 => ?_)
  obtain ⟨G4, hq1, hf⟩ := bd_some hf
  have K1 : ∀ (H : Heap) (locs : List Loc), sInv D (cT cI cJ cD cS) (cW ad cI cJ cD cS) A s H locs (G4, E, Dd, P, L, pf) → ∀ (ls : Array Slot), lv_has ls 7 [] → W p l e R s m args below meth c H locs 0 0 Q (F0 m 127 ls []) := by
    intro H_5 lo_5 I_5 ls_6 hl_6
    cases hf
    exact ret H_5 lo_5 _ ls_6 I_5 dX0_takeCosts_127
  have L1 : ∀ (n : Nat) (x2 : Int32) (G3 : Nat → Nat → Int32), lp (fun q => C_BO_takeCosts_22_s1 q.1 q.2) n (x2, G3) = some G4 → ∀ (H : Heap) (locs : List Loc), sInv D (cT cI cJ cD cS) (cW ad cI cJ cD cS) A s H locs (G3, E, Dd, P, L, pf) → ∀ (ls : Array Slot), lv_has ls 7 [(0, .ref (ad 24)), (1, .ref (ad 22)), (2, .int x2)] → W p l e R s m args below meth c H locs 0 0 Q (F0 m 2 ls []) := by
    intro n
    induction n with
    | zero => intro x2 G3 hq; exact (lp_0 hq).elim
    | succ n ih1 =>
      intro x2 G3 hq H_7 lo_7 I_7 ls_8 hl_8
      obtain ⟨y1, hf, hK1⟩ := lp_go hq
      replace hf : C_BO_takeCosts_22_s1 x2 G3 = some y1 := hf
      unfold C_BO_takeCosts_22_s1 at hf
      refine lv_iload_n hx hb dX0_takeCosts_2 rfl (lv_at hl_8 2 rfl) ?_
      refine lv_aload_n hx hb dX0_takeCosts_3 rfl (lv_at hl_8 0 rfl) ?_
      refine kgtX0_15_24 F I_7 dX0_takeCosts_4 ?_
      refine lv_icmp_ge (tgt := 127) hx hb dX0_takeCosts_7 (by decide) (fun c50 => ?_) (fun c50 => ?_)
      · replace hf := (if_pos c50).symm.trans hf
        cases hf
        cases (show G3 = G4 from hK1)
        exact K1 H_7 lo_7 I_7 ls_8 (lv_sub hl_8 [] rfl)
      · replace hf := (if_neg c50).symm.trans hf
        refine lv_iload_n hx hb dX0_takeCosts_10 rfl (lv_at hl_8 2 rfl) ?_
        refine lv_bipush (v := (16 : Int32)) hx hb dX0_takeCosts_11 (by decide) ?_
        refine lv_imul hx hb dX0_takeCosts_13 ?_
        refine lv_topi (fun x9 ex9 => ?_)
        replace hf := nm_some ex9 hf
        refine lv_istore_n (lv' := [(3, .int x9), (0, .ref (ad 24)), (1, .ref (ad 22)), (2, .int x2)]) hx hb dX0_takeCosts_14 rfl hl_8 (by decide) rfl (fun ls_10 hl_10 => ?_)
        refine lv_aload_n hx hb dX0_takeCosts_15 rfl (lv_at hl_10 1 rfl) ?_
        refine kgtX0_35_24 F I_7 dX0_takeCosts_16 ?_
        refine lv_iload_n hx hb dX0_takeCosts_19 rfl (lv_at hl_10 0 rfl) ?_
        refine lv_iconst (v := (0 : Int32)) hx hb dX0_takeCosts_20 (by decide) ?_
        obtain ⟨g11, hf⟩ := ri_some hf
        refine kas28 F I_7 g11 dX0_takeCosts_21 ?_
        intro H_13 lo_13 G12 eG12 I_13
        replace hf := nm_some eG12 hf
        refine lv_aload_n hx hb dX0_takeCosts_22 rfl (lv_at hl_10 1 rfl) ?_
        refine kgtX0_38_24 F I_13 dX0_takeCosts_23 ?_
        refine lv_iload_n hx hb dX0_takeCosts_26 rfl (lv_at hl_10 0 rfl) ?_
        refine lv_iconst (v := (0 : Int32)) hx hb dX0_takeCosts_27 (by decide) ?_
        obtain ⟨g14, hf⟩ := ri_some hf
        refine kas29 F I_13 g14 dX0_takeCosts_28 ?_
        intro H_16 lo_16 G15 eG15 I_16
        replace hf := nm_some eG15 hf
        refine lv_iconst (v := (1 : Int32)) hx hb dX0_takeCosts_29 (by decide) ?_
        refine lv_istore (lv' := [(4, .int (1 : Int32)), (3, .int x9), (0, .ref (ad 24)), (1, .ref (ad 22)), (2, .int x2)]) hx hb dX0_takeCosts_30 hl_10 (by decide) rfl (fun ls_17 hl_17 => ?_)
        obtain ⟨G20, hq2, hf⟩ := bd_some hf
        have K2 : ∀ (H : Heap) (locs : List Loc), sInv D (cT cI cJ cD cS) (cW ad cI cJ cD cS) A s H locs (G20, E, Dd, P, L, pf) → ∀ (ls : Array Slot), lv_has ls 7 [(0, .ref (ad 24)), (1, .ref (ad 22)), (2, .int x2)] → W p l e R s m args below meth c H locs 0 0 Q (F0 m 121 ls []) := by
          intro H_21 lo_21 I_21 ls_22 hl_22
          obtain ⟨x23, ex23⟩ : ∃ y : Int32, y = x2 + (1 : Int32) := ⟨_, rfl⟩
          replace hf := nm_some ex23 hf
          refine lv_iinc (v := x23) (lv' := [(2, .int x23), (0, .ref (ad 24)), (1, .ref (ad 22))]) hx hb dX0_takeCosts_121 hl_22 (k := 2) rfl (by rw [ex23]; rfl) (by decide) rfl (fun ls_24 hl_24 => ?_)
          refine lv_goto (tgt := 2) hx hb dX0_takeCosts_124 (by decide) ?_
          cases hf
          exact ih1 _ _ hK1 H_21 lo_21 I_21 ls_24 (lv_sub hl_24 [1, 2, 0] rfl)
        have L2 : ∀ (n : Nat) (x18 : Int32) (G19 : Nat → Nat → Int32), lp (fun q => C_BO_takeCosts_22_s2 x2 x9 q.1 q.2) n (x18, G19) = some G20 → ∀ (H : Heap) (locs : List Loc), sInv D (cT cI cJ cD cS) (cW ad cI cJ cD cS) A s H locs (G19, E, Dd, P, L, pf) → ∀ (ls : Array Slot), lv_has ls 7 [(0, .ref (ad 24)), (1, .ref (ad 22)), (2, .int x2), (3, .int x9), (4, .int x18)] → W p l e R s m args below meth c H locs 0 0 Q (F0 m 32 ls []) := by
          intro n
          induction n with
          | zero => intro x18 G19 hq; exact (lp_0 hq).elim
          | succ n ih2 =>
            intro x18 G19 hq H_25 lo_25 I_25 ls_26 hl_26
            obtain ⟨y2, hf, hK2⟩ := lp_go hq
            replace hf : C_BO_takeCosts_22_s2 x2 x9 x18 G19 = some y2 := hf
            unfold C_BO_takeCosts_22_s2 at hf
            refine lv_iload hx hb dX0_takeCosts_32 (lv_at hl_26 4 rfl) ?_
            refine lv_bipush (v := (16 : Int32)) hx hb dX0_takeCosts_34 (by decide) ?_
            refine lv_icmp_ge (tgt := 121) hx hb dX0_takeCosts_36 (by decide) (fun c49 => ?_) (fun c49 => ?_)
            · replace hf := (if_pos c49).symm.trans hf
              cases hf
              cases (show G19 = G20 from hK2)
              exact K2 H_25 lo_25 I_25 ls_26 (lv_sub hl_26 [0, 1, 2] rfl)
            · replace hf := (if_neg c49).symm.trans hf
              refine lv_iload hx hb dX0_takeCosts_39 (lv_at hl_26 4 rfl) ?_
              obtain ⟨r27, h28, hf⟩ := bd_some hf
              refine s_callSi (As := [.int x18]) (rest := []) F I_25 (cC_JI_numberOfTrailingZeros_ G19 E Dd P L pf x18 r27 h28) kX0_58 ⟨rfl, rfl⟩ ⟨Nat.le_trans (Nat.le_of_ble_eq_true rfl) hRf, Nat.le_trans (Nat.le_of_ble_eq_true rfl) hRl⟩ rfl rfl hl_26.1 (Nat.le_of_ble_eq_true rfl) ⟨Nat.zero_le _, Nat.zero_le _⟩ dX0_takeCosts_41 ?_
              intro H_29 lo_29 I_29
              refine lv_istore (lv' := [(5, .int r27), (0, .ref (ad 24)), (1, .ref (ad 22)), (2, .int x2), (3, .int x9), (4, .int x18)]) hx hb dX0_takeCosts_44 hl_26 (by decide) rfl (fun ls_30 hl_30 => ?_)
              refine lv_iload_n hx hb dX0_takeCosts_46 rfl (lv_at hl_30 4 rfl) ?_
              refine lv_iload hx hb dX0_takeCosts_47 (lv_at hl_30 5 rfl) ?_
              refine lv_iload hx hb dX0_takeCosts_49 (lv_at hl_30 5 rfl) ?_
              refine lv_iconst (v := (1 : Int32)) hx hb dX0_takeCosts_51 (by decide) ?_
              refine lv_isub hx hb dX0_takeCosts_52 ?_
              refine lv_iand hx hb dX0_takeCosts_53 ?_
              refine lv_iadd hx hb dX0_takeCosts_54 ?_
              refine lv_topi (fun x31 ex31 => ?_)
              replace hf := nm_some ex31 hf
              refine lv_istore (lv' := [(6, .int x31), (5, .int r27), (0, .ref (ad 24)), (1, .ref (ad 22)), (2, .int x2), (3, .int x9), (4, .int x18)]) hx hb dX0_takeCosts_55 hl_30 (by decide) rfl (fun ls_32 hl_32 => ?_)
              refine lv_aload_n hx hb dX0_takeCosts_57 rfl (lv_at hl_32 2 rfl) ?_
              refine kgtX0_35_24 F I_29 dX0_takeCosts_58 ?_
              refine lv_iload_n hx hb dX0_takeCosts_61 rfl (lv_at hl_32 5 rfl) ?_
              refine lv_iload hx hb dX0_takeCosts_62 (lv_at hl_32 6 rfl) ?_
              refine lv_iadd hx hb dX0_takeCosts_64 ?_
              refine lv_aload_n hx hb dX0_takeCosts_65 rfl (lv_at hl_32 2 rfl) ?_
              refine kgtX0_35_24 F I_29 dX0_takeCosts_66 ?_
              refine lv_iload hx hb dX0_takeCosts_69 (lv_at hl_32 0 rfl) ?_
              obtain ⟨g33, hf⟩ := ri_some hf
              refine kal28 F I_29 g33 dX0_takeCosts_71 ?_
              refine lv_iconst (v := (0 : Int32)) hx hb dX0_takeCosts_72 (by decide) ?_
              refine lv_aload_n hx hb dX0_takeCosts_73 rfl (lv_at hl_32 3 rfl) ?_
              refine lv_iload hx hb dX0_takeCosts_74 (lv_at hl_32 1 rfl) ?_
              refine lv_iload_n hx hb dX0_takeCosts_76 rfl (lv_at hl_32 4 rfl) ?_
              obtain ⟨r34, h35, hf⟩ := bd_some hf
              refine s_callVi (As := [.int r27, .int x2]) (rest := [.int (0 : Int32), .int (G19 37 x31.toNatClampNeg), .int (x9 + x18), .ref (ad 28)]) F I_29 (cC_LE_lead_22 G19 E Dd P L pf r27 x2 r34 h35) kX0_64 ⟨rfl, rfl⟩ ⟨Nat.le_trans (Nat.le_of_ble_eq_true rfl) hRf, Nat.le_trans (Nat.le_of_ble_eq_true rfl) hRl⟩ 22 3 rfl rfl rfl rfl rfl hl_32.1 (Nat.le_of_ble_eq_true rfl) ⟨Nat.zero_le _, Nat.zero_le _⟩ dX0_takeCosts_77 ?_
              intro H_36 lo_36 I_36
              refine va_mmax hx hb (hml.trans hl_32.1.symm) hown (hG _ q705) (hG _ q467) (hG _ q126) (hG _ q468) (Nat.le_trans (Nat.le_of_ble_eq_true rfl) hRf) (Nat.le_trans (Nat.le_of_ble_eq_true rfl) hRl) (Nat.zero_le _) (Nat.zero_le _) dX0_takeCosts_80 ?_
              refine lv_iadd hx hb dX0_takeCosts_83 ?_
              obtain ⟨g37, hf⟩ := ri_some hf
              refine kas28 F I_36 g37 dX0_takeCosts_84 ?_
              intro H_39 lo_39 G38 eG38 I_39
              replace hf := nm_some eG38 hf
              refine lv_aload_n hx hb dX0_takeCosts_85 rfl (lv_at hl_32 2 rfl) ?_
              refine kgtX0_38_24 F I_39 dX0_takeCosts_86 ?_
              refine lv_iload_n hx hb dX0_takeCosts_89 rfl (lv_at hl_32 5 rfl) ?_
              refine lv_iload hx hb dX0_takeCosts_90 (lv_at hl_32 6 rfl) ?_
              refine lv_iadd hx hb dX0_takeCosts_92 ?_
              refine lv_aload_n hx hb dX0_takeCosts_93 rfl (lv_at hl_32 2 rfl) ?_
              refine kgtX0_38_24 F I_39 dX0_takeCosts_94 ?_
              refine lv_iload hx hb dX0_takeCosts_97 (lv_at hl_32 0 rfl) ?_
              obtain ⟨g40, hf⟩ := ri_some hf
              refine kal29 F I_39 g40 dX0_takeCosts_99 ?_
              refine lv_iconst (v := (0 : Int32)) hx hb dX0_takeCosts_100 (by decide) ?_
              refine lv_aload_n hx hb dX0_takeCosts_101 rfl (lv_at hl_32 3 rfl) ?_
              refine lv_iload hx hb dX0_takeCosts_102 (lv_at hl_32 1 rfl) ?_
              refine lv_iconst (v := (4 : Int32)) hx hb dX0_takeCosts_104 (by decide) ?_
              refine lv_iadd hx hb dX0_takeCosts_105 ?_
              refine lv_iload_n hx hb dX0_takeCosts_106 rfl (lv_at hl_32 4 rfl) ?_
              obtain ⟨r41, h42, hf⟩ := bd_some hf
              refine s_callVi (As := [.int (r27 + (4 : Int32)), .int x2]) (rest := [.int (0 : Int32), .int (G38 38 x31.toNatClampNeg), .int (x9 + x18), .ref (ad 29)]) F I_39 (cC_LE_lead_22 G38 E Dd P L pf (r27 + (4 : Int32)) x2 r41 h42) kX0_64 ⟨rfl, rfl⟩ ⟨Nat.le_trans (Nat.le_of_ble_eq_true rfl) hRf, Nat.le_trans (Nat.le_of_ble_eq_true rfl) hRl⟩ 22 3 rfl rfl rfl rfl rfl hl_32.1 (Nat.le_of_ble_eq_true rfl) ⟨Nat.zero_le _, Nat.zero_le _⟩ dX0_takeCosts_107 ?_
              intro H_43 lo_43 I_43
              refine va_mmax hx hb (hml.trans hl_32.1.symm) hown (hG _ q705) (hG _ q467) (hG _ q126) (hG _ q468) (Nat.le_trans (Nat.le_of_ble_eq_true rfl) hRf) (Nat.le_trans (Nat.le_of_ble_eq_true rfl) hRl) (Nat.zero_le _) (Nat.zero_le _) dX0_takeCosts_110 ?_
              refine lv_iadd hx hb dX0_takeCosts_113 ?_
              obtain ⟨g44, hf⟩ := ri_some hf
              refine kas29 F I_43 g44 dX0_takeCosts_114 ?_
              intro H_46 lo_46 G45 eG45 I_46
              replace hf := nm_some eG45 hf
              obtain ⟨x47, ex47⟩ : ∃ y : Int32, y = x18 + (1 : Int32) := ⟨_, rfl⟩
              replace hf := nm_some ex47 hf
              refine lv_iinc (v := x47) (lv' := [(4, .int x47), (6, .int x31), (5, .int r27), (0, .ref (ad 24)), (1, .ref (ad 22)), (2, .int x2), (3, .int x9)]) hx hb dX0_takeCosts_115 hl_32 (k := 6) rfl (by rw [ex47]; rfl) (by decide) rfl (fun ls_48 hl_48 => ?_)
              refine lv_goto (tgt := 32) hx hb dX0_takeCosts_118 (by decide) ?_
              cases hf
              exact ih2 _ _ hK2 H_46 lo_46 I_46 ls_48 (lv_sub hl_48 [3, 4, 5, 6, 0] rfl)
        exact L2 FU _ _ hq2 H_16 lo_16 I_16 ls_17 (lv_sub hl_17 [2, 3, 4, 1, 0] rfl)
  exact L1 FU _ _ hq1 H lo I ls_1 (lv_sub hl_1 [1, 2, 0] rfl)
def C_BO_setWithout (a0 : Int32) (a1 : Int32) : Int32 :=
((a0 &&& (((1 : Int32) <<< (a1 &&& 31)) ^^^ (-1 : Int32))) &&& (255 : Int32))
set_option maxRecDepth 100000 in
set_option maxHeartbeats 4000000 in
theorem cC_BO_setWithout (G : Nat → Nat → Int32) (E : Nat → Nat → Int64) (Dd : Nat → Nat → UInt64) (P : Nat → Option Nat) (L : List Nat) (pf : Nat → va_E) (a0 : Int32) (a1 : Int32) (rv : Int32)  (hv : rv = C_BO_setWithout a0 a1) : sMi D (cT cI cJ cD cS) (cW ad cI cJ cD cS) l yX0_setWithout (ws1 yX0_setWithout cX0_setWithout 2 (some .int)) ({ frames := 0, cells := 0, slots := 0, locals := 0 }) [.int a0, .int a1] (G, E, Dd, P, L, pf) (rv, (G, E, Dd, P, L, pf)) := by
  have hf : (some ((a0 &&& (((1 : Int32) <<< (a1 &&& 31)) ^^^ (-1 : Int32))) &&& (255 : Int32))) = some rv := by rw [hv]; rfl
  refine sMi_of (by decide) (Nat.le_of_ble_eq_true rfl) ?_
  intro p e R s m args below meth c A Q ls H lo F hRf hRl I hl ret
  obtain ⟨hx, hb, hml, hown, hG⟩ := id F
  replace hl : lv_has ls 2 [(0, .int a0), (1, .int a1)] := hl
  refine lv_iload_n hx hb dX0_setWithout_0 rfl (lv_at hl 0 rfl) ?_
  refine lv_iconst (v := (1 : Int32)) hx hb dX0_setWithout_1 (by decide) ?_
  refine lv_iload_n hx hb dX0_setWithout_2 rfl (lv_at hl 1 rfl) ?_
  refine lv_ishl hx hb dX0_setWithout_3 ?_
  refine lv_iconst (v := (-1 : Int32)) hx hb dX0_setWithout_4 (by decide) ?_
  refine lv_ixor hx hb dX0_setWithout_5 ?_
  refine lv_iand hx hb dX0_setWithout_6 ?_
  refine lv_sipush (v := (255 : Int32)) hx hb dX0_setWithout_7 (by decide) ?_
  refine lv_iand hx hb dX0_setWithout_10 ?_
  cases hf
  exact ret H lo _ ls I dX0_setWithout_11
def C_LT_contains (a0 : Int32) (a1 : Int32) : Option (Int32) :=
if (a0 >>> (a1 &&& 31)) &&& (1 : Int32) = 0 then
(some (0 : Int32))
else
(some (1 : Int32))
set_option maxRecDepth 100000 in
set_option maxHeartbeats 4000000 in
theorem cC_LT_contains (G : Nat → Nat → Int32) (E : Nat → Nat → Int64) (Dd : Nat → Nat → UInt64) (P : Nat → Option Nat) (L : List Nat) (pf : Nat → va_E) (a0 : Int32) (a1 : Int32) (rv : Int32)  (hf : C_LT_contains a0 a1 = some rv) : sMi D (cT cI cJ cD cS) (cW ad cI cJ cD cS) l yX11_contains (ws1 yX11_contains cX11_contains 2 (some .boolean)) ({ frames := 0, cells := 0, slots := 0, locals := 0 }) [.int a0, .int a1] (G, E, Dd, P, L, pf) (rv, (G, E, Dd, P, L, pf)) := by
  unfold C_LT_contains at hf
  refine sMz_of (by decide) (Nat.le_of_ble_eq_true rfl) ?_
  intro p e R s m args below meth c A Q ls H lo F hRf hRl I hl ret
  obtain ⟨hx, hb, hml, hown, hG⟩ := id F
  replace hl : lv_has ls 2 [(0, .int a0), (1, .int a1)] := hl
  refine lv_iload_n hx hb dX11_contains_0 rfl (lv_at hl 0 rfl) ?_
  refine lv_iload_n hx hb dX11_contains_1 rfl (lv_at hl 1 rfl) ?_
  refine lv_ishr hx hb dX11_contains_2 ?_
  refine lv_iconst (v := (1 : Int32)) hx hb dX11_contains_3 (by decide) ?_
  refine lv_iand hx hb dX11_contains_4 ?_
  refine lv_if_eq (tgt := 12) hx hb dX11_contains_5 (by decide) (fun c1 => ?_) (fun c1 => ?_)
  · replace hf := (if_pos c1).symm.trans hf
    refine lv_iconst (v := (0 : Int32)) hx hb dX11_contains_12 (by decide) ?_
    cases hf
    exact ret H lo _ ls I (Or.inl rfl) dX11_contains_13
  · replace hf := (if_neg c1).symm.trans hf
    refine lv_iconst (v := (1 : Int32)) hx hb dX11_contains_8 (by decide) ?_
    refine lv_goto (tgt := 13) hx hb dX11_contains_9 (by decide) ?_
    cases hf
    exact ret H lo _ ls I (Or.inr rfl) dX11_contains_13
def C_BO_costBefore (G : Nat → Nat → Int32) (a0 : Int32) (a1 : Int32) : Option (Int32) :=
nm ((a0 &&& (7 : Int32)) * (16 : Int32) : Int32) fun x1 =>
ri 128 (x1 + (a1 &&& (15 : Int32))) <|
ri 128 (x1 + ((a1 >>> ((4 : Int32) &&& 31)) &&& (15 : Int32))) <|
some ((G 37 (x1 + (a1 &&& (15 : Int32))).toNatClampNeg) + (G 38 (x1 + ((a1 >>> ((4 : Int32) &&& 31)) &&& (15 : Int32))).toNatClampNeg))
set_option maxRecDepth 100000 in
set_option maxHeartbeats 4000000 in
theorem cC_BO_costBefore (G : Nat → Nat → Int32) (E : Nat → Nat → Int64) (Dd : Nat → Nat → UInt64) (P : Nat → Option Nat) (L : List Nat) (pf : Nat → va_E) (a0 : Int32) (a1 : Int32) (rv : Int32)  (hf : C_BO_costBefore G a0 a1 = some rv) : sMi D (cT cI cJ cD cS) (cW ad cI cJ cD cS) l yX0_costBefore (ws1 yX0_costBefore cX0_costBefore 4 (some .int)) ({ frames := 0, cells := 0, slots := 0, locals := 0 }) [.ref (ad 24), .int a0, .int a1] (G, E, Dd, P, L, pf) (rv, (G, E, Dd, P, L, pf)) := by
  unfold C_BO_costBefore at hf
  refine sMi_of (by decide) (Nat.le_of_ble_eq_true rfl) ?_
  intro p e R s m args below meth c A Q ls H lo F hRf hRl I hl ret
  obtain ⟨hx, hb, hml, hown, hG⟩ := id F
  replace hl : lv_has ls 4 [(0, .ref (ad 24)), (1, .int a0), (2, .int a1)] := hl
  refine lv_iload_n hx hb dX0_costBefore_0 rfl (lv_at hl 1 rfl) ?_
  refine lv_bipush (v := (7 : Int32)) hx hb dX0_costBefore_1 (by decide) ?_
  refine lv_iand hx hb dX0_costBefore_3 ?_
  refine lv_bipush (v := (16 : Int32)) hx hb dX0_costBefore_4 (by decide) ?_
  refine lv_imul hx hb dX0_costBefore_6 ?_
  refine lv_topi (fun x1 ex1 => ?_)
  replace hf := nm_some ex1 hf
  refine lv_istore_n (lv' := [(3, .int x1), (0, .ref (ad 24)), (1, .int a0), (2, .int a1)]) hx hb dX0_costBefore_7 rfl hl (by decide) rfl (fun ls_2 hl_2 => ?_)
  refine lv_aload_n hx hb dX0_costBefore_8 rfl (lv_at hl_2 1 rfl) ?_
  refine kgtX0_35_24 F I dX0_costBefore_9 ?_
  refine lv_iload_n hx hb dX0_costBefore_12 rfl (lv_at hl_2 0 rfl) ?_
  refine lv_iload_n hx hb dX0_costBefore_13 rfl (lv_at hl_2 3 rfl) ?_
  refine lv_bipush (v := (15 : Int32)) hx hb dX0_costBefore_14 (by decide) ?_
  refine lv_iand hx hb dX0_costBefore_16 ?_
  refine lv_iadd hx hb dX0_costBefore_17 ?_
  obtain ⟨g3, hf⟩ := ri_some hf
  refine kal28 F I g3 dX0_costBefore_18 ?_
  refine lv_aload_n hx hb dX0_costBefore_19 rfl (lv_at hl_2 1 rfl) ?_
  refine kgtX0_38_24 F I dX0_costBefore_20 ?_
  refine lv_iload_n hx hb dX0_costBefore_23 rfl (lv_at hl_2 0 rfl) ?_
  refine lv_iload_n hx hb dX0_costBefore_24 rfl (lv_at hl_2 3 rfl) ?_
  refine lv_iconst (v := (4 : Int32)) hx hb dX0_costBefore_25 (by decide) ?_
  refine lv_ishr hx hb dX0_costBefore_26 ?_
  refine lv_bipush (v := (15 : Int32)) hx hb dX0_costBefore_27 (by decide) ?_
  refine lv_iand hx hb dX0_costBefore_29 ?_
  refine lv_iadd hx hb dX0_costBefore_30 ?_
  obtain ⟨g4, hf⟩ := ri_some hf
  refine kal29 F I g4 dX0_costBefore_31 ?_
  refine lv_iadd hx hb dX0_costBefore_32 ?_
  cases hf
  exact ret H lo _ ls_2 I dX0_costBefore_33
def C_BO_foremostOf_s1 (a0 : Int32) (G : Nat → Nat → Int32) (x2 : Int32) : Option ((Int32) ⊕ (Int32)) :=
if G 31 0 ≤ x2 then
(some (.inr (0 : Int32)))
else
(nm (C_BO_setWithout a0 x2) fun r5 =>
bd (C_LT_contains a0 x2) fun r9 =>
if r9 = 0 then
(nm (x2 + (1 : Int32) : Int32) fun x12 =>
some (.inl x12))
else
(ri 256 r5 <|
bd (C_BO_costBefore G x2 r5) fun r15 =>
ri 256 (a0 &&& (255 : Int32)) <|
if (G 35 r5.toNatClampNeg) + r15 = G 35 (a0 &&& (255 : Int32)).toNatClampNeg then
(some (.inr x2))
else
(nm (x2 + (1 : Int32) : Int32) fun x19 =>
some (.inl x19))))
def C_BO_foremostOf (G : Nat → Nat → Int32) (a0 : Int32) : Option (Int32) :=
lp (fun q => C_BO_foremostOf_s1 a0 G q) FU (0 : Int32)
set_option maxRecDepth 100000 in
set_option maxHeartbeats 4000000 in
theorem cC_BO_foremostOf (G : Nat → Nat → Int32) (E : Nat → Nat → Int64) (Dd : Nat → Nat → UInt64) (P : Nat → Option Nat) (L : List Nat) (pf : Nat → va_E) (a0 : Int32) (rv : Int32)  (hf : C_BO_foremostOf G a0 = some rv) : sMi D (cT cI cJ cD cS) (cW ad cI cJ cD cS) l yX0_foremostOf (ws1 yX0_foremostOf cX0_foremostOf 4 (some .int)) ({ frames := 1, cells := 0, slots := 0, locals := 23 }) [.ref (ad 24), .int a0] (G, E, Dd, P, L, pf) (rv, (G, E, Dd, P, L, pf)) := by
  unfold C_BO_foremostOf at hf
  refine sMi_of (by decide) (Nat.le_of_ble_eq_true rfl) ?_
  intro p e R s m args below meth c A Q ls H lo F hRf hRl I hl ret
  obtain ⟨hx, hb, hml, hown, hG⟩ := id F
  replace hl : lv_has ls 4 [(0, .ref (ad 24)), (1, .int a0)] := hl
  refine lv_iconst (v := (0 : Int32)) hx hb dX0_foremostOf_0 (by decide) ?_
  refine lv_istore_n (lv' := [(2, .int (0 : Int32)), (0, .ref (ad 24)), (1, .int a0)]) hx hb dX0_foremostOf_1 rfl hl (by decide) rfl (fun ls_1 hl_1 => ?_)
  have hq1 : lp (fun q => C_BO_foremostOf_s1 a0 G q) FU (0 : Int32) = some rv := hf
  have L1 : ∀ (n : Nat) (x2 : Int32), lp (fun q => C_BO_foremostOf_s1 a0 G q) n x2 = some rv → ∀ (H : Heap) (locs : List Loc), sInv D (cT cI cJ cD cS) (cW ad cI cJ cD cS) A s H locs (G, E, Dd, P, L, pf) → ∀ (ls : Array Slot), lv_has ls 4 [(0, .ref (ad 24)), (1, .int a0), (2, .int x2)] → W p l e R s m args below meth c H locs 0 0 Q (F0 m 2 ls []) := by
    intro n
    induction n with
    | zero => intro x2 hq; exact (lp_0 hq).elim
    | succ n ih1 =>
      intro x2 hq H_3 lo_3 I_3 ls_4 hl_4
      obtain ⟨y1, hf, hK1⟩ := lp_go hq
      replace hf : C_BO_foremostOf_s1 a0 G x2 = some y1 := hf
      unfold C_BO_foremostOf_s1 at hf
      refine lv_iload_n hx hb dX0_foremostOf_2 rfl (lv_at hl_4 2 rfl) ?_
      refine lv_aload_n hx hb dX0_foremostOf_3 rfl (lv_at hl_4 0 rfl) ?_
      refine kgtX0_15_24 F I_3 dX0_foremostOf_4 ?_
      refine lv_icmp_ge (tgt := 58) hx hb dX0_foremostOf_7 (by decide) (fun c23 => ?_) (fun c23 => ?_)
      · replace hf := (if_pos c23).symm.trans hf
        refine lv_iconst (v := (0 : Int32)) hx hb dX0_foremostOf_58 (by decide) ?_
        cases hf
        have hf := congrArg some (show _ = _ from hK1)
        cases hf
        exact ret H_3 lo_3 _ ls_4 I_3 dX0_foremostOf_59
      · replace hf := (if_neg c23).symm.trans hf
        refine lv_iload_n hx hb dX0_foremostOf_10 rfl (lv_at hl_4 1 rfl) ?_
        refine lv_iload_n hx hb dX0_foremostOf_11 rfl (lv_at hl_4 2 rfl) ?_
        obtain ⟨r5, h6⟩ : ∃ z, z = C_BO_setWithout a0 x2 := ⟨_, rfl⟩
        replace hf := nm_some h6 hf
        refine s_callSi (As := [.int a0, .int x2]) (rest := []) F I_3 (cC_BO_setWithout G E Dd P L pf a0 x2 r5 h6) kX0_77 ⟨rfl, rfl⟩ ⟨Nat.le_trans (Nat.le_of_ble_eq_true rfl) hRf, Nat.le_trans (Nat.le_of_ble_eq_true rfl) hRl⟩ rfl rfl hl_4.1 (Nat.le_of_ble_eq_true rfl) ⟨Nat.zero_le _, Nat.zero_le _⟩ dX0_foremostOf_12 ?_
        intro H_7 lo_7 I_7
        refine lv_istore_n (lv' := [(3, .int r5), (0, .ref (ad 24)), (1, .int a0), (2, .int x2)]) hx hb dX0_foremostOf_15 rfl hl_4 (by decide) rfl (fun ls_8 hl_8 => ?_)
        refine lv_iload_n hx hb dX0_foremostOf_16 rfl (lv_at hl_8 2 rfl) ?_
        refine lv_iload_n hx hb dX0_foremostOf_17 rfl (lv_at hl_8 3 rfl) ?_
        obtain ⟨r9, h10, hf⟩ := bd_some hf
        refine s_callSNi (As := [.int a0, .int x2]) (rest := []) F I_7 (cC_LT_contains G E Dd P L pf a0 x2 r9 h10) kX0_73 ⟨rfl, rfl⟩ ⟨Nat.le_trans (Nat.le_of_ble_eq_true rfl) hRf, Nat.le_trans (Nat.le_of_ble_eq_true rfl) hRl⟩ rfl rfl hl_8.1 (Nat.le_of_ble_eq_true rfl) ⟨Nat.zero_le _, Nat.zero_le _⟩ dX0_foremostOf_18 ?_
        intro H_11 lo_11 I_11
        refine lv_if_eq (tgt := 52) hx hb dX0_foremostOf_21 (by decide) (fun c22 => ?_) (fun c22 => ?_)
        · replace hf := (if_pos c22).symm.trans hf
          obtain ⟨x12, ex12⟩ : ∃ y : Int32, y = x2 + (1 : Int32) := ⟨_, rfl⟩
          replace hf := nm_some ex12 hf
          refine lv_iinc (v := x12) (lv' := [(2, .int x12), (3, .int r5), (0, .ref (ad 24)), (1, .int a0)]) hx hb dX0_foremostOf_52 hl_8 (k := 3) rfl (by rw [ex12]; rfl) (by decide) rfl (fun ls_13 hl_13 => ?_)
          refine lv_goto (tgt := 2) hx hb dX0_foremostOf_55 (by decide) ?_
          cases hf
          exact ih1 _ hK1 H_11 lo_11 I_11 ls_13 (lv_sub hl_13 [2, 3, 0] rfl)
        · replace hf := (if_neg c22).symm.trans hf
          refine lv_aload_n hx hb dX0_foremostOf_24 rfl (lv_at hl_8 1 rfl) ?_
          refine kgtX0_29_24 F I_11 dX0_foremostOf_25 ?_
          refine lv_iload_n hx hb dX0_foremostOf_28 rfl (lv_at hl_8 0 rfl) ?_
          obtain ⟨g14, hf⟩ := ri_some hf
          refine kal26 F I_11 g14 dX0_foremostOf_29 ?_
          refine lv_aload_n hx hb dX0_foremostOf_30 rfl (lv_at hl_8 1 rfl) ?_
          refine lv_iload_n hx hb dX0_foremostOf_31 rfl (lv_at hl_8 3 rfl) ?_
          refine lv_iload_n hx hb dX0_foremostOf_32 rfl (lv_at hl_8 0 rfl) ?_
          obtain ⟨r15, h16, hf⟩ := bd_some hf
          refine s_callVi (As := [.int x2, .int r5]) (rest := [.int (G 35 r5.toNatClampNeg)]) F I_11 (cC_BO_costBefore G E Dd P L pf x2 r5 r15 h16) kX0_80 ⟨rfl, rfl⟩ ⟨Nat.le_trans (Nat.le_of_ble_eq_true rfl) hRf, Nat.le_trans (Nat.le_of_ble_eq_true rfl) hRl⟩ 24 0 rfl rfl rfl rfl rfl hl_8.1 (Nat.le_of_ble_eq_true rfl) ⟨Nat.zero_le _, Nat.zero_le _⟩ dX0_foremostOf_33 ?_
          intro H_17 lo_17 I_17
          refine lv_iadd hx hb dX0_foremostOf_36 ?_
          refine lv_aload_n hx hb dX0_foremostOf_37 rfl (lv_at hl_8 1 rfl) ?_
          refine kgtX0_29_24 F I_17 dX0_foremostOf_38 ?_
          refine lv_iload_n hx hb dX0_foremostOf_41 rfl (lv_at hl_8 2 rfl) ?_
          refine lv_sipush (v := (255 : Int32)) hx hb dX0_foremostOf_42 (by decide) ?_
          refine lv_iand hx hb dX0_foremostOf_45 ?_
          obtain ⟨g18, hf⟩ := ri_some hf
          refine kal26 F I_17 g18 dX0_foremostOf_46 ?_
          refine lv_icmp_ne (tgt := 52) hx hb dX0_foremostOf_47 (by decide) (fun c21 => ?_) (fun c21 => ?_)
          · replace hf := (if_neg c21).symm.trans hf
            obtain ⟨x19, ex19⟩ : ∃ y : Int32, y = x2 + (1 : Int32) := ⟨_, rfl⟩
            replace hf := nm_some ex19 hf
            refine lv_iinc (v := x19) (lv' := [(2, .int x19), (3, .int r5), (0, .ref (ad 24)), (1, .int a0)]) hx hb dX0_foremostOf_52 hl_8 (k := 3) rfl (by rw [ex19]; rfl) (by decide) rfl (fun ls_20 hl_20 => ?_)
            refine lv_goto (tgt := 2) hx hb dX0_foremostOf_55 (by decide) ?_
            cases hf
            exact ih1 _ hK1 H_17 lo_17 I_17 ls_20 (lv_sub hl_20 [2, 3, 0] rfl)
          · replace hf := (if_pos c21).symm.trans hf
            refine lv_iload_n hx hb dX0_foremostOf_50 rfl (lv_at hl_8 3 rfl) ?_
            cases hf
            have hf := congrArg some (show _ = _ from hK1)
            cases hf
            exact ret H_17 lo_17 _ ls_8 I_17 dX0_foremostOf_51
  exact L1 FU _ hq1 H lo I ls_1 (lv_sub hl_1 [1, 2, 0] rfl)
def C_BO_readOff_s1  (x4 : Int32) (x5 : Int32) (G6 : Nat → Nat → Int32) : Option ((Int32 × Int32 × (Nat → Nat → Int32)) ⊕ ((Nat → Nat → Int32))) :=
if G6 31 0 ≤ x5 then
(some (.inr G6))
else
(bd (C_BO_foremostOf G6 x4) fun r12 =>
ri 8 x5 <|
nm (wr G6 34 x5 r12) fun G17 =>
nm (C_BO_setWithout x4 r12) fun r19 =>
nm (x5 + (1 : Int32) : Int32) fun x23 =>
some (.inl (r19, x23, G17)))
def C_BO_readOff (G : Nat → Nat → Int32) (a0 : Int32) : Option ((Nat → Nat → Int32)) :=
nm (a0 &&& (255 : Int32) : Int32) fun x1 =>
bd (lp (fun q => C_BO_readOff_s1 q.1 q.2.1 q.2.2) FU (x1, (0 : Int32), G)) fun G7 =>
some G7
set_option maxRecDepth 100000 in
set_option maxHeartbeats 4000000 in
theorem cC_BO_readOff (G : Nat → Nat → Int32) (E : Nat → Nat → Int64) (Dd : Nat → Nat → UInt64) (P : Nat → Option Nat) (L : List Nat) (pf : Nat → va_E) (a0 : Int32)  (newG : Nat → Nat → Int32) (hf : C_BO_readOff G a0 = some newG) : sMv D (cT cI cJ cD cS) (cW ad cI cJ cD cS) l yX0_readOff (ws1 yX0_readOff cX0_readOff 5 none) ({ frames := 2, cells := 0, slots := 0, locals := 46 }) [.ref (ad 24), .int a0] (G, E, Dd, P, L, pf) (newG, E, Dd, P, L, pf) := by
  unfold C_BO_readOff at hf
  refine sMv_of (by decide) (Nat.le_of_ble_eq_true rfl) ?_
  intro p e R s m args below meth c A Q ls H lo F hRf hRl I hl ret
  obtain ⟨hx, hb, hml, hown, hG⟩ := id F
  replace hl : lv_has ls 5 [(0, .ref (ad 24)), (1, .int a0)] := hl
  refine lv_iload_n hx hb dX0_readOff_0 rfl (lv_at hl 1 rfl) ?_
  refine lv_sipush (v := (255 : Int32)) hx hb dX0_readOff_1 (by decide) ?_
  refine lv_iand hx hb dX0_readOff_4 ?_
  refine lv_topi (fun x1 ex1 => ?_)
  replace hf := nm_some ex1 hf
  refine lv_istore_n (lv' := [(2, .int x1), (0, .ref (ad 24)), (1, .int a0)]) hx hb dX0_readOff_5 rfl hl (by decide) rfl (fun ls_2 hl_2 => ?_)
  refine lv_iconst (v := (0 : Int32)) hx hb dX0_readOff_6 (by decide) ?_
  refine lv_istore_n (lv' := [(3, .int (0 : Int32)), (2, .int x1), (0, .ref (ad 24)), (1, .int a0)]) hx hb dX0_readOff_7 rfl hl_2 (by decide) rfl (fun ls_3 hl_3 => ?_)
  obtain ⟨G7, hq1, hf⟩ := bd_some hf
  have K1 : ∀ (H : Heap) (locs : List Loc), sInv D (cT cI cJ cD cS) (cW ad cI cJ cD cS) A s H locs (G7, E, Dd, P, L, pf) → ∀ (ls : Array Slot), lv_has ls 5 [] → W p l e R s m args below meth c H locs 0 0 Q (F0 m 44 ls []) := by
    intro H_8 lo_8 I_8 ls_9 hl_9
    cases hf
    exact ret H_8 lo_8 _ ls_9 I_8 dX0_readOff_44
  have L1 : ∀ (n : Nat) (x4 : Int32) (x5 : Int32) (G6 : Nat → Nat → Int32), lp (fun q => C_BO_readOff_s1 q.1 q.2.1 q.2.2) n (x4, x5, G6) = some G7 → ∀ (H : Heap) (locs : List Loc), sInv D (cT cI cJ cD cS) (cW ad cI cJ cD cS) A s H locs (G6, E, Dd, P, L, pf) → ∀ (ls : Array Slot), lv_has ls 5 [(0, .ref (ad 24)), (2, .int x4), (3, .int x5)] → W p l e R s m args below meth c H locs 0 0 Q (F0 m 8 ls []) := by
    intro n
    induction n with
    | zero => intro x4 x5 G6 hq; exact (lp_0 hq).elim
    | succ n ih1 =>
      intro x4 x5 G6 hq H_10 lo_10 I_10 ls_11 hl_11
      obtain ⟨y1, hf, hK1⟩ := lp_go hq
      replace hf : C_BO_readOff_s1 x4 x5 G6 = some y1 := hf
      unfold C_BO_readOff_s1 at hf
      refine lv_iload_n hx hb dX0_readOff_8 rfl (lv_at hl_11 2 rfl) ?_
      refine lv_aload_n hx hb dX0_readOff_9 rfl (lv_at hl_11 0 rfl) ?_
      refine kgtX0_15_24 F I_10 dX0_readOff_10 ?_
      refine lv_icmp_ge (tgt := 44) hx hb dX0_readOff_13 (by decide) (fun c25 => ?_) (fun c25 => ?_)
      · replace hf := (if_pos c25).symm.trans hf
        cases hf
        cases (show G6 = G7 from hK1)
        exact K1 H_10 lo_10 I_10 ls_11 (lv_sub hl_11 [] rfl)
      · replace hf := (if_neg c25).symm.trans hf
        refine lv_aload_n hx hb dX0_readOff_16 rfl (lv_at hl_11 0 rfl) ?_
        refine lv_iload_n hx hb dX0_readOff_17 rfl (lv_at hl_11 1 rfl) ?_
        obtain ⟨r12, h13, hf⟩ := bd_some hf
        refine s_callVi (As := [.int x4]) (rest := []) F I_10 (cC_BO_foremostOf G6 E Dd P L pf x4 r12 h13) kX0_83 ⟨rfl, rfl⟩ ⟨Nat.le_trans (Nat.le_of_ble_eq_true rfl) hRf, Nat.le_trans (Nat.le_of_ble_eq_true rfl) hRl⟩ 24 0 rfl rfl rfl rfl rfl hl_11.1 (Nat.le_of_ble_eq_true rfl) ⟨Nat.zero_le _, Nat.zero_le _⟩ dX0_readOff_18 ?_
        intro H_14 lo_14 I_14
        refine lv_istore (lv' := [(4, .int r12), (0, .ref (ad 24)), (2, .int x4), (3, .int x5)]) hx hb dX0_readOff_21 hl_11 (by decide) rfl (fun ls_15 hl_15 => ?_)
        refine lv_aload_n hx hb dX0_readOff_23 rfl (lv_at hl_15 1 rfl) ?_
        refine kgtX0_25_24 F I_14 dX0_readOff_24 ?_
        refine lv_iload_n hx hb dX0_readOff_27 rfl (lv_at hl_15 3 rfl) ?_
        refine lv_iload hx hb dX0_readOff_28 (lv_at hl_15 0 rfl) ?_
        obtain ⟨g16, hf⟩ := ri_some hf
        refine kas25 F I_14 g16 dX0_readOff_30 ?_
        intro H_18 lo_18 G17 eG17 I_18
        replace hf := nm_some eG17 hf
        refine lv_iload_n hx hb dX0_readOff_31 rfl (lv_at hl_15 2 rfl) ?_
        refine lv_iload hx hb dX0_readOff_32 (lv_at hl_15 0 rfl) ?_
        obtain ⟨r19, h20⟩ : ∃ z, z = C_BO_setWithout x4 r12 := ⟨_, rfl⟩
        replace hf := nm_some h20 hf
        refine s_callSi (As := [.int x4, .int r12]) (rest := []) F I_18 (cC_BO_setWithout G17 E Dd P L pf x4 r12 r19 h20) kX0_77 ⟨rfl, rfl⟩ ⟨Nat.le_trans (Nat.le_of_ble_eq_true rfl) hRf, Nat.le_trans (Nat.le_of_ble_eq_true rfl) hRl⟩ rfl rfl hl_15.1 (Nat.le_of_ble_eq_true rfl) ⟨Nat.zero_le _, Nat.zero_le _⟩ dX0_readOff_34 ?_
        intro H_21 lo_21 I_21
        refine lv_istore_n (lv' := [(2, .int r19), (4, .int r12), (0, .ref (ad 24)), (3, .int x5)]) hx hb dX0_readOff_37 rfl hl_15 (by decide) rfl (fun ls_22 hl_22 => ?_)
        obtain ⟨x23, ex23⟩ : ∃ y : Int32, y = x5 + (1 : Int32) := ⟨_, rfl⟩
        replace hf := nm_some ex23 hf
        refine lv_iinc (v := x23) (lv' := [(3, .int x23), (2, .int r19), (4, .int r12), (0, .ref (ad 24))]) hx hb dX0_readOff_38 hl_22 (k := 3) rfl (by rw [ex23]; rfl) (by decide) rfl (fun ls_24 hl_24 => ?_)
        refine lv_goto (tgt := 8) hx hb dX0_readOff_41 (by decide) ?_
        cases hf
        exact ih1 _ _ _ hK1 H_21 lo_21 I_21 ls_24 (lv_sub hl_24 [3, 1, 0] rfl)
  exact L1 FU _ _ _ hq1 H lo I ls_3 (lv_sub hl_3 [2, 1, 0] rfl)
def C_BO_solve_s1 (a0 : Int32) (G : Nat → Nat → Int32) (x4 : Int32) (x5 : Int32) (x6 : Int32) : Option ((Int32 × Int32 × Int32) ⊕ (Int32 × Int32)) :=
if G 31 0 ≤ x6 then
(some (.inr (x4, x5)))
else
(bd (C_LT_contains a0 x6) fun r19 =>
bd2 (if r19 = 0 then
(some (x4, x5))
else
(nm (C_BO_setWithout a0 x6) fun r30 =>
ri 256 r30 <|
bd (C_BO_costBefore G x6 r30) fun r35 =>
nm ((G 35 r30.toNatClampNeg) + r35 : Int32) fun x38 =>
bd2 (if x4 ≤ x38 then
(some (x4, x5))
else
(some (x38, (0 : Int32)))) fun x41 x42 =>
if x38 = x41 then
(ri 256 r30 <|
nm (x42 + (G 36 r30.toNatClampNeg) : Int32) fun x46 =>
some (x41, x46))
else
(some (x41, x42)))) fun x23 x24 =>
nm (x6 + (1 : Int32) : Int32) fun x27 =>
some (.inl (x23, x24, x27)))
def C_BO_solve (G : Nat → Nat → Int32) (a0 : Int32) : Option ((Nat → Nat → Int32)) :=
bd2 (lp (fun q => C_BO_solve_s1 a0 G q.1 q.2.1 q.2.2) FU ((2147483647 : Int32), (0 : Int32), (0 : Int32))) fun r7 r8 =>
ri 256 (a0 &&& (255 : Int32)) <|
nm (wr G 35 (a0 &&& (255 : Int32)) r7) fun G12 =>
ri 256 (a0 &&& (255 : Int32)) <|
nm (wr G12 36 (a0 &&& (255 : Int32)) r8) fun G15 =>
some G15
set_option maxRecDepth 100000 in
set_option maxHeartbeats 4000000 in
theorem cC_BO_solve (G : Nat → Nat → Int32) (E : Nat → Nat → Int64) (Dd : Nat → Nat → UInt64) (P : Nat → Option Nat) (L : List Nat) (pf : Nat → va_E) (a0 : Int32)  (newG : Nat → Nat → Int32) (hf : C_BO_solve G a0 = some newG) : sMv D (cT cI cJ cD cS) (cW ad cI cJ cD cS) l yX0_solve (ws1 yX0_solve cX0_solve 7 none) ({ frames := 1, cells := 0, slots := 0, locals := 23 }) [.ref (ad 24), .int a0] (G, E, Dd, P, L, pf) (newG, E, Dd, P, L, pf) := by
  unfold C_BO_solve at hf
  refine sMv_of (by decide) (Nat.le_of_ble_eq_true rfl) ?_
  intro p e R s m args below meth c A Q ls H lo F hRf hRl I hl ret
  obtain ⟨hx, hb, hml, hown, hG⟩ := id F
  replace hl : lv_has ls 7 [(0, .ref (ad 24)), (1, .int a0)] := hl
  refine lv_ldc (v := (2147483647 : Int32)) hx hb hown (hG _ q710) dX0_solve_0 ?_
  refine lv_istore_n (lv' := [(2, .int (2147483647 : Int32)), (0, .ref (ad 24)), (1, .int a0)]) hx hb dX0_solve_2 rfl hl (by decide) rfl (fun ls_1 hl_1 => ?_)
  refine lv_iconst (v := (0 : Int32)) hx hb dX0_solve_3 (by decide) ?_
  refine lv_istore_n (lv' := [(3, .int (0 : Int32)), (2, .int (2147483647 : Int32)), (0, .ref (ad 24)), (1, .int a0)]) hx hb dX0_solve_4 rfl hl_1 (by decide) rfl (fun ls_2 hl_2 => ?_)
  refine lv_iconst (v := (0 : Int32)) hx hb dX0_solve_5 (by decide) ?_
  refine lv_istore (lv' := [(4, .int (0 : Int32)), (3, .int (0 : Int32)), (2, .int (2147483647 : Int32)), (0, .ref (ad 24)), (1, .int a0)]) hx hb dX0_solve_6 hl_2 (by decide) rfl (fun ls_3 hl_3 => ?_)
  obtain ⟨r7, r8, hq1, hf⟩ := bd2_some hf
  have K1 : ∀ (H : Heap) (locs : List Loc), sInv D (cT cI cJ cD cS) (cW ad cI cJ cD cS) A s H locs (G, E, Dd, P, L, pf) → ∀ (ls : Array Slot), lv_has ls 7 [(0, .ref (ad 24)), (1, .int a0), (2, .int r7), (3, .int r8)] → W p l e R s m args below meth c H locs 0 0 Q (F0 m 85 ls []) := by
    intro H_9 lo_9 I_9 ls_10 hl_10
    refine lv_aload_n hx hb dX0_solve_85 rfl (lv_at hl_10 0 rfl) ?_
    refine kgtX0_29_24 F I_9 dX0_solve_86 ?_
    refine lv_iload_n hx hb dX0_solve_89 rfl (lv_at hl_10 1 rfl) ?_
    refine lv_sipush (v := (255 : Int32)) hx hb dX0_solve_90 (by decide) ?_
    refine lv_iand hx hb dX0_solve_93 ?_
    refine lv_iload_n hx hb dX0_solve_94 rfl (lv_at hl_10 2 rfl) ?_
    obtain ⟨g11, hf⟩ := ri_some hf
    refine kas26 F I_9 g11 dX0_solve_95 ?_
    intro H_13 lo_13 G12 eG12 I_13
    replace hf := nm_some eG12 hf
    refine lv_aload_n hx hb dX0_solve_96 rfl (lv_at hl_10 0 rfl) ?_
    refine kgtX0_32_24 F I_13 dX0_solve_97 ?_
    refine lv_iload_n hx hb dX0_solve_100 rfl (lv_at hl_10 1 rfl) ?_
    refine lv_sipush (v := (255 : Int32)) hx hb dX0_solve_101 (by decide) ?_
    refine lv_iand hx hb dX0_solve_104 ?_
    refine lv_iload_n hx hb dX0_solve_105 rfl (lv_at hl_10 3 rfl) ?_
    obtain ⟨g14, hf⟩ := ri_some hf
    refine kas27 F I_13 g14 dX0_solve_106 ?_
    intro H_16 lo_16 G15 eG15 I_16
    replace hf := nm_some eG15 hf
    cases hf
    exact ret H_16 lo_16 _ ls_10 I_16 dX0_solve_107
  have L1 : ∀ (n : Nat) (x4 : Int32) (x5 : Int32) (x6 : Int32), lp (fun q => C_BO_solve_s1 a0 G q.1 q.2.1 q.2.2) n (x4, x5, x6) = some (r7, r8) → ∀ (H : Heap) (locs : List Loc), sInv D (cT cI cJ cD cS) (cW ad cI cJ cD cS) A s H locs (G, E, Dd, P, L, pf) → ∀ (ls : Array Slot), lv_has ls 7 [(0, .ref (ad 24)), (1, .int a0), (2, .int x4), (3, .int x5), (4, .int x6)] → W p l e R s m args below meth c H locs 0 0 Q (F0 m 8 ls []) := by
    intro n
    induction n with
    | zero => intro x4 x5 x6 hq; exact (lp_0 hq).elim
    | succ n ih1 =>
      intro x4 x5 x6 hq H_17 lo_17 I_17 ls_18 hl_18
      obtain ⟨y1, hf, hK1⟩ := lp_go hq
      replace hf : C_BO_solve_s1 a0 G x4 x5 x6 = some y1 := hf
      unfold C_BO_solve_s1 at hf
      refine lv_iload hx hb dX0_solve_8 (lv_at hl_18 4 rfl) ?_
      refine lv_aload_n hx hb dX0_solve_10 rfl (lv_at hl_18 0 rfl) ?_
      refine kgtX0_15_24 F I_17 dX0_solve_11 ?_
      refine lv_icmp_ge (tgt := 85) hx hb dX0_solve_14 (by decide) (fun c54 => ?_) (fun c54 => ?_)
      · replace hf := (if_pos c54).symm.trans hf
        cases hf
        cases (show (x4, x5) = (r7, r8) from hK1)
        exact K1 H_17 lo_17 I_17 ls_18 (lv_sub hl_18 [0, 1, 2, 3] rfl)
      · replace hf := (if_neg c54).symm.trans hf
        refine lv_iload_n hx hb dX0_solve_17 rfl (lv_at hl_18 1 rfl) ?_
        refine lv_iload hx hb dX0_solve_18 (lv_at hl_18 4 rfl) ?_
        obtain ⟨r19, h20, hf⟩ := bd_some hf
        refine s_callSNi (As := [.int a0, .int x6]) (rest := []) F I_17 (cC_LT_contains G E Dd P L pf a0 x6 r19 h20) kX0_73 ⟨rfl, rfl⟩ ⟨Nat.le_trans (Nat.le_of_ble_eq_true rfl) hRf, Nat.le_trans (Nat.le_of_ble_eq_true rfl) hRl⟩ rfl rfl hl_18.1 (Nat.le_of_ble_eq_true rfl) ⟨Nat.zero_le _, Nat.zero_le _⟩ dX0_solve_20 ?_
        intro H_21 lo_21 I_21
        obtain ⟨x23, x24, hv29, hf⟩ := bd2_some hf
        have J22 : ∀ (H : Heap) (locs : List Loc), sInv D (cT cI cJ cD cS) (cW ad cI cJ cD cS) A s H locs (G, E, Dd, P, L, pf) → ∀ (ls : Array Slot), lv_has ls 7 [(0, .ref (ad 24)), (1, .int a0), (2, .int x23), (3, .int x24), (4, .int x6)] → W p l e R s m args below meth c H locs 0 0 Q (F0 m 79 ls []) := by
          intro H_25 lo_25 I_25 ls_26 hl_26
          obtain ⟨x27, ex27⟩ : ∃ y : Int32, y = x6 + (1 : Int32) := ⟨_, rfl⟩
          replace hf := nm_some ex27 hf
          refine lv_iinc (v := x27) (lv' := [(4, .int x27), (0, .ref (ad 24)), (1, .int a0), (2, .int x23), (3, .int x24)]) hx hb dX0_solve_79 hl_26 (k := 4) rfl (by rw [ex27]; rfl) (by decide) rfl (fun ls_28 hl_28 => ?_)
          refine lv_goto (tgt := 8) hx hb dX0_solve_82 (by decide) ?_
          cases hf
          exact ih1 _ _ _ hK1 H_25 lo_25 I_25 ls_28 (lv_sub hl_28 [1, 2, 3, 4, 0] rfl)
        replace hf := hv29
        refine lv_if_eq (tgt := 79) hx hb dX0_solve_23 (by decide) (fun c53 => ?_) (fun c53 => ?_)
        · replace hf := (if_pos c53).symm.trans hf
          cases hf
          exact J22 H_21 lo_21 I_21 ls_18 (lv_sub hl_18 [0, 1, 2, 3, 4] rfl)
        · replace hf := (if_neg c53).symm.trans hf
          refine lv_iload_n hx hb dX0_solve_26 rfl (lv_at hl_18 1 rfl) ?_
          refine lv_iload hx hb dX0_solve_27 (lv_at hl_18 4 rfl) ?_
          obtain ⟨r30, h31⟩ : ∃ z, z = C_BO_setWithout a0 x6 := ⟨_, rfl⟩
          replace hf := nm_some h31 hf
          refine s_callSi (As := [.int a0, .int x6]) (rest := []) F I_21 (cC_BO_setWithout G E Dd P L pf a0 x6 r30 h31) kX0_77 ⟨rfl, rfl⟩ ⟨Nat.le_trans (Nat.le_of_ble_eq_true rfl) hRf, Nat.le_trans (Nat.le_of_ble_eq_true rfl) hRl⟩ rfl rfl hl_18.1 (Nat.le_of_ble_eq_true rfl) ⟨Nat.zero_le _, Nat.zero_le _⟩ dX0_solve_29 ?_
          intro H_32 lo_32 I_32
          refine lv_istore (lv' := [(5, .int r30), (0, .ref (ad 24)), (1, .int a0), (2, .int x4), (3, .int x5), (4, .int x6)]) hx hb dX0_solve_32 hl_18 (by decide) rfl (fun ls_33 hl_33 => ?_)
          refine lv_aload_n hx hb dX0_solve_34 rfl (lv_at hl_33 1 rfl) ?_
          refine kgtX0_29_24 F I_32 dX0_solve_35 ?_
          refine lv_iload hx hb dX0_solve_38 (lv_at hl_33 0 rfl) ?_
          obtain ⟨g34, hf⟩ := ri_some hf
          refine kal26 F I_32 g34 dX0_solve_40 ?_
          refine lv_aload_n hx hb dX0_solve_41 rfl (lv_at hl_33 1 rfl) ?_
          refine lv_iload hx hb dX0_solve_42 (lv_at hl_33 5 rfl) ?_
          refine lv_iload hx hb dX0_solve_44 (lv_at hl_33 0 rfl) ?_
          obtain ⟨r35, h36, hf⟩ := bd_some hf
          refine s_callVi (As := [.int x6, .int r30]) (rest := [.int (G 35 r30.toNatClampNeg)]) F I_32 (cC_BO_costBefore G E Dd P L pf x6 r30 r35 h36) kX0_80 ⟨rfl, rfl⟩ ⟨Nat.le_trans (Nat.le_of_ble_eq_true rfl) hRf, Nat.le_trans (Nat.le_of_ble_eq_true rfl) hRl⟩ 24 0 rfl rfl rfl rfl rfl hl_33.1 (Nat.le_of_ble_eq_true rfl) ⟨Nat.zero_le _, Nat.zero_le _⟩ dX0_solve_46 ?_
          intro H_37 lo_37 I_37
          refine lv_iadd hx hb dX0_solve_49 ?_
          refine lv_topi (fun x38 ex38 => ?_)
          replace hf := nm_some ex38 hf
          refine lv_istore (lv' := [(6, .int x38), (5, .int r30), (0, .ref (ad 24)), (1, .int a0), (2, .int x4), (3, .int x5), (4, .int x6)]) hx hb dX0_solve_50 hl_33 (by decide) rfl (fun ls_39 hl_39 => ?_)
          refine lv_iload hx hb dX0_solve_52 (lv_at hl_39 0 rfl) ?_
          refine lv_iload_n hx hb dX0_solve_54 rfl (lv_at hl_39 4 rfl) ?_
          obtain ⟨x41, x42, hv49, hf⟩ := bd2_some hf
          have J40 : ∀ (H : Heap) (locs : List Loc), sInv D (cT cI cJ cD cS) (cW ad cI cJ cD cS) A s H locs (G, E, Dd, P, L, pf) → ∀ (ls : Array Slot), lv_has ls 7 [(0, .ref (ad 24)), (1, .int a0), (2, .int x41), (3, .int x42), (4, .int x6), (5, .int r30), (6, .int x38)] → W p l e R s m args below meth c H locs 0 0 Q (F0 m 63 ls []) := by
            intro H_43 lo_43 I_43 ls_44 hl_44
            refine lv_iload hx hb dX0_solve_63 (lv_at hl_44 6 rfl) ?_
            refine lv_iload_n hx hb dX0_solve_65 rfl (lv_at hl_44 2 rfl) ?_
            refine lv_icmp_ne (tgt := 79) hx hb dX0_solve_66 (by decide) (fun c48 => ?_) (fun c48 => ?_)
            · replace hf := (if_neg c48).symm.trans hf
              cases hf
              exact J22 H_43 lo_43 I_43 ls_44 (lv_sub hl_44 [0, 1, 2, 3, 4] rfl)
            · replace hf := (if_pos c48).symm.trans hf
              refine lv_iload_n hx hb dX0_solve_69 rfl (lv_at hl_44 3 rfl) ?_
              refine lv_aload_n hx hb dX0_solve_70 rfl (lv_at hl_44 0 rfl) ?_
              refine kgtX0_32_24 F I_43 dX0_solve_71 ?_
              refine lv_iload hx hb dX0_solve_74 (lv_at hl_44 5 rfl) ?_
              obtain ⟨g45, hf⟩ := ri_some hf
              refine kal27 F I_43 g45 dX0_solve_76 ?_
              refine lv_iadd hx hb dX0_solve_77 ?_
              refine lv_topi (fun x46 ex46 => ?_)
              replace hf := nm_some ex46 hf
              refine lv_istore_n (lv' := [(3, .int x46), (0, .ref (ad 24)), (1, .int a0), (2, .int x41), (4, .int x6), (5, .int r30), (6, .int x38)]) hx hb dX0_solve_78 rfl hl_44 (by decide) rfl (fun ls_47 hl_47 => ?_)
              cases hf
              exact J22 H_43 lo_43 I_43 ls_47 (lv_sub hl_47 [1, 2, 3, 0, 4] rfl)
          replace hf := hv49
          refine lv_icmp_ge (tgt := 63) hx hb dX0_solve_55 (by decide) (fun c52 => ?_) (fun c52 => ?_)
          · replace hf := (if_pos c52).symm.trans hf
            cases hf
            exact J40 H_37 lo_37 I_37 ls_39 (lv_sub hl_39 [2, 3, 4, 5, 6, 1, 0] rfl)
          · replace hf := (if_neg c52).symm.trans hf
            refine lv_iload hx hb dX0_solve_58 (lv_at hl_39 0 rfl) ?_
            refine lv_istore_n (lv' := [(2, .int x38), (6, .int x38), (5, .int r30), (0, .ref (ad 24)), (1, .int a0), (3, .int x5), (4, .int x6)]) hx hb dX0_solve_60 rfl hl_39 (by decide) rfl (fun ls_50 hl_50 => ?_)
            refine lv_iconst (v := (0 : Int32)) hx hb dX0_solve_61 (by decide) ?_
            refine lv_istore_n (lv' := [(3, .int (0 : Int32)), (2, .int x38), (6, .int x38), (5, .int r30), (0, .ref (ad 24)), (1, .int a0), (4, .int x6)]) hx hb dX0_solve_62 rfl hl_50 (by decide) rfl (fun ls_51 hl_51 => ?_)
            cases hf
            exact J40 H_37 lo_37 I_37 ls_51 (lv_sub hl_51 [4, 5, 1, 0, 6, 3, 2] rfl)
  exact L1 FU _ _ _ hq1 H lo I ls_3 (lv_sub hl_3 [3, 4, 2, 1, 0] rfl)
def C_BO_find_22_s1 (x14 : Int32) (x17 : Int32) (G18 : Nat → Nat → Int32) : Option ((Int32 × (Nat → Nat → Int32)) ⊕ ((Nat → Nat → Int32))) :=
if x14 < x17 then
(some (.inr G18))
else
(if (256 : Int32) ≤ x17 then
(some (.inr G18))
else
(bd (C_BO_solve G18 x17) fun G33 =>
nm (x17 + (1 : Int32) : Int32) fun x36 =>
some (.inl (x36, G33))))
def C_BO_find_22 (G : Nat → Nat → Int32) (a1 : Int32) : Option ((Nat → Nat → Int32)) :=
if G 30 0 = 0 then
(nm (wf G 30 (1 : Int32)) fun G1 =>
nm (wf G1 31 (if (8 : Int32) < a1 then (8 : Int32) else a1)) fun G3 =>
bd (C_BO_takeCosts_22 G3) fun G5 =>
ri 256 (0 : Int32) <|
nm (wr G5 35 (0 : Int32) (0 : Int32)) fun G9 =>
ri 256 (0 : Int32) <|
nm (wr G9 36 (0 : Int32) (1 : Int32)) fun G12 =>
nm (((1 : Int32) <<< ((G12 31 0) &&& 31)) - (1 : Int32) : Int32) fun x14 =>
bd (lp (fun q => C_BO_find_22_s1 x14 q.1 q.2) FU ((1 : Int32), G12)) fun G19 =>
ri 256 (x14 &&& (255 : Int32)) <|
nm (wf G19 32 (G19 35 (x14 &&& (255 : Int32)).toNatClampNeg)) fun G23 =>
ri 256 (x14 &&& (255 : Int32)) <|
nm (wf G23 33 (G23 36 (x14 &&& (255 : Int32)).toNatClampNeg)) fun G26 =>
bd (C_BO_readOff G26 x14) fun G28 =>
some G28)
else
(some G)
set_option maxRecDepth 100000 in
set_option maxHeartbeats 4000000 in
theorem cC_BO_find_22 (G : Nat → Nat → Int32) (E : Nat → Nat → Int64) (Dd : Nat → Nat → UInt64) (P : Nat → Option Nat) (L : List Nat) (pf : Nat → va_E) (a1 : Int32)  (newG : Nat → Nat → Int32) (hf : C_BO_find_22 G a1 = some newG) : sMv D (cT cI cJ cD cS) (cW ad cI cJ cD cS) l yX0_find (ws1 yX0_find cX0_find 5 none) ({ frames := 3, cells := 0, slots := 0, locals := 70 }) [.ref (ad 24), .ref (ad 22), .int a1] (G, E, Dd, P, L, pf) (newG, E, Dd, P, L, pf) := by
  unfold C_BO_find_22 at hf
  refine sMv_of (by decide) (Nat.le_of_ble_eq_true rfl) ?_
  intro p e R s m args below meth c A Q ls H lo F hRf hRl I hl ret
  obtain ⟨hx, hb, hml, hown, hG⟩ := id F
  replace hl : lv_has ls 5 [(0, .ref (ad 24)), (1, .ref (ad 22)), (2, .int a1)] := hl
  refine lv_aload_n hx hb dX0_find_0 rfl (lv_at hl 0 rfl) ?_
  refine kgtX0_9_24 F I dX0_find_1 ?_
  refine lv_if_eq (tgt := 8) hx hb dX0_find_4 (by decide) (fun c40 => ?_) (fun c40 => ?_)
  · replace hf := (if_pos c40).symm.trans hf
    refine lv_aload_n hx hb dX0_find_8 rfl (lv_at hl 0 rfl) ?_
    refine lv_iconst (v := (1 : Int32)) hx hb dX0_find_9 (by decide) ?_
    refine kptX0_9_24 F I (by decide) dX0_find_10 ?_
    intro H_2 lo_2 G1 eG1 I_2
    replace hf := nm_some eG1 hf
    refine lv_aload_n hx hb dX0_find_13 rfl (lv_at hl 0 rfl) ?_
    refine lv_iload_n hx hb dX0_find_14 rfl (lv_at hl 2 rfl) ?_
    refine lv_bipush (v := (8 : Int32)) hx hb dX0_find_15 (by decide) ?_
    refine va_mmin hx hb (hml.trans hl.1.symm) hown (hG _ q692) (hG _ q580) (hG _ q126) (hG _ q581) (Nat.le_trans (Nat.le_of_ble_eq_true rfl) hRf) (Nat.le_trans (Nat.le_of_ble_eq_true rfl) hRl) (Nat.zero_le _) (Nat.zero_le _) dX0_find_17 ?_
    refine kptX0_15_24 F I_2 dX0_find_20 ?_
    intro H_4 lo_4 G3 eG3 I_4
    replace hf := nm_some eG3 hf
    refine lv_aload_n hx hb dX0_find_23 rfl (lv_at hl 0 rfl) ?_
    refine lv_aload_n hx hb dX0_find_24 rfl (lv_at hl 1 rfl) ?_
    obtain ⟨G5, h6, hf⟩ := bd_some hf
    refine s_callVv (As := [.ref (ad 22)]) (rest := []) F I_4 (cC_BO_takeCosts_22 G3 E Dd P L pf G5 h6) kX0_47 ⟨rfl, rfl⟩ ⟨Nat.le_trans (Nat.le_of_ble_eq_true rfl) hRf, Nat.le_trans (Nat.le_of_ble_eq_true rfl) hRl⟩ 24 0 rfl rfl rfl rfl rfl hl.1 (Nat.le_of_ble_eq_true rfl) ⟨Nat.zero_le _, Nat.zero_le _⟩ dX0_find_25 ?_
    intro H_7 lo_7 I_7
    refine lv_aload_n hx hb dX0_find_28 rfl (lv_at hl 0 rfl) ?_
    refine kgtX0_29_24 F I_7 dX0_find_29 ?_
    refine lv_iconst (v := (0 : Int32)) hx hb dX0_find_32 (by decide) ?_
    refine lv_iconst (v := (0 : Int32)) hx hb dX0_find_33 (by decide) ?_
    obtain ⟨g8, hf⟩ := ri_some hf
    refine kas26 F I_7 g8 dX0_find_34 ?_
    intro H_10 lo_10 G9 eG9 I_10
    replace hf := nm_some eG9 hf
    refine lv_aload_n hx hb dX0_find_35 rfl (lv_at hl 0 rfl) ?_
    refine kgtX0_32_24 F I_10 dX0_find_36 ?_
    refine lv_iconst (v := (0 : Int32)) hx hb dX0_find_39 (by decide) ?_
    refine lv_iconst (v := (1 : Int32)) hx hb dX0_find_40 (by decide) ?_
    obtain ⟨g11, hf⟩ := ri_some hf
    refine kas27 F I_10 g11 dX0_find_41 ?_
    intro H_13 lo_13 G12 eG12 I_13
    replace hf := nm_some eG12 hf
    refine lv_iconst (v := (1 : Int32)) hx hb dX0_find_42 (by decide) ?_
    refine lv_aload_n hx hb dX0_find_43 rfl (lv_at hl 0 rfl) ?_
    refine kgtX0_15_24 F I_13 dX0_find_44 ?_
    refine lv_ishl hx hb dX0_find_47 ?_
    refine lv_iconst (v := (1 : Int32)) hx hb dX0_find_48 (by decide) ?_
    refine lv_isub hx hb dX0_find_49 ?_
    refine lv_topi (fun x14 ex14 => ?_)
    replace hf := nm_some ex14 hf
    refine lv_istore_n (lv' := [(3, .int x14), (0, .ref (ad 24)), (1, .ref (ad 22)), (2, .int a1)]) hx hb dX0_find_50 rfl hl (by decide) rfl (fun ls_15 hl_15 => ?_)
    refine lv_iconst (v := (1 : Int32)) hx hb dX0_find_51 (by decide) ?_
    refine lv_istore (lv' := [(4, .int (1 : Int32)), (3, .int x14), (0, .ref (ad 24)), (1, .ref (ad 22)), (2, .int a1)]) hx hb dX0_find_52 hl_15 (by decide) rfl (fun ls_16 hl_16 => ?_)
    obtain ⟨G19, hq1, hf⟩ := bd_some hf
    have K1 : ∀ (H : Heap) (locs : List Loc), sInv D (cT cI cJ cD cS) (cW ad cI cJ cD cS) A s H locs (G19, E, Dd, P, L, pf) → ∀ (ls : Array Slot), lv_has ls 5 [(0, .ref (ad 24)), (3, .int x14)] → W p l e R s m args below meth c H locs 0 0 Q (F0 m 80 ls []) := by
      intro H_20 lo_20 I_20 ls_21 hl_21
      refine lv_aload_n hx hb dX0_find_80 rfl (lv_at hl_21 0 rfl) ?_
      refine lv_aload_n hx hb dX0_find_81 rfl (lv_at hl_21 0 rfl) ?_
      refine kgtX0_29_24 F I_20 dX0_find_82 ?_
      refine lv_iload_n hx hb dX0_find_85 rfl (lv_at hl_21 1 rfl) ?_
      refine lv_sipush (v := (255 : Int32)) hx hb dX0_find_86 (by decide) ?_
      refine lv_iand hx hb dX0_find_89 ?_
      obtain ⟨g22, hf⟩ := ri_some hf
      refine kal26 F I_20 g22 dX0_find_90 ?_
      refine kptX0_19_24 F I_20 dX0_find_91 ?_
      intro H_24 lo_24 G23 eG23 I_24
      replace hf := nm_some eG23 hf
      refine lv_aload_n hx hb dX0_find_94 rfl (lv_at hl_21 0 rfl) ?_
      refine lv_aload_n hx hb dX0_find_95 rfl (lv_at hl_21 0 rfl) ?_
      refine kgtX0_32_24 F I_24 dX0_find_96 ?_
      refine lv_iload_n hx hb dX0_find_99 rfl (lv_at hl_21 1 rfl) ?_
      refine lv_sipush (v := (255 : Int32)) hx hb dX0_find_100 (by decide) ?_
      refine lv_iand hx hb dX0_find_103 ?_
      obtain ⟨g25, hf⟩ := ri_some hf
      refine kal27 F I_24 g25 dX0_find_104 ?_
      refine kptX0_22_24 F I_24 dX0_find_105 ?_
      intro H_27 lo_27 G26 eG26 I_27
      replace hf := nm_some eG26 hf
      refine lv_aload_n hx hb dX0_find_108 rfl (lv_at hl_21 0 rfl) ?_
      refine lv_iload_n hx hb dX0_find_109 rfl (lv_at hl_21 1 rfl) ?_
      obtain ⟨G28, h29, hf⟩ := bd_some hf
      refine s_callVv (As := [.int x14]) (rest := []) F I_27 (cC_BO_readOff G26 E Dd P L pf x14 G28 h29) kX0_55 ⟨rfl, rfl⟩ ⟨Nat.le_trans (Nat.le_of_ble_eq_true rfl) hRf, Nat.le_trans (Nat.le_of_ble_eq_true rfl) hRl⟩ 24 0 rfl rfl rfl rfl rfl hl_21.1 (Nat.le_of_ble_eq_true rfl) ⟨Nat.zero_le _, Nat.zero_le _⟩ dX0_find_110 ?_
      intro H_30 lo_30 I_30
      cases hf
      exact ret H_30 lo_30 _ ls_21 I_30 dX0_find_113
    have L1 : ∀ (n : Nat) (x17 : Int32) (G18 : Nat → Nat → Int32), lp (fun q => C_BO_find_22_s1 x14 q.1 q.2) n (x17, G18) = some G19 → ∀ (H : Heap) (locs : List Loc), sInv D (cT cI cJ cD cS) (cW ad cI cJ cD cS) A s H locs (G18, E, Dd, P, L, pf) → ∀ (ls : Array Slot), lv_has ls 5 [(0, .ref (ad 24)), (3, .int x14), (4, .int x17)] → W p l e R s m args below meth c H locs 0 0 Q (F0 m 54 ls []) := by
      intro n
      induction n with
      | zero => intro x17 G18 hq; exact (lp_0 hq).elim
      | succ n ih1 =>
        intro x17 G18 hq H_31 lo_31 I_31 ls_32 hl_32
        obtain ⟨y1, hf, hK1⟩ := lp_go hq
        replace hf : C_BO_find_22_s1 x14 x17 G18 = some y1 := hf
        unfold C_BO_find_22_s1 at hf
        refine lv_iload hx hb dX0_find_54 (lv_at hl_32 2 rfl) ?_
        refine lv_iload_n hx hb dX0_find_56 rfl (lv_at hl_32 1 rfl) ?_
        refine lv_icmp_gt (tgt := 80) hx hb dX0_find_57 (by decide) (fun c39 => ?_) (fun c39 => ?_)
        · replace hf := (if_pos c39).symm.trans hf
          cases hf
          cases (show G18 = G19 from hK1)
          exact K1 H_31 lo_31 I_31 ls_32 (lv_sub hl_32 [0, 1] rfl)
        · replace hf := (if_neg c39).symm.trans hf
          refine lv_iload hx hb dX0_find_60 (lv_at hl_32 2 rfl) ?_
          refine lv_sipush (v := (256 : Int32)) hx hb dX0_find_62 (by decide) ?_
          refine lv_icmp_ge (tgt := 80) hx hb dX0_find_65 (by decide) (fun c38 => ?_) (fun c38 => ?_)
          · replace hf := (if_pos c38).symm.trans hf
            cases hf
            cases (show G18 = G19 from hK1)
            exact K1 H_31 lo_31 I_31 ls_32 (lv_sub hl_32 [0, 1] rfl)
          · replace hf := (if_neg c38).symm.trans hf
            refine lv_aload_n hx hb dX0_find_68 rfl (lv_at hl_32 0 rfl) ?_
            refine lv_iload hx hb dX0_find_69 (lv_at hl_32 2 rfl) ?_
            obtain ⟨G33, h34, hf⟩ := bd_some hf
            refine s_callVv (As := [.int x17]) (rest := []) F I_31 (cC_BO_solve G18 E Dd P L pf x17 G33 h34) kX0_51 ⟨rfl, rfl⟩ ⟨Nat.le_trans (Nat.le_of_ble_eq_true rfl) hRf, Nat.le_trans (Nat.le_of_ble_eq_true rfl) hRl⟩ 24 0 rfl rfl rfl rfl rfl hl_32.1 (Nat.le_of_ble_eq_true rfl) ⟨Nat.zero_le _, Nat.zero_le _⟩ dX0_find_71 ?_
            intro H_35 lo_35 I_35
            obtain ⟨x36, ex36⟩ : ∃ y : Int32, y = x17 + (1 : Int32) := ⟨_, rfl⟩
            replace hf := nm_some ex36 hf
            refine lv_iinc (v := x36) (lv' := [(4, .int x36), (0, .ref (ad 24)), (3, .int x14)]) hx hb dX0_find_74 hl_32 (k := 2) rfl (by rw [ex36]; rfl) (by decide) rfl (fun ls_37 hl_37 => ?_)
            refine lv_goto (tgt := 54) hx hb dX0_find_77 (by decide) ?_
            cases hf
            exact ih1 _ _ hK1 H_35 lo_35 I_35 ls_37 (lv_sub hl_37 [1, 2, 0] rfl)
    exact L1 FU _ _ hq1 H_13 lo_13 I_13 ls_16 (lv_sub hl_16 [2, 1, 0] rfl)
  · replace hf := (if_neg c40).symm.trans hf
    cases hf
    exact ret H lo _ ls I dX0_find_7
def C_BO_sampleAt (G : Nat → Nat → Int32) (a0 : Int32) : Option (Int32) :=
if a0 < 0 then
(some (-1 : Int32))
else
(if G 31 0 ≤ a0 then
(some (-1 : Int32))
else
(ri 8 a0 <|
some (G 34 a0.toNatClampNeg)))
set_option maxRecDepth 100000 in
set_option maxHeartbeats 4000000 in
theorem cC_BO_sampleAt (G : Nat → Nat → Int32) (E : Nat → Nat → Int64) (Dd : Nat → Nat → UInt64) (P : Nat → Option Nat) (L : List Nat) (pf : Nat → va_E) (a0 : Int32) (rv : Int32)  (hf : C_BO_sampleAt G a0 = some rv) : sMi D (cT cI cJ cD cS) (cW ad cI cJ cD cS) l yX0_sampleAt (ws1 yX0_sampleAt cX0_sampleAt 2 (some .int)) ({ frames := 0, cells := 0, slots := 0, locals := 0 }) [.ref (ad 24), .int a0] (G, E, Dd, P, L, pf) (rv, (G, E, Dd, P, L, pf)) := by
  unfold C_BO_sampleAt at hf
  refine sMi_of (by decide) (Nat.le_of_ble_eq_true rfl) ?_
  intro p e R s m args below meth c A Q ls H lo F hRf hRl I hl ret
  obtain ⟨hx, hb, hml, hown, hG⟩ := id F
  replace hl : lv_has ls 2 [(0, .ref (ad 24)), (1, .int a0)] := hl
  refine lv_iload_n hx hb dX0_sampleAt_0 rfl (lv_at hl 1 rfl) ?_
  refine lv_if_lt (tgt := 21) hx hb dX0_sampleAt_1 (by decide) (fun c3 => ?_) (fun c3 => ?_)
  · replace hf := (if_pos c3).symm.trans hf
    refine lv_iconst (v := (-1 : Int32)) hx hb dX0_sampleAt_21 (by decide) ?_
    cases hf
    exact ret H lo _ ls I dX0_sampleAt_22
  · replace hf := (if_neg c3).symm.trans hf
    refine lv_iload_n hx hb dX0_sampleAt_4 rfl (lv_at hl 1 rfl) ?_
    refine lv_aload_n hx hb dX0_sampleAt_5 rfl (lv_at hl 0 rfl) ?_
    refine kgtX0_15_24 F I dX0_sampleAt_6 ?_
    refine lv_icmp_ge (tgt := 21) hx hb dX0_sampleAt_9 (by decide) (fun c2 => ?_) (fun c2 => ?_)
    · replace hf := (if_pos c2).symm.trans hf
      refine lv_iconst (v := (-1 : Int32)) hx hb dX0_sampleAt_21 (by decide) ?_
      cases hf
      exact ret H lo _ ls I dX0_sampleAt_22
    · replace hf := (if_neg c2).symm.trans hf
      refine lv_aload_n hx hb dX0_sampleAt_12 rfl (lv_at hl 0 rfl) ?_
      refine kgtX0_25_24 F I dX0_sampleAt_13 ?_
      refine lv_iload_n hx hb dX0_sampleAt_16 rfl (lv_at hl 1 rfl) ?_
      obtain ⟨g1, hf⟩ := ri_some hf
      refine kal25 F I g1 dX0_sampleAt_17 ?_
      refine lv_goto (tgt := 22) hx hb dX0_sampleAt_18 (by decide) ?_
      cases hf
      exact ret H lo _ ls I dX0_sampleAt_22
def C_BO_placeOf_s1 (a0 : Int32) (G : Nat → Nat → Int32) (x2 : Int32) : Option ((Int32) ⊕ (Int32)) :=
if G 31 0 ≤ x2 then
(some (.inr (-1 : Int32)))
else
(ri 8 x2 <|
if G 34 x2.toNatClampNeg = a0 then
(some (.inr x2))
else
(nm (x2 + (1 : Int32) : Int32) fun x6 =>
some (.inl x6)))
def C_BO_placeOf (G : Nat → Nat → Int32) (a0 : Int32) : Option (Int32) :=
lp (fun q => C_BO_placeOf_s1 a0 G q) FU (0 : Int32)
set_option maxRecDepth 100000 in
set_option maxHeartbeats 4000000 in
theorem cC_BO_placeOf (G : Nat → Nat → Int32) (E : Nat → Nat → Int64) (Dd : Nat → Nat → UInt64) (P : Nat → Option Nat) (L : List Nat) (pf : Nat → va_E) (a0 : Int32) (rv : Int32)  (hf : C_BO_placeOf G a0 = some rv) : sMi D (cT cI cJ cD cS) (cW ad cI cJ cD cS) l yX0_placeOf (ws1 yX0_placeOf cX0_placeOf 3 (some .int)) ({ frames := 0, cells := 0, slots := 0, locals := 0 }) [.ref (ad 24), .int a0] (G, E, Dd, P, L, pf) (rv, (G, E, Dd, P, L, pf)) := by
  unfold C_BO_placeOf at hf
  refine sMi_of (by decide) (Nat.le_of_ble_eq_true rfl) ?_
  intro p e R s m args below meth c A Q ls H lo F hRf hRl I hl ret
  obtain ⟨hx, hb, hml, hown, hG⟩ := id F
  replace hl : lv_has ls 3 [(0, .ref (ad 24)), (1, .int a0)] := hl
  refine lv_iconst (v := (0 : Int32)) hx hb dX0_placeOf_0 (by decide) ?_
  refine lv_istore_n (lv' := [(2, .int (0 : Int32)), (0, .ref (ad 24)), (1, .int a0)]) hx hb dX0_placeOf_1 rfl hl (by decide) rfl (fun ls_1 hl_1 => ?_)
  have hq1 : lp (fun q => C_BO_placeOf_s1 a0 G q) FU (0 : Int32) = some rv := hf
  have L1 : ∀ (n : Nat) (x2 : Int32), lp (fun q => C_BO_placeOf_s1 a0 G q) n x2 = some rv → ∀ (H : Heap) (locs : List Loc), sInv D (cT cI cJ cD cS) (cW ad cI cJ cD cS) A s H locs (G, E, Dd, P, L, pf) → ∀ (ls : Array Slot), lv_has ls 3 [(0, .ref (ad 24)), (1, .int a0), (2, .int x2)] → W p l e R s m args below meth c H locs 0 0 Q (F0 m 2 ls []) := by
    intro n
    induction n with
    | zero => intro x2 hq; exact (lp_0 hq).elim
    | succ n ih1 =>
      intro x2 hq H_3 lo_3 I_3 ls_4 hl_4
      obtain ⟨y1, hf, hK1⟩ := lp_go hq
      replace hf : C_BO_placeOf_s1 a0 G x2 = some y1 := hf
      unfold C_BO_placeOf_s1 at hf
      refine lv_iload_n hx hb dX0_placeOf_2 rfl (lv_at hl_4 2 rfl) ?_
      refine lv_aload_n hx hb dX0_placeOf_3 rfl (lv_at hl_4 0 rfl) ?_
      refine kgtX0_15_24 F I_3 dX0_placeOf_4 ?_
      refine lv_icmp_ge (tgt := 28) hx hb dX0_placeOf_7 (by decide) (fun c9 => ?_) (fun c9 => ?_)
      · replace hf := (if_pos c9).symm.trans hf
        refine lv_iconst (v := (-1 : Int32)) hx hb dX0_placeOf_28 (by decide) ?_
        cases hf
        have hf := congrArg some (show _ = _ from hK1)
        cases hf
        exact ret H_3 lo_3 _ ls_4 I_3 dX0_placeOf_29
      · replace hf := (if_neg c9).symm.trans hf
        refine lv_aload_n hx hb dX0_placeOf_10 rfl (lv_at hl_4 0 rfl) ?_
        refine kgtX0_25_24 F I_3 dX0_placeOf_11 ?_
        refine lv_iload_n hx hb dX0_placeOf_14 rfl (lv_at hl_4 2 rfl) ?_
        obtain ⟨g5, hf⟩ := ri_some hf
        refine kal25 F I_3 g5 dX0_placeOf_15 ?_
        refine lv_iload_n hx hb dX0_placeOf_16 rfl (lv_at hl_4 1 rfl) ?_
        refine lv_icmp_ne (tgt := 22) hx hb dX0_placeOf_17 (by decide) (fun c8 => ?_) (fun c8 => ?_)
        · replace hf := (if_neg c8).symm.trans hf
          obtain ⟨x6, ex6⟩ : ∃ y : Int32, y = x2 + (1 : Int32) := ⟨_, rfl⟩
          replace hf := nm_some ex6 hf
          refine lv_iinc (v := x6) (lv' := [(2, .int x6), (0, .ref (ad 24)), (1, .int a0)]) hx hb dX0_placeOf_22 hl_4 (k := 2) rfl (by rw [ex6]; rfl) (by decide) rfl (fun ls_7 hl_7 => ?_)
          refine lv_goto (tgt := 2) hx hb dX0_placeOf_25 (by decide) ?_
          cases hf
          exact ih1 _ hK1 H_3 lo_3 I_3 ls_7 (lv_sub hl_7 [1, 2, 0] rfl)
        · replace hf := (if_pos c8).symm.trans hf
          refine lv_iload_n hx hb dX0_placeOf_20 rfl (lv_at hl_4 2 rfl) ?_
          cases hf
          have hf := congrArg some (show _ = _ from hK1)
          cases hf
          exact ret H_3 lo_3 _ ls_4 I_3 dX0_placeOf_21
  exact L1 FU _ hq1 H lo I ls_1 (lv_sub hl_1 [1, 2, 0] rfl)
def C_CO_packed (a0 : Int32) (a1 : Int32) (a2 : Int32) (a3 : Int32) : Int32 :=
(((((a0 &&& (7 : Int32)) <<< ((8 : Int32) &&& 31)) ||| ((a1 &&& (7 : Int32)) <<< ((5 : Int32) &&& 31))) ||| ((a2 &&& (7 : Int32)) <<< ((2 : Int32) &&& 31))) ||| (a3 &&& (3 : Int32)))
set_option maxRecDepth 100000 in
set_option maxHeartbeats 4000000 in
theorem cC_CO_packed (G : Nat → Nat → Int32) (E : Nat → Nat → Int64) (Dd : Nat → Nat → UInt64) (P : Nat → Option Nat) (L : List Nat) (pf : Nat → va_E) (a0 : Int32) (a1 : Int32) (a2 : Int32) (a3 : Int32) (rv : Int32)  (hv : rv = C_CO_packed a0 a1 a2 a3) : sMi D (cT cI cJ cD cS) (cW ad cI cJ cD cS) l yX1_packed (ws1 yX1_packed cX1_packed 4 (some .int)) ({ frames := 0, cells := 0, slots := 0, locals := 0 }) [.int a0, .int a1, .int a2, .int a3] (G, E, Dd, P, L, pf) (rv, (G, E, Dd, P, L, pf)) := by
  have hf : (some (((((a0 &&& (7 : Int32)) <<< ((8 : Int32) &&& 31)) ||| ((a1 &&& (7 : Int32)) <<< ((5 : Int32) &&& 31))) ||| ((a2 &&& (7 : Int32)) <<< ((2 : Int32) &&& 31))) ||| (a3 &&& (3 : Int32)))) = some rv := by rw [hv]; rfl
  refine sMi_of (by decide) (Nat.le_of_ble_eq_true rfl) ?_
  intro p e R s m args below meth c A Q ls H lo F hRf hRl I hl ret
  obtain ⟨hx, hb, hml, hown, hG⟩ := id F
  replace hl : lv_has ls 4 [(0, .int a0), (1, .int a1), (2, .int a2), (3, .int a3)] := hl
  refine lv_iload_n hx hb dX1_packed_0 rfl (lv_at hl 0 rfl) ?_
  refine lv_bipush (v := (7 : Int32)) hx hb dX1_packed_1 (by decide) ?_
  refine lv_iand hx hb dX1_packed_3 ?_
  refine lv_bipush (v := (8 : Int32)) hx hb dX1_packed_4 (by decide) ?_
  refine lv_ishl hx hb dX1_packed_6 ?_
  refine lv_iload_n hx hb dX1_packed_7 rfl (lv_at hl 1 rfl) ?_
  refine lv_bipush (v := (7 : Int32)) hx hb dX1_packed_8 (by decide) ?_
  refine lv_iand hx hb dX1_packed_10 ?_
  refine lv_iconst (v := (5 : Int32)) hx hb dX1_packed_11 (by decide) ?_
  refine lv_ishl hx hb dX1_packed_12 ?_
  refine lv_ior hx hb dX1_packed_13 ?_
  refine lv_iload_n hx hb dX1_packed_14 rfl (lv_at hl 2 rfl) ?_
  refine lv_bipush (v := (7 : Int32)) hx hb dX1_packed_15 (by decide) ?_
  refine lv_iand hx hb dX1_packed_17 ?_
  refine lv_iconst (v := (2 : Int32)) hx hb dX1_packed_18 (by decide) ?_
  refine lv_ishl hx hb dX1_packed_19 ?_
  refine lv_ior hx hb dX1_packed_20 ?_
  refine lv_iload_n hx hb dX1_packed_21 rfl (lv_at hl 3 rfl) ?_
  refine lv_iconst (v := (3 : Int32)) hx hb dX1_packed_22 (by decide) ?_
  refine lv_iand hx hb dX1_packed_23 ?_
  refine lv_ior hx hb dX1_packed_24 ?_
  cases hf
  exact ret H lo _ ls I dX1_packed_25
def C_CO_listenerOf (a0 : Int32) : Int32 :=
((a0 >>> ((8 : Int32) &&& 31)) &&& (7 : Int32))
set_option maxRecDepth 100000 in
set_option maxHeartbeats 4000000 in
theorem cC_CO_listenerOf (G : Nat → Nat → Int32) (E : Nat → Nat → Int64) (Dd : Nat → Nat → UInt64) (P : Nat → Option Nat) (L : List Nat) (pf : Nat → va_E) (a0 : Int32) (rv : Int32)  (hv : rv = C_CO_listenerOf a0) : sMi D (cT cI cJ cD cS) (cW ad cI cJ cD cS) l yX1_listenerOf (ws1 yX1_listenerOf cX1_listenerOf 1 (some .int)) ({ frames := 0, cells := 0, slots := 0, locals := 0 }) [.int a0] (G, E, Dd, P, L, pf) (rv, (G, E, Dd, P, L, pf)) := by
  have hf : (some ((a0 >>> ((8 : Int32) &&& 31)) &&& (7 : Int32))) = some rv := by rw [hv]; rfl
  refine sMi_of (by decide) (Nat.le_of_ble_eq_true rfl) ?_
  intro p e R s m args below meth c A Q ls H lo F hRf hRl I hl ret
  obtain ⟨hx, hb, hml, hown, hG⟩ := id F
  replace hl : lv_has ls 1 [(0, .int a0)] := hl
  refine lv_iload_n hx hb dX1_listenerOf_0 rfl (lv_at hl 0 rfl) ?_
  refine lv_bipush (v := (8 : Int32)) hx hb dX1_listenerOf_1 (by decide) ?_
  refine lv_ishr hx hb dX1_listenerOf_3 ?_
  refine lv_bipush (v := (7 : Int32)) hx hb dX1_listenerOf_4 (by decide) ?_
  refine lv_iand hx hb dX1_listenerOf_6 ?_
  cases hf
  exact ret H lo _ ls I dX1_listenerOf_7
def C_CO_firstOf (a0 : Int32) : Int32 :=
((a0 >>> ((5 : Int32) &&& 31)) &&& (7 : Int32))
set_option maxRecDepth 100000 in
set_option maxHeartbeats 4000000 in
theorem cC_CO_firstOf (G : Nat → Nat → Int32) (E : Nat → Nat → Int64) (Dd : Nat → Nat → UInt64) (P : Nat → Option Nat) (L : List Nat) (pf : Nat → va_E) (a0 : Int32) (rv : Int32)  (hv : rv = C_CO_firstOf a0) : sMi D (cT cI cJ cD cS) (cW ad cI cJ cD cS) l yX1_firstOf (ws1 yX1_firstOf cX1_firstOf 1 (some .int)) ({ frames := 0, cells := 0, slots := 0, locals := 0 }) [.int a0] (G, E, Dd, P, L, pf) (rv, (G, E, Dd, P, L, pf)) := by
  have hf : (some ((a0 >>> ((5 : Int32) &&& 31)) &&& (7 : Int32))) = some rv := by rw [hv]; rfl
  refine sMi_of (by decide) (Nat.le_of_ble_eq_true rfl) ?_
  intro p e R s m args below meth c A Q ls H lo F hRf hRl I hl ret
  obtain ⟨hx, hb, hml, hown, hG⟩ := id F
  replace hl : lv_has ls 1 [(0, .int a0)] := hl
  refine lv_iload_n hx hb dX1_firstOf_0 rfl (lv_at hl 0 rfl) ?_
  refine lv_iconst (v := (5 : Int32)) hx hb dX1_firstOf_1 (by decide) ?_
  refine lv_ishr hx hb dX1_firstOf_2 ?_
  refine lv_bipush (v := (7 : Int32)) hx hb dX1_firstOf_3 (by decide) ?_
  refine lv_iand hx hb dX1_firstOf_5 ?_
  cases hf
  exact ret H lo _ ls I dX1_firstOf_6
def C_CO_secondOf (a0 : Int32) : Int32 :=
((a0 >>> ((2 : Int32) &&& 31)) &&& (7 : Int32))
set_option maxRecDepth 100000 in
set_option maxHeartbeats 4000000 in
theorem cC_CO_secondOf (G : Nat → Nat → Int32) (E : Nat → Nat → Int64) (Dd : Nat → Nat → UInt64) (P : Nat → Option Nat) (L : List Nat) (pf : Nat → va_E) (a0 : Int32) (rv : Int32)  (hv : rv = C_CO_secondOf a0) : sMi D (cT cI cJ cD cS) (cW ad cI cJ cD cS) l yX1_secondOf (ws1 yX1_secondOf cX1_secondOf 1 (some .int)) ({ frames := 0, cells := 0, slots := 0, locals := 0 }) [.int a0] (G, E, Dd, P, L, pf) (rv, (G, E, Dd, P, L, pf)) := by
  have hf : (some ((a0 >>> ((2 : Int32) &&& 31)) &&& (7 : Int32))) = some rv := by rw [hv]; rfl
  refine sMi_of (by decide) (Nat.le_of_ble_eq_true rfl) ?_
  intro p e R s m args below meth c A Q ls H lo F hRf hRl I hl ret
  obtain ⟨hx, hb, hml, hown, hG⟩ := id F
  replace hl : lv_has ls 1 [(0, .int a0)] := hl
  refine lv_iload_n hx hb dX1_secondOf_0 rfl (lv_at hl 0 rfl) ?_
  refine lv_iconst (v := (2 : Int32)) hx hb dX1_secondOf_1 (by decide) ?_
  refine lv_ishr hx hb dX1_secondOf_2 ?_
  refine lv_bipush (v := (7 : Int32)) hx hb dX1_secondOf_3 (by decide) ?_
  refine lv_iand hx hb dX1_secondOf_5 ?_
  cases hf
  exact ret H lo _ ls I dX1_secondOf_6
def C_CO_answerOf (a0 : Int32) : Int32 :=
(a0 &&& (3 : Int32))
set_option maxRecDepth 100000 in
set_option maxHeartbeats 4000000 in
theorem cC_CO_answerOf (G : Nat → Nat → Int32) (E : Nat → Nat → Int64) (Dd : Nat → Nat → UInt64) (P : Nat → Option Nat) (L : List Nat) (pf : Nat → va_E) (a0 : Int32) (rv : Int32)  (hv : rv = C_CO_answerOf a0) : sMi D (cT cI cJ cD cS) (cW ad cI cJ cD cS) l yX1_answerOf (ws1 yX1_answerOf cX1_answerOf 1 (some .int)) ({ frames := 0, cells := 0, slots := 0, locals := 0 }) [.int a0] (G, E, Dd, P, L, pf) (rv, (G, E, Dd, P, L, pf)) := by
  have hf : (some (a0 &&& (3 : Int32))) = some rv := by rw [hv]; rfl
  refine sMi_of (by decide) (Nat.le_of_ble_eq_true rfl) ?_
  intro p e R s m args below meth c A Q ls H lo F hRf hRl I hl ret
  obtain ⟨hx, hb, hml, hown, hG⟩ := id F
  replace hl : lv_has ls 1 [(0, .int a0)] := hl
  refine lv_iload_n hx hb dX1_answerOf_0 rfl (lv_at hl 0 rfl) ?_
  refine lv_iconst (v := (3 : Int32)) hx hb dX1_answerOf_1 (by decide) ?_
  refine lv_iand hx hb dX1_answerOf_2 ?_
  cases hf
  exact ret H lo _ ls I dX1_answerOf_3
def C_CO_propertyOf (a0 : Int32) (a1 : Int32) : Option (Int32) :=
if a1 = (0 : Int32) then
(nm (C_CO_listenerOf a0) fun r2 =>
some r2)
else if a1 = (1 : Int32) then
(nm (C_CO_firstOf a0) fun r6 =>
some r6)
else if a1 = (2 : Int32) then
(nm (C_CO_secondOf a0) fun r10 =>
some r10)
else (nm (C_CO_answerOf a0) fun r13 =>
some r13)
set_option maxRecDepth 100000 in
set_option maxHeartbeats 4000000 in
theorem cC_CO_propertyOf (G : Nat → Nat → Int32) (E : Nat → Nat → Int64) (Dd : Nat → Nat → UInt64) (P : Nat → Option Nat) (L : List Nat) (pf : Nat → va_E) (a0 : Int32) (a1 : Int32) (rv : Int32)  (hf : C_CO_propertyOf a0 a1 = some rv) : sMi D (cT cI cJ cD cS) (cW ad cI cJ cD cS) l yX1_propertyOf (ws1 yX1_propertyOf cX1_propertyOf 2 (some .int)) ({ frames := 1, cells := 0, slots := 0, locals := 20 }) [.int a0, .int a1] (G, E, Dd, P, L, pf) (rv, (G, E, Dd, P, L, pf)) := by
  unfold C_CO_propertyOf at hf
  refine sMi_of (by decide) (Nat.le_of_ble_eq_true rfl) ?_
  intro p e R s m args below meth c A Q ls H lo F hRf hRl I hl ret
  obtain ⟨hx, hb, hml, hown, hG⟩ := id F
  replace hl : lv_has ls 2 [(0, .int a0), (1, .int a1)] := hl
  refine lv_iload_n hx hb dX1_propertyOf_0 rfl (lv_at hl 1 rfl) ?_
  by_cases c1 : a1 = (0 : Int32)
  · replace hf := (if_pos c1).symm.trans hf
    refine lv_tableIn (off := 27) (tgt := 28) hx hb dX1_propertyOf_1 (by rw [c1]; decide) (by rw [c1]; decide) (by rw [c1]; rfl) (by decide) ?_
    refine lv_iload_n hx hb dX1_propertyOf_28 rfl (lv_at hl 0 rfl) ?_
    obtain ⟨r2, h3⟩ : ∃ z, z = C_CO_listenerOf a0 := ⟨_, rfl⟩
    replace hf := nm_some h3 hf
    refine s_callSi (As := [.int a0]) (rest := []) F I (cC_CO_listenerOf G E Dd P L pf a0 r2 h3) kX1_19 ⟨rfl, rfl⟩ ⟨Nat.le_trans (Nat.le_of_ble_eq_true rfl) hRf, Nat.le_trans (Nat.le_of_ble_eq_true rfl) hRl⟩ rfl rfl hl.1 (Nat.le_of_ble_eq_true rfl) ⟨Nat.zero_le _, Nat.zero_le _⟩ dX1_propertyOf_29 ?_
    intro H_4 lo_4 I_4
    cases hf
    exact ret H_4 lo_4 _ ls I_4 dX1_propertyOf_32
  replace hf := (if_neg c1).symm.trans hf
  by_cases c5 : a1 = (1 : Int32)
  · replace hf := (if_pos c5).symm.trans hf
    refine lv_tableIn (off := 32) (tgt := 33) hx hb dX1_propertyOf_1 (by rw [c5]; decide) (by rw [c5]; decide) (by rw [c5]; rfl) (by decide) ?_
    refine lv_iload_n hx hb dX1_propertyOf_33 rfl (lv_at hl 0 rfl) ?_
    obtain ⟨r6, h7⟩ : ∃ z, z = C_CO_firstOf a0 := ⟨_, rfl⟩
    replace hf := nm_some h7 hf
    refine s_callSi (As := [.int a0]) (rest := []) F I (cC_CO_firstOf G E Dd P L pf a0 r6 h7) kX1_23 ⟨rfl, rfl⟩ ⟨Nat.le_trans (Nat.le_of_ble_eq_true rfl) hRf, Nat.le_trans (Nat.le_of_ble_eq_true rfl) hRl⟩ rfl rfl hl.1 (Nat.le_of_ble_eq_true rfl) ⟨Nat.zero_le _, Nat.zero_le _⟩ dX1_propertyOf_34 ?_
    intro H_8 lo_8 I_8
    cases hf
    exact ret H_8 lo_8 _ ls I_8 dX1_propertyOf_37
  replace hf := (if_neg c5).symm.trans hf
  by_cases c9 : a1 = (2 : Int32)
  · replace hf := (if_pos c9).symm.trans hf
    refine lv_tableIn (off := 37) (tgt := 38) hx hb dX1_propertyOf_1 (by rw [c9]; decide) (by rw [c9]; decide) (by rw [c9]; rfl) (by decide) ?_
    refine lv_iload_n hx hb dX1_propertyOf_38 rfl (lv_at hl 0 rfl) ?_
    obtain ⟨r10, h11⟩ : ∃ z, z = C_CO_secondOf a0 := ⟨_, rfl⟩
    replace hf := nm_some h11 hf
    refine s_callSi (As := [.int a0]) (rest := []) F I (cC_CO_secondOf G E Dd P L pf a0 r10 h11) kX1_26 ⟨rfl, rfl⟩ ⟨Nat.le_trans (Nat.le_of_ble_eq_true rfl) hRf, Nat.le_trans (Nat.le_of_ble_eq_true rfl) hRl⟩ rfl rfl hl.1 (Nat.le_of_ble_eq_true rfl) ⟨Nat.zero_le _, Nat.zero_le _⟩ dX1_propertyOf_39 ?_
    intro H_12 lo_12 I_12
    cases hf
    exact ret H_12 lo_12 _ ls I_12 dX1_propertyOf_42
  replace hf := (if_neg c9).symm.trans hf
  refine lv_tableOut (tgt := 43) hx hb dX1_propertyOf_1 (tsw2 c1 c5 c9) (by decide) ?_
  refine lv_iload_n hx hb dX1_propertyOf_43 rfl (lv_at hl 0 rfl) ?_
  obtain ⟨r13, h14⟩ : ∃ z, z = C_CO_answerOf a0 := ⟨_, rfl⟩
  replace hf := nm_some h14 hf
  refine s_callSi (As := [.int a0]) (rest := []) F I (cC_CO_answerOf G E Dd P L pf a0 r13 h14) kX1_29 ⟨rfl, rfl⟩ ⟨Nat.le_trans (Nat.le_of_ble_eq_true rfl) hRf, Nat.le_trans (Nat.le_of_ble_eq_true rfl) hRl⟩ rfl rfl hl.1 (Nat.le_of_ble_eq_true rfl) ⟨Nat.zero_le _, Nat.zero_le _⟩ dX1_propertyOf_44 ?_
  intro H_15 lo_15 I_15
  cases hf
  exact ret H_15 lo_15 _ ls I_15 dX1_propertyOf_47
def C_CO_winnerOf (a0 : Int32) : Option (Int32) :=
nm (C_CO_answerOf a0) fun r1 =>
if r1 = (1 : Int32) then
(nm (C_CO_firstOf a0) fun r7 =>
some r7)
else
(nm (C_CO_secondOf a0) fun r4 =>
some r4)
set_option maxRecDepth 100000 in
set_option maxHeartbeats 4000000 in
theorem cC_CO_winnerOf (G : Nat → Nat → Int32) (E : Nat → Nat → Int64) (Dd : Nat → Nat → UInt64) (P : Nat → Option Nat) (L : List Nat) (pf : Nat → va_E) (a0 : Int32) (rv : Int32)  (hf : C_CO_winnerOf a0 = some rv) : sMi D (cT cI cJ cD cS) (cW ad cI cJ cD cS) l yX1_winnerOf (ws1 yX1_winnerOf cX1_winnerOf 1 (some .int)) ({ frames := 1, cells := 0, slots := 0, locals := 20 }) [.int a0] (G, E, Dd, P, L, pf) (rv, (G, E, Dd, P, L, pf)) := by
  unfold C_CO_winnerOf at hf
  refine sMi_of (by decide) (Nat.le_of_ble_eq_true rfl) ?_
  intro p e R s m args below meth c A Q ls H lo F hRf hRl I hl ret
  obtain ⟨hx, hb, hml, hown, hG⟩ := id F
  replace hl : lv_has ls 1 [(0, .int a0)] := hl
  refine lv_iload_n hx hb dX1_winnerOf_0 rfl (lv_at hl 0 rfl) ?_
  obtain ⟨r1, h2⟩ : ∃ z, z = C_CO_answerOf a0 := ⟨_, rfl⟩
  replace hf := nm_some h2 hf
  refine s_callSi (As := [.int a0]) (rest := []) F I (cC_CO_answerOf G E Dd P L pf a0 r1 h2) kX1_29 ⟨rfl, rfl⟩ ⟨Nat.le_trans (Nat.le_of_ble_eq_true rfl) hRf, Nat.le_trans (Nat.le_of_ble_eq_true rfl) hRl⟩ rfl rfl hl.1 (Nat.le_of_ble_eq_true rfl) ⟨Nat.zero_le _, Nat.zero_le _⟩ dX1_winnerOf_1 ?_
  intro H_3 lo_3 I_3
  refine lv_iconst (v := (1 : Int32)) hx hb dX1_winnerOf_4 (by decide) ?_
  refine lv_icmp_ne (tgt := 15) hx hb dX1_winnerOf_5 (by decide) (fun c10 => ?_) (fun c10 => ?_)
  · replace hf := (if_neg c10).symm.trans hf
    refine lv_iload_n hx hb dX1_winnerOf_15 rfl (lv_at hl 0 rfl) ?_
    obtain ⟨r4, h5⟩ : ∃ z, z = C_CO_secondOf a0 := ⟨_, rfl⟩
    replace hf := nm_some h5 hf
    refine s_callSi (As := [.int a0]) (rest := []) F I_3 (cC_CO_secondOf G E Dd P L pf a0 r4 h5) kX1_26 ⟨rfl, rfl⟩ ⟨Nat.le_trans (Nat.le_of_ble_eq_true rfl) hRf, Nat.le_trans (Nat.le_of_ble_eq_true rfl) hRl⟩ rfl rfl hl.1 (Nat.le_of_ble_eq_true rfl) ⟨Nat.zero_le _, Nat.zero_le _⟩ dX1_winnerOf_16 ?_
    intro H_6 lo_6 I_6
    cases hf
    exact ret H_6 lo_6 _ ls I_6 dX1_winnerOf_19
  · replace hf := (if_pos c10).symm.trans hf
    refine lv_iload_n hx hb dX1_winnerOf_8 rfl (lv_at hl 0 rfl) ?_
    obtain ⟨r7, h8⟩ : ∃ z, z = C_CO_firstOf a0 := ⟨_, rfl⟩
    replace hf := nm_some h8 hf
    refine s_callSi (As := [.int a0]) (rest := []) F I_3 (cC_CO_firstOf G E Dd P L pf a0 r7 h8) kX1_23 ⟨rfl, rfl⟩ ⟨Nat.le_trans (Nat.le_of_ble_eq_true rfl) hRf, Nat.le_trans (Nat.le_of_ble_eq_true rfl) hRl⟩ rfl rfl hl.1 (Nat.le_of_ble_eq_true rfl) ⟨Nat.zero_le _, Nat.zero_le _⟩ dX1_winnerOf_9 ?_
    intro H_9 lo_9 I_9
    refine lv_goto (tgt := 19) hx hb dX1_winnerOf_12 (by decide) ?_
    cases hf
    exact ret H_9 lo_9 _ ls I_9 dX1_winnerOf_19
def C_CO_loserOf (a0 : Int32) : Option (Int32) :=
nm (C_CO_answerOf a0) fun r1 =>
if r1 = (1 : Int32) then
(nm (C_CO_secondOf a0) fun r7 =>
some r7)
else
(nm (C_CO_firstOf a0) fun r4 =>
some r4)
set_option maxRecDepth 100000 in
set_option maxHeartbeats 4000000 in
theorem cC_CO_loserOf (G : Nat → Nat → Int32) (E : Nat → Nat → Int64) (Dd : Nat → Nat → UInt64) (P : Nat → Option Nat) (L : List Nat) (pf : Nat → va_E) (a0 : Int32) (rv : Int32)  (hf : C_CO_loserOf a0 = some rv) : sMi D (cT cI cJ cD cS) (cW ad cI cJ cD cS) l yX1_loserOf (ws1 yX1_loserOf cX1_loserOf 1 (some .int)) ({ frames := 1, cells := 0, slots := 0, locals := 20 }) [.int a0] (G, E, Dd, P, L, pf) (rv, (G, E, Dd, P, L, pf)) := by
  unfold C_CO_loserOf at hf
  refine sMi_of (by decide) (Nat.le_of_ble_eq_true rfl) ?_
  intro p e R s m args below meth c A Q ls H lo F hRf hRl I hl ret
  obtain ⟨hx, hb, hml, hown, hG⟩ := id F
  replace hl : lv_has ls 1 [(0, .int a0)] := hl
  refine lv_iload_n hx hb dX1_loserOf_0 rfl (lv_at hl 0 rfl) ?_
  obtain ⟨r1, h2⟩ : ∃ z, z = C_CO_answerOf a0 := ⟨_, rfl⟩
  replace hf := nm_some h2 hf
  refine s_callSi (As := [.int a0]) (rest := []) F I (cC_CO_answerOf G E Dd P L pf a0 r1 h2) kX1_29 ⟨rfl, rfl⟩ ⟨Nat.le_trans (Nat.le_of_ble_eq_true rfl) hRf, Nat.le_trans (Nat.le_of_ble_eq_true rfl) hRl⟩ rfl rfl hl.1 (Nat.le_of_ble_eq_true rfl) ⟨Nat.zero_le _, Nat.zero_le _⟩ dX1_loserOf_1 ?_
  intro H_3 lo_3 I_3
  refine lv_iconst (v := (1 : Int32)) hx hb dX1_loserOf_4 (by decide) ?_
  refine lv_icmp_ne (tgt := 15) hx hb dX1_loserOf_5 (by decide) (fun c10 => ?_) (fun c10 => ?_)
  · replace hf := (if_neg c10).symm.trans hf
    refine lv_iload_n hx hb dX1_loserOf_15 rfl (lv_at hl 0 rfl) ?_
    obtain ⟨r4, h5⟩ : ∃ z, z = C_CO_firstOf a0 := ⟨_, rfl⟩
    replace hf := nm_some h5 hf
    refine s_callSi (As := [.int a0]) (rest := []) F I_3 (cC_CO_firstOf G E Dd P L pf a0 r4 h5) kX1_23 ⟨rfl, rfl⟩ ⟨Nat.le_trans (Nat.le_of_ble_eq_true rfl) hRf, Nat.le_trans (Nat.le_of_ble_eq_true rfl) hRl⟩ rfl rfl hl.1 (Nat.le_of_ble_eq_true rfl) ⟨Nat.zero_le _, Nat.zero_le _⟩ dX1_loserOf_16 ?_
    intro H_6 lo_6 I_6
    cases hf
    exact ret H_6 lo_6 _ ls I_6 dX1_loserOf_19
  · replace hf := (if_pos c10).symm.trans hf
    refine lv_iload_n hx hb dX1_loserOf_8 rfl (lv_at hl 0 rfl) ?_
    obtain ⟨r7, h8⟩ : ∃ z, z = C_CO_secondOf a0 := ⟨_, rfl⟩
    replace hf := nm_some h8 hf
    refine s_callSi (As := [.int a0]) (rest := []) F I_3 (cC_CO_secondOf G E Dd P L pf a0 r7 h8) kX1_26 ⟨rfl, rfl⟩ ⟨Nat.le_trans (Nat.le_of_ble_eq_true rfl) hRf, Nat.le_trans (Nat.le_of_ble_eq_true rfl) hRl⟩ rfl rfl hl.1 (Nat.le_of_ble_eq_true rfl) ⟨Nat.zero_le _, Nat.zero_le _⟩ dX1_loserOf_9 ?_
    intro H_9 lo_9 I_9
    refine lv_goto (tgt := 19) hx hb dX1_loserOf_12 (by decide) ?_
    cases hf
    exact ret H_9 lo_9 _ ls I_9 dX1_loserOf_19
def C_CO_isFull (G : Nat → Nat → Int32) : Option (Int32) :=
if G 5 0 < (48 : Int32) then
(some (0 : Int32))
else
(some (1 : Int32))
set_option maxRecDepth 100000 in
set_option maxHeartbeats 4000000 in
theorem cC_CO_isFull (G : Nat → Nat → Int32) (E : Nat → Nat → Int64) (Dd : Nat → Nat → UInt64) (P : Nat → Option Nat) (L : List Nat) (pf : Nat → va_E)  (rv : Int32)  (hf : C_CO_isFull G = some rv) : sMi D (cT cI cJ cD cS) (cW ad cI cJ cD cS) l yX1_isFull (ws1 yX1_isFull cX1_isFull 1 (some .boolean)) ({ frames := 0, cells := 0, slots := 0, locals := 0 }) [.ref (ad 2)] (G, E, Dd, P, L, pf) (rv, (G, E, Dd, P, L, pf)) := by
  unfold C_CO_isFull at hf
  refine sMz_of (by decide) (Nat.le_of_ble_eq_true rfl) ?_
  intro p e R s m args below meth c A Q ls H lo F hRf hRl I hl ret
  obtain ⟨hx, hb, hml, hown, hG⟩ := id F
  replace hl : lv_has ls 1 [(0, .ref (ad 2))] := hl
  refine lv_aload_n hx hb dX1_isFull_0 rfl (lv_at hl 0 rfl) ?_
  refine kgtX1_15_2 F I dX1_isFull_1 ?_
  refine lv_bipush (v := (48 : Int32)) hx hb dX1_isFull_4 (by decide) ?_
  refine lv_icmp_lt (tgt := 13) hx hb dX1_isFull_6 (by decide) (fun c1 => ?_) (fun c1 => ?_)
  · replace hf := (if_pos c1).symm.trans hf
    refine lv_iconst (v := (0 : Int32)) hx hb dX1_isFull_13 (by decide) ?_
    cases hf
    exact ret H lo _ ls I (Or.inl rfl) dX1_isFull_14
  · replace hf := (if_neg c1).symm.trans hf
    refine lv_iconst (v := (1 : Int32)) hx hb dX1_isFull_9 (by decide) ?_
    refine lv_goto (tgt := 14) hx hb dX1_isFull_10 (by decide) ?_
    cases hf
    exact ret H lo _ ls I (Or.inr rfl) dX1_isFull_14
def C_CO_at (G : Nat → Nat → Int32) (a0 : Int32) : Option (Int32) :=
if a0 < 0 then
(some (0 : Int32))
else
(if G 5 0 ≤ a0 then
(some (0 : Int32))
else
(ri 48 a0 <|
some (G 4 a0.toNatClampNeg)))
set_option maxRecDepth 100000 in
set_option maxHeartbeats 4000000 in
theorem cC_CO_at (G : Nat → Nat → Int32) (E : Nat → Nat → Int64) (Dd : Nat → Nat → UInt64) (P : Nat → Option Nat) (L : List Nat) (pf : Nat → va_E) (a0 : Int32) (rv : Int32)  (hf : C_CO_at G a0 = some rv) : sMi D (cT cI cJ cD cS) (cW ad cI cJ cD cS) l yX1_at (ws1 yX1_at cX1_at 2 (some .int)) ({ frames := 0, cells := 0, slots := 0, locals := 0 }) [.ref (ad 2), .int a0] (G, E, Dd, P, L, pf) (rv, (G, E, Dd, P, L, pf)) := by
  unfold C_CO_at at hf
  refine sMi_of (by decide) (Nat.le_of_ble_eq_true rfl) ?_
  intro p e R s m args below meth c A Q ls H lo F hRf hRl I hl ret
  obtain ⟨hx, hb, hml, hown, hG⟩ := id F
  replace hl : lv_has ls 2 [(0, .ref (ad 2)), (1, .int a0)] := hl
  refine lv_iload_n hx hb dX1_at_0 rfl (lv_at hl 1 rfl) ?_
  refine lv_if_lt (tgt := 21) hx hb dX1_at_1 (by decide) (fun c3 => ?_) (fun c3 => ?_)
  · replace hf := (if_pos c3).symm.trans hf
    refine lv_iconst (v := (0 : Int32)) hx hb dX1_at_21 (by decide) ?_
    cases hf
    exact ret H lo _ ls I dX1_at_22
  · replace hf := (if_neg c3).symm.trans hf
    refine lv_iload_n hx hb dX1_at_4 rfl (lv_at hl 1 rfl) ?_
    refine lv_aload_n hx hb dX1_at_5 rfl (lv_at hl 0 rfl) ?_
    refine kgtX1_15_2 F I dX1_at_6 ?_
    refine lv_icmp_ge (tgt := 21) hx hb dX1_at_9 (by decide) (fun c2 => ?_) (fun c2 => ?_)
    · replace hf := (if_pos c2).symm.trans hf
      refine lv_iconst (v := (0 : Int32)) hx hb dX1_at_21 (by decide) ?_
      cases hf
      exact ret H lo _ ls I dX1_at_22
    · replace hf := (if_neg c2).symm.trans hf
      refine lv_aload_n hx hb dX1_at_12 rfl (lv_at hl 0 rfl) ?_
      refine kgtX1_9_2 F I dX1_at_13 ?_
      refine lv_iload_n hx hb dX1_at_16 rfl (lv_at hl 1 rfl) ?_
      obtain ⟨g1, hf⟩ := ri_some hf
      refine kal3 F I g1 dX1_at_17 ?_
      refine lv_goto (tgt := 22) hx hb dX1_at_18 (by decide) ?_
      cases hf
      exact ret H lo _ ls I dX1_at_22
def C_CO_put (G : Nat → Nat → Int32) (a0 : Int32) : Option ((Nat → Nat → Int32)) :=
bd (C_CO_isFull G) fun r1 =>
if r1 = 0 then
(ri 48 (G 5 0) <|
nm (wr G 4 (G 5 0) a0) fun G5 =>
nm (wf G5 5 ((G5 5 0) + (1 : Int32))) fun G7 =>
some G7)
else
(some G)
set_option maxRecDepth 100000 in
set_option maxHeartbeats 4000000 in
theorem cC_CO_put (G : Nat → Nat → Int32) (E : Nat → Nat → Int64) (Dd : Nat → Nat → UInt64) (P : Nat → Option Nat) (L : List Nat) (pf : Nat → va_E) (a0 : Int32)  (newG : Nat → Nat → Int32) (hf : C_CO_put G a0 = some newG) : sMv D (cT cI cJ cD cS) (cW ad cI cJ cD cS) l yX1_put (ws1 yX1_put cX1_put 2 none) ({ frames := 1, cells := 0, slots := 0, locals := 20 }) [.ref (ad 2), .int a0] (G, E, Dd, P, L, pf) (newG, E, Dd, P, L, pf) := by
  unfold C_CO_put at hf
  refine sMv_of (by decide) (Nat.le_of_ble_eq_true rfl) ?_
  intro p e R s m args below meth c A Q ls H lo F hRf hRl I hl ret
  obtain ⟨hx, hb, hml, hown, hG⟩ := id F
  replace hl : lv_has ls 2 [(0, .ref (ad 2)), (1, .int a0)] := hl
  refine lv_aload_n hx hb dX1_put_0 rfl (lv_at hl 0 rfl) ?_
  obtain ⟨r1, h2, hf⟩ := bd_some hf
  refine s_callVi (As := []) (rest := []) F I (cC_CO_isFull G E Dd P L pf r1 h2) kX1_32 ⟨rfl, rfl⟩ ⟨Nat.le_trans (Nat.le_of_ble_eq_true rfl) hRf, Nat.le_trans (Nat.le_of_ble_eq_true rfl) hRl⟩ 2 1 rfl rfl rfl rfl rfl hl.1 (Nat.le_of_ble_eq_true rfl) ⟨Nat.zero_le _, Nat.zero_le _⟩ dX1_put_1 ?_
  intro H_3 lo_3 I_3
  refine lv_if_ne (tgt := 27) hx hb dX1_put_4 (by decide) (fun c9 => ?_) (fun c9 => ?_)
  · replace hf := (if_neg c9).symm.trans hf
    cases hf
    exact ret H_3 lo_3 _ ls I_3 dX1_put_27
  · replace hf := (if_pos c9).symm.trans hf
    refine lv_aload_n hx hb dX1_put_7 rfl (lv_at hl 0 rfl) ?_
    refine kgtX1_9_2 F I_3 dX1_put_8 ?_
    refine lv_aload_n hx hb dX1_put_11 rfl (lv_at hl 0 rfl) ?_
    refine kgtX1_15_2 F I_3 dX1_put_12 ?_
    refine lv_iload_n hx hb dX1_put_15 rfl (lv_at hl 1 rfl) ?_
    obtain ⟨g4, hf⟩ := ri_some hf
    refine kas3 F I_3 g4 dX1_put_16 ?_
    intro H_6 lo_6 G5 eG5 I_6
    replace hf := nm_some eG5 hf
    refine lv_aload_n hx hb dX1_put_17 rfl (lv_at hl 0 rfl) ?_
    refine lv_dup hx hb dX1_put_18 rfl ?_
    refine kgtX1_15_2 F I_6 dX1_put_19 ?_
    refine lv_iconst (v := (1 : Int32)) hx hb dX1_put_22 (by decide) ?_
    refine lv_iadd hx hb dX1_put_23 ?_
    refine kptX1_15_2 F I_6 dX1_put_24 ?_
    intro H_8 lo_8 G7 eG7 I_8
    replace hf := nm_some eG7 hf
    cases hf
    exact ret H_8 lo_8 _ ls I_8 dX1_put_27
def C_CO_takeOut_s1  (x3 : Int32) (G4 : Nat → Nat → Int32) : Option ((Int32 × (Nat → Nat → Int32)) ⊕ ((Nat → Nat → Int32))) :=
if G4 5 0 ≤ x3 then
(some (.inr G4))
else
(ri 48 x3 <|
ri 48 (x3 - (1 : Int32)) <|
nm (wr G4 4 (x3 - (1 : Int32)) (G4 4 x3.toNatClampNeg)) fun G14 =>
nm (x3 + (1 : Int32) : Int32) fun x16 =>
some (.inl (x16, G14)))
def C_CO_takeOut (G : Nat → Nat → Int32) (a0 : Int32) : Option ((Nat → Nat → Int32)) :=
if a0 < 0 then
(some G)
else
(if a0 < G 5 0 then
(nm (a0 + (1 : Int32) : Int32) fun x1 =>
bd (lp (fun q => C_CO_takeOut_s1 q.1 q.2) FU (x1, G)) fun G5 =>
nm (wf G5 5 ((G5 5 0) - (1 : Int32))) fun G8 =>
some G8)
else
(some G))
set_option maxRecDepth 100000 in
set_option maxHeartbeats 4000000 in
theorem cC_CO_takeOut (G : Nat → Nat → Int32) (E : Nat → Nat → Int64) (Dd : Nat → Nat → UInt64) (P : Nat → Option Nat) (L : List Nat) (pf : Nat → va_E) (a0 : Int32)  (newG : Nat → Nat → Int32) (hf : C_CO_takeOut G a0 = some newG) : sMv D (cT cI cJ cD cS) (cW ad cI cJ cD cS) l yX1_takeOut (ws1 yX1_takeOut cX1_takeOut 3 none) ({ frames := 0, cells := 0, slots := 0, locals := 0 }) [.ref (ad 2), .int a0] (G, E, Dd, P, L, pf) (newG, E, Dd, P, L, pf) := by
  unfold C_CO_takeOut at hf
  refine sMv_of (by decide) (Nat.le_of_ble_eq_true rfl) ?_
  intro p e R s m args below meth c A Q ls H lo F hRf hRl I hl ret
  obtain ⟨hx, hb, hml, hown, hG⟩ := id F
  replace hl : lv_has ls 3 [(0, .ref (ad 2)), (1, .int a0)] := hl
  refine lv_iload_n hx hb dX1_takeOut_0 rfl (lv_at hl 1 rfl) ?_
  refine lv_if_lt (tgt := 12) hx hb dX1_takeOut_1 (by decide) (fun c20 => ?_) (fun c20 => ?_)
  · replace hf := (if_pos c20).symm.trans hf
    cases hf
    exact ret H lo _ ls I dX1_takeOut_12
  · replace hf := (if_neg c20).symm.trans hf
    refine lv_iload_n hx hb dX1_takeOut_4 rfl (lv_at hl 1 rfl) ?_
    refine lv_aload_n hx hb dX1_takeOut_5 rfl (lv_at hl 0 rfl) ?_
    refine kgtX1_15_2 F I dX1_takeOut_6 ?_
    refine lv_icmp_lt (tgt := 13) hx hb dX1_takeOut_9 (by decide) (fun c19 => ?_) (fun c19 => ?_)
    · replace hf := (if_pos c19).symm.trans hf
      refine lv_iload_n hx hb dX1_takeOut_13 rfl (lv_at hl 1 rfl) ?_
      refine lv_iconst (v := (1 : Int32)) hx hb dX1_takeOut_14 (by decide) ?_
      refine lv_iadd hx hb dX1_takeOut_15 ?_
      refine lv_topi (fun x1 ex1 => ?_)
      replace hf := nm_some ex1 hf
      refine lv_istore_n (lv' := [(2, .int x1), (0, .ref (ad 2)), (1, .int a0)]) hx hb dX1_takeOut_16 rfl hl (by decide) rfl (fun ls_2 hl_2 => ?_)
      obtain ⟨G5, hq1, hf⟩ := bd_some hf
      have K1 : ∀ (H : Heap) (locs : List Loc), sInv D (cT cI cJ cD cS) (cW ad cI cJ cD cS) A s H locs (G5, E, Dd, P, L, pf) → ∀ (ls : Array Slot), lv_has ls 3 [(0, .ref (ad 2))] → W p l e R s m args below meth c H locs 0 0 Q (F0 m 45 ls []) := by
        intro H_6 lo_6 I_6 ls_7 hl_7
        refine lv_aload_n hx hb dX1_takeOut_45 rfl (lv_at hl_7 0 rfl) ?_
        refine lv_dup hx hb dX1_takeOut_46 rfl ?_
        refine kgtX1_15_2 F I_6 dX1_takeOut_47 ?_
        refine lv_iconst (v := (1 : Int32)) hx hb dX1_takeOut_50 (by decide) ?_
        refine lv_isub hx hb dX1_takeOut_51 ?_
        refine kptX1_15_2 F I_6 dX1_takeOut_52 ?_
        intro H_9 lo_9 G8 eG8 I_9
        replace hf := nm_some eG8 hf
        cases hf
        exact ret H_9 lo_9 _ ls_7 I_9 dX1_takeOut_55
      have L1 : ∀ (n : Nat) (x3 : Int32) (G4 : Nat → Nat → Int32), lp (fun q => C_CO_takeOut_s1 q.1 q.2) n (x3, G4) = some G5 → ∀ (H : Heap) (locs : List Loc), sInv D (cT cI cJ cD cS) (cW ad cI cJ cD cS) A s H locs (G4, E, Dd, P, L, pf) → ∀ (ls : Array Slot), lv_has ls 3 [(0, .ref (ad 2)), (2, .int x3)] → W p l e R s m args below meth c H locs 0 0 Q (F0 m 17 ls []) := by
        intro n
        induction n with
        | zero => intro x3 G4 hq; exact (lp_0 hq).elim
        | succ n ih1 =>
          intro x3 G4 hq H_10 lo_10 I_10 ls_11 hl_11
          obtain ⟨y1, hf, hK1⟩ := lp_go hq
          replace hf : C_CO_takeOut_s1 x3 G4 = some y1 := hf
          unfold C_CO_takeOut_s1 at hf
          refine lv_iload_n hx hb dX1_takeOut_17 rfl (lv_at hl_11 1 rfl) ?_
          refine lv_aload_n hx hb dX1_takeOut_18 rfl (lv_at hl_11 0 rfl) ?_
          refine kgtX1_15_2 F I_10 dX1_takeOut_19 ?_
          refine lv_icmp_ge (tgt := 45) hx hb dX1_takeOut_22 (by decide) (fun c18 => ?_) (fun c18 => ?_)
          · replace hf := (if_pos c18).symm.trans hf
            cases hf
            cases (show G4 = G5 from hK1)
            exact K1 H_10 lo_10 I_10 ls_11 (lv_sub hl_11 [0] rfl)
          · replace hf := (if_neg c18).symm.trans hf
            refine lv_aload_n hx hb dX1_takeOut_25 rfl (lv_at hl_11 0 rfl) ?_
            refine kgtX1_9_2 F I_10 dX1_takeOut_26 ?_
            refine lv_iload_n hx hb dX1_takeOut_29 rfl (lv_at hl_11 1 rfl) ?_
            refine lv_iconst (v := (1 : Int32)) hx hb dX1_takeOut_30 (by decide) ?_
            refine lv_isub hx hb dX1_takeOut_31 ?_
            refine lv_aload_n hx hb dX1_takeOut_32 rfl (lv_at hl_11 0 rfl) ?_
            refine kgtX1_9_2 F I_10 dX1_takeOut_33 ?_
            refine lv_iload_n hx hb dX1_takeOut_36 rfl (lv_at hl_11 1 rfl) ?_
            obtain ⟨g12, hf⟩ := ri_some hf
            refine kal3 F I_10 g12 dX1_takeOut_37 ?_
            obtain ⟨g13, hf⟩ := ri_some hf
            refine kas3 F I_10 g13 dX1_takeOut_38 ?_
            intro H_15 lo_15 G14 eG14 I_15
            replace hf := nm_some eG14 hf
            obtain ⟨x16, ex16⟩ : ∃ y : Int32, y = x3 + (1 : Int32) := ⟨_, rfl⟩
            replace hf := nm_some ex16 hf
            refine lv_iinc (v := x16) (lv' := [(2, .int x16), (0, .ref (ad 2))]) hx hb dX1_takeOut_39 hl_11 (k := 1) rfl (by rw [ex16]; rfl) (by decide) rfl (fun ls_17 hl_17 => ?_)
            refine lv_goto (tgt := 17) hx hb dX1_takeOut_42 (by decide) ?_
            cases hf
            exact ih1 _ _ hK1 H_15 lo_15 I_15 ls_17 (lv_sub hl_17 [1, 0] rfl)
      exact L1 FU _ _ hq1 H lo I ls_2 (lv_sub hl_2 [1, 0] rfl)
    · replace hf := (if_neg c19).symm.trans hf
      cases hf
      exact ret H lo _ ls I dX1_takeOut_12
def C_CO_countAnswers_s1 (a0 : Int32) (G : Nat → Nat → Int32) (x3 : Int32) (x4 : Int32) : Option ((Int32 × Int32) ⊕ (Int32)) :=
if G 5 0 ≤ x4 then
(some (.inr x3))
else
(ri 48 x4 <|
nm (C_CO_answerOf (G 4 x4.toNatClampNeg)) fun r11 =>
bd (if r11 = a0 then
(nm (x3 + (1 : Int32) : Int32) fun x21 =>
some x21)
else
(some x3)) fun x15 =>
nm (x4 + (1 : Int32) : Int32) fun x18 =>
some (.inl (x15, x18)))
def C_CO_countAnswers (G : Nat → Nat → Int32) (a0 : Int32) : Option (Int32) :=
bd (lp (fun q => C_CO_countAnswers_s1 a0 G q.1 q.2) FU ((0 : Int32), (0 : Int32))) fun r5 =>
some r5
set_option maxRecDepth 100000 in
set_option maxHeartbeats 4000000 in
theorem cC_CO_countAnswers (G : Nat → Nat → Int32) (E : Nat → Nat → Int64) (Dd : Nat → Nat → UInt64) (P : Nat → Option Nat) (L : List Nat) (pf : Nat → va_E) (a0 : Int32) (rv : Int32)  (hf : C_CO_countAnswers G a0 = some rv) : sMi D (cT cI cJ cD cS) (cW ad cI cJ cD cS) l yX1_countAnswers (ws1 yX1_countAnswers cX1_countAnswers 4 (some .int)) ({ frames := 1, cells := 0, slots := 0, locals := 20 }) [.ref (ad 2), .int a0] (G, E, Dd, P, L, pf) (rv, (G, E, Dd, P, L, pf)) := by
  unfold C_CO_countAnswers at hf
  refine sMi_of (by decide) (Nat.le_of_ble_eq_true rfl) ?_
  intro p e R s m args below meth c A Q ls H lo F hRf hRl I hl ret
  obtain ⟨hx, hb, hml, hown, hG⟩ := id F
  replace hl : lv_has ls 4 [(0, .ref (ad 2)), (1, .int a0)] := hl
  refine lv_iconst (v := (0 : Int32)) hx hb dX1_countAnswers_0 (by decide) ?_
  refine lv_istore_n (lv' := [(2, .int (0 : Int32)), (0, .ref (ad 2)), (1, .int a0)]) hx hb dX1_countAnswers_1 rfl hl (by decide) rfl (fun ls_1 hl_1 => ?_)
  refine lv_iconst (v := (0 : Int32)) hx hb dX1_countAnswers_2 (by decide) ?_
  refine lv_istore_n (lv' := [(3, .int (0 : Int32)), (2, .int (0 : Int32)), (0, .ref (ad 2)), (1, .int a0)]) hx hb dX1_countAnswers_3 rfl hl_1 (by decide) rfl (fun ls_2 hl_2 => ?_)
  obtain ⟨r5, hq1, hf⟩ := bd_some hf
  have K1 : ∀ (H : Heap) (locs : List Loc), sInv D (cT cI cJ cD cS) (cW ad cI cJ cD cS) A s H locs (G, E, Dd, P, L, pf) → ∀ (ls : Array Slot), lv_has ls 4 [(2, .int r5)] → W p l e R s m args below meth c H locs 0 0 Q (F0 m 34 ls []) := by
    intro H_6 lo_6 I_6 ls_7 hl_7
    refine lv_iload_n hx hb dX1_countAnswers_34 rfl (lv_at hl_7 0 rfl) ?_
    cases hf
    exact ret H_6 lo_6 _ ls_7 I_6 dX1_countAnswers_35
  have L1 : ∀ (n : Nat) (x3 : Int32) (x4 : Int32), lp (fun q => C_CO_countAnswers_s1 a0 G q.1 q.2) n (x3, x4) = some r5 → ∀ (H : Heap) (locs : List Loc), sInv D (cT cI cJ cD cS) (cW ad cI cJ cD cS) A s H locs (G, E, Dd, P, L, pf) → ∀ (ls : Array Slot), lv_has ls 4 [(0, .ref (ad 2)), (1, .int a0), (2, .int x3), (3, .int x4)] → W p l e R s m args below meth c H locs 0 0 Q (F0 m 4 ls []) := by
    intro n
    induction n with
    | zero => intro x3 x4 hq; exact (lp_0 hq).elim
    | succ n ih1 =>
      intro x3 x4 hq H_8 lo_8 I_8 ls_9 hl_9
      obtain ⟨y1, hf, hK1⟩ := lp_go hq
      replace hf : C_CO_countAnswers_s1 a0 G x3 x4 = some y1 := hf
      unfold C_CO_countAnswers_s1 at hf
      refine lv_iload_n hx hb dX1_countAnswers_4 rfl (lv_at hl_9 3 rfl) ?_
      refine lv_aload_n hx hb dX1_countAnswers_5 rfl (lv_at hl_9 0 rfl) ?_
      refine kgtX1_15_2 F I_8 dX1_countAnswers_6 ?_
      refine lv_icmp_ge (tgt := 34) hx hb dX1_countAnswers_9 (by decide) (fun c24 => ?_) (fun c24 => ?_)
      · replace hf := (if_pos c24).symm.trans hf
        cases hf
        cases (show x3 = r5 from hK1)
        exact K1 H_8 lo_8 I_8 ls_9 (lv_sub hl_9 [2] rfl)
      · replace hf := (if_neg c24).symm.trans hf
        refine lv_aload_n hx hb dX1_countAnswers_12 rfl (lv_at hl_9 0 rfl) ?_
        refine kgtX1_9_2 F I_8 dX1_countAnswers_13 ?_
        refine lv_iload_n hx hb dX1_countAnswers_16 rfl (lv_at hl_9 3 rfl) ?_
        obtain ⟨g10, hf⟩ := ri_some hf
        refine kal3 F I_8 g10 dX1_countAnswers_17 ?_
        obtain ⟨r11, h12⟩ : ∃ z, z = C_CO_answerOf (G 4 x4.toNatClampNeg) := ⟨_, rfl⟩
        replace hf := nm_some h12 hf
        refine s_callSi (As := [.int (G 4 x4.toNatClampNeg)]) (rest := []) F I_8 (cC_CO_answerOf G E Dd P L pf (G 4 x4.toNatClampNeg) r11 h12) kX1_29 ⟨rfl, rfl⟩ ⟨Nat.le_trans (Nat.le_of_ble_eq_true rfl) hRf, Nat.le_trans (Nat.le_of_ble_eq_true rfl) hRl⟩ rfl rfl hl_9.1 (Nat.le_of_ble_eq_true rfl) ⟨Nat.zero_le _, Nat.zero_le _⟩ dX1_countAnswers_18 ?_
        intro H_13 lo_13 I_13
        refine lv_iload_n hx hb dX1_countAnswers_21 rfl (lv_at hl_9 1 rfl) ?_
        obtain ⟨x15, hv20, hf⟩ := bd_some hf
        have J14 : ∀ (H : Heap) (locs : List Loc), sInv D (cT cI cJ cD cS) (cW ad cI cJ cD cS) A s H locs (G, E, Dd, P, L, pf) → ∀ (ls : Array Slot), lv_has ls 4 [(0, .ref (ad 2)), (1, .int a0), (2, .int x15), (3, .int x4)] → W p l e R s m args below meth c H locs 0 0 Q (F0 m 28 ls []) := by
          intro H_16 lo_16 I_16 ls_17 hl_17
          obtain ⟨x18, ex18⟩ : ∃ y : Int32, y = x4 + (1 : Int32) := ⟨_, rfl⟩
          replace hf := nm_some ex18 hf
          refine lv_iinc (v := x18) (lv' := [(3, .int x18), (0, .ref (ad 2)), (1, .int a0), (2, .int x15)]) hx hb dX1_countAnswers_28 hl_17 (k := 3) rfl (by rw [ex18]; rfl) (by decide) rfl (fun ls_19 hl_19 => ?_)
          refine lv_goto (tgt := 4) hx hb dX1_countAnswers_31 (by decide) ?_
          cases hf
          exact ih1 _ _ hK1 H_16 lo_16 I_16 ls_19 (lv_sub hl_19 [1, 2, 3, 0] rfl)
        replace hf := hv20
        refine lv_icmp_ne (tgt := 28) hx hb dX1_countAnswers_22 (by decide) (fun c23 => ?_) (fun c23 => ?_)
        · replace hf := (if_neg c23).symm.trans hf
          cases hf
          exact J14 H_13 lo_13 I_13 ls_9 (lv_sub hl_9 [0, 1, 2, 3] rfl)
        · replace hf := (if_pos c23).symm.trans hf
          obtain ⟨x21, ex21⟩ : ∃ y : Int32, y = x3 + (1 : Int32) := ⟨_, rfl⟩
          replace hf := nm_some ex21 hf
          refine lv_iinc (v := x21) (lv' := [(2, .int x21), (0, .ref (ad 2)), (1, .int a0), (3, .int x4)]) hx hb dX1_countAnswers_25 hl_9 (k := 2) rfl (by rw [ex21]; rfl) (by decide) rfl (fun ls_22 hl_22 => ?_)
          cases hf
          exact J14 H_13 lo_13 I_13 ls_22 (lv_sub hl_22 [1, 2, 0, 3] rfl)
  exact L1 FU _ _ hq1 H lo I ls_2 (lv_sub hl_2 [2, 3, 1, 0] rfl)
def C_HI_forgetAll (G : Nat → Nat → Int32) : (Nat → Nat → Int32) :=
nm (wf G 7 (0 : Int32)) fun G1 =>
G1
set_option maxRecDepth 100000 in
set_option maxHeartbeats 4000000 in
theorem cC_HI_forgetAll (G : Nat → Nat → Int32) (E : Nat → Nat → Int64) (Dd : Nat → Nat → UInt64) (P : Nat → Option Nat) (L : List Nat) (pf : Nat → va_E)   (newG : Nat → Nat → Int32) (hv : newG = C_HI_forgetAll G) : sMv D (cT cI cJ cD cS) (cW ad cI cJ cD cS) l yX2_forgetAll (ws1 yX2_forgetAll cX2_forgetAll 1 none) ({ frames := 0, cells := 0, slots := 0, locals := 0 }) [.ref (ad 4)] (G, E, Dd, P, L, pf) (newG, E, Dd, P, L, pf) := by
  have hf : (nm (wf G 7 (0 : Int32)) fun G1 =>
some G1) = some newG := by rw [hv]; rfl
  refine sMv_of (by decide) (Nat.le_of_ble_eq_true rfl) ?_
  intro p e R s m args below meth c A Q ls H lo F hRf hRl I hl ret
  obtain ⟨hx, hb, hml, hown, hG⟩ := id F
  replace hl : lv_has ls 1 [(0, .ref (ad 4))] := hl
  refine lv_aload_n hx hb dX2_forgetAll_0 rfl (lv_at hl 0 rfl) ?_
  refine lv_iconst (v := (0 : Int32)) hx hb dX2_forgetAll_1 (by decide) ?_
  refine kptX2_22_4 F I dX2_forgetAll_2 ?_
  intro H_2 lo_2 G1 eG1 I_2
  replace hf := nm_some eG1 hf
  cases hf
  exact ret H_2 lo_2 _ ls I_2 dX2_forgetAll_5
def C_TA_decidedOf (G : Nat → Nat → Int32) (a0 : Int32) (a1 : Int32) : Option (Int32) :=
nm (C_LT_cell a0 a1) fun r1 =>
ri 64 r1 <|
nm (C_LT_cell a1 a0) fun r5 =>
ri 64 r5 <|
some ((G 16 r1.toNatClampNeg) + (G 16 r5.toNatClampNeg))
set_option maxRecDepth 100000 in
set_option maxHeartbeats 4000000 in
theorem cC_TA_decidedOf (G : Nat → Nat → Int32) (E : Nat → Nat → Int64) (Dd : Nat → Nat → UInt64) (P : Nat → Option Nat) (L : List Nat) (pf : Nat → va_E) (a0 : Int32) (a1 : Int32) (rv : Int32)  (hf : C_TA_decidedOf G a0 a1 = some rv) : sMi D (cT cI cJ cD cS) (cW ad cI cJ cD cS) l yX9_decidedOf (ws1 yX9_decidedOf cX9_decidedOf 3 (some .int)) ({ frames := 1, cells := 0, slots := 0, locals := 21 }) [.ref (ad 9), .int a0, .int a1] (G, E, Dd, P, L, pf) (rv, (G, E, Dd, P, L, pf)) := by
  unfold C_TA_decidedOf at hf
  refine sMi_of (by decide) (Nat.le_of_ble_eq_true rfl) ?_
  intro p e R s m args below meth c A Q ls H lo F hRf hRl I hl ret
  obtain ⟨hx, hb, hml, hown, hG⟩ := id F
  replace hl : lv_has ls 3 [(0, .ref (ad 9)), (1, .int a0), (2, .int a1)] := hl
  refine lv_aload_n hx hb dX9_decidedOf_0 rfl (lv_at hl 0 rfl) ?_
  refine kgtX9_9_9 F I dX9_decidedOf_1 ?_
  refine lv_iload_n hx hb dX9_decidedOf_4 rfl (lv_at hl 1 rfl) ?_
  refine lv_iload_n hx hb dX9_decidedOf_5 rfl (lv_at hl 2 rfl) ?_
  obtain ⟨r1, h2⟩ : ∃ z, z = C_LT_cell a0 a1 := ⟨_, rfl⟩
  replace hf := nm_some h2 hf
  refine s_callSNi (As := [.int a0, .int a1]) (rest := [.ref (ad 10)]) F I (cC_LT_cell G E Dd P L pf a0 a1 r1 h2) kX9_43 ⟨rfl, rfl⟩ ⟨Nat.le_trans (Nat.le_of_ble_eq_true rfl) hRf, Nat.le_trans (Nat.le_of_ble_eq_true rfl) hRl⟩ rfl rfl hl.1 (Nat.le_of_ble_eq_true rfl) ⟨Nat.zero_le _, Nat.zero_le _⟩ dX9_decidedOf_6 ?_
  intro H_3 lo_3 I_3
  obtain ⟨g4, hf⟩ := ri_some hf
  refine kal10 F I_3 g4 dX9_decidedOf_9 ?_
  refine lv_aload_n hx hb dX9_decidedOf_10 rfl (lv_at hl 0 rfl) ?_
  refine kgtX9_9_9 F I_3 dX9_decidedOf_11 ?_
  refine lv_iload_n hx hb dX9_decidedOf_14 rfl (lv_at hl 2 rfl) ?_
  refine lv_iload_n hx hb dX9_decidedOf_15 rfl (lv_at hl 1 rfl) ?_
  obtain ⟨r5, h6⟩ : ∃ z, z = C_LT_cell a1 a0 := ⟨_, rfl⟩
  replace hf := nm_some h6 hf
  refine s_callSNi (As := [.int a1, .int a0]) (rest := [.ref (ad 10), .int (G 16 r1.toNatClampNeg)]) F I_3 (cC_LT_cell G E Dd P L pf a1 a0 r5 h6) kX9_43 ⟨rfl, rfl⟩ ⟨Nat.le_trans (Nat.le_of_ble_eq_true rfl) hRf, Nat.le_trans (Nat.le_of_ble_eq_true rfl) hRl⟩ rfl rfl hl.1 (Nat.le_of_ble_eq_true rfl) ⟨Nat.zero_le _, Nat.zero_le _⟩ dX9_decidedOf_16 ?_
  intro H_7 lo_7 I_7
  obtain ⟨g8, hf⟩ := ri_some hf
  refine kal10 F I_7 g8 dX9_decidedOf_19 ?_
  refine lv_iadd hx hb dX9_decidedOf_20 ?_
  cases hf
  exact ret H_7 lo_7 _ ls I_7 dX9_decidedOf_21
def C_TA_winsOf (G : Nat → Nat → Int32) (a0 : Int32) (a1 : Int32) : Option (Int32) :=
nm (C_LT_cell a0 a1) fun r1 =>
ri 64 r1 <|
some (G 16 r1.toNatClampNeg)
set_option maxRecDepth 100000 in
set_option maxHeartbeats 4000000 in
theorem cC_TA_winsOf (G : Nat → Nat → Int32) (E : Nat → Nat → Int64) (Dd : Nat → Nat → UInt64) (P : Nat → Option Nat) (L : List Nat) (pf : Nat → va_E) (a0 : Int32) (a1 : Int32) (rv : Int32)  (hf : C_TA_winsOf G a0 a1 = some rv) : sMi D (cT cI cJ cD cS) (cW ad cI cJ cD cS) l yX9_winsOf (ws1 yX9_winsOf cX9_winsOf 3 (some .int)) ({ frames := 1, cells := 0, slots := 0, locals := 21 }) [.ref (ad 9), .int a0, .int a1] (G, E, Dd, P, L, pf) (rv, (G, E, Dd, P, L, pf)) := by
  unfold C_TA_winsOf at hf
  refine sMi_of (by decide) (Nat.le_of_ble_eq_true rfl) ?_
  intro p e R s m args below meth c A Q ls H lo F hRf hRl I hl ret
  obtain ⟨hx, hb, hml, hown, hG⟩ := id F
  replace hl : lv_has ls 3 [(0, .ref (ad 9)), (1, .int a0), (2, .int a1)] := hl
  refine lv_aload_n hx hb dX9_winsOf_0 rfl (lv_at hl 0 rfl) ?_
  refine kgtX9_9_9 F I dX9_winsOf_1 ?_
  refine lv_iload_n hx hb dX9_winsOf_4 rfl (lv_at hl 1 rfl) ?_
  refine lv_iload_n hx hb dX9_winsOf_5 rfl (lv_at hl 2 rfl) ?_
  obtain ⟨r1, h2⟩ : ∃ z, z = C_LT_cell a0 a1 := ⟨_, rfl⟩
  replace hf := nm_some h2 hf
  refine s_callSNi (As := [.int a0, .int a1]) (rest := [.ref (ad 10)]) F I (cC_LT_cell G E Dd P L pf a0 a1 r1 h2) kX9_43 ⟨rfl, rfl⟩ ⟨Nat.le_trans (Nat.le_of_ble_eq_true rfl) hRf, Nat.le_trans (Nat.le_of_ble_eq_true rfl) hRl⟩ rfl rfl hl.1 (Nat.le_of_ble_eq_true rfl) ⟨Nat.zero_le _, Nat.zero_le _⟩ dX9_winsOf_6 ?_
  intro H_3 lo_3 I_3
  obtain ⟨g4, hf⟩ := ri_some hf
  refine kal10 F I_3 g4 dX9_winsOf_9 ?_
  cases hf
  exact ret H_3 lo_3 _ ls I_3 dX9_winsOf_10
def C_LT_coinChance_s1 (x1 : Int32) (x3 : Int32) (x8 : Int64) (x9 : Int64) (x10 : Int32) : Option ((Int64 × Int64 × Int32) ⊕ (Int64)) :=
if x10 < x3 then
(some (.inr x9))
else
(nm (x9 + x8 : Int64) fun x16 =>
gd (¬ ((x1 - x10) + (1 : Int32)).toInt64 = 0) <|
nm ((x8 * x10.toInt64) / (((x1 - x10) + (1 : Int32)).toInt64) : Int64) fun x19 =>
nm (x10 + (-1 : Int32) : Int32) fun x21 =>
some (.inl (x19, x16, x21)))
def C_LT_coinChance (a0 : Int32) (a1 : Int32) : Option (Int64) :=
nm (a0 + a1 : Int32) fun x1 =>
if x1 = 0 then
(some (281474976710656 : Int64))
else
(nm ((if a0 < a1 then a1 else a0) : Int32) fun x3 =>
bd (lp (fun q => C_LT_coinChance_s1 x1 x3 q.1 q.2.1 q.2.2) FU ((1 : Int64), (0 : Int64), x1)) fun r11 =>
some (if ((2 : Int64) * r11) <<< (((48 : Int32) - x1).toInt64 &&& 63) < (281474976710656 : Int64) then ((2 : Int64) * r11) <<< (((48 : Int32) - x1).toInt64 &&& 63) else (281474976710656 : Int64)))
set_option maxRecDepth 100000 in
set_option maxHeartbeats 4000000 in
theorem cC_LT_coinChance (G : Nat → Nat → Int32) (E : Nat → Nat → Int64) (Dd : Nat → Nat → UInt64) (P : Nat → Option Nat) (L : List Nat) (pf : Nat → va_E) (a0 : Int32) (a1 : Int32) (rv : Int64)  (hf : C_LT_coinChance a0 a1 = some rv) : sMl D (cT cI cJ cD cS) (cW ad cI cJ cD cS) l yX11_coinChance (ws1 yX11_coinChance cX11_coinChance 9 (some .long)) ({ frames := 1, cells := 0, slots := 0, locals := 23 }) [.int a0, .int a1] (G, E, Dd, P, L, pf) (rv, (G, E, Dd, P, L, pf)) := by
  unfold C_LT_coinChance at hf
  refine sMl_of (by decide) (Nat.le_of_ble_eq_true rfl) ?_
  intro p e R s m args below meth c A Q ls H lo F hRf hRl I hl ret
  obtain ⟨hx, hb, hml, hown, hG⟩ := id F
  replace hl : lv_has ls 9 [(0, .int a0), (1, .int a1)] := hl
  refine lv_iload_n hx hb dX11_coinChance_0 rfl (lv_at hl 0 rfl) ?_
  refine lv_iload_n hx hb dX11_coinChance_1 rfl (lv_at hl 1 rfl) ?_
  refine lv_iadd hx hb dX11_coinChance_2 ?_
  refine lv_topi (fun x1 ex1 => ?_)
  replace hf := nm_some ex1 hf
  refine lv_istore_n (lv' := [(2, .int x1), (0, .int a0), (1, .int a1)]) hx hb dX11_coinChance_3 rfl hl (by decide) rfl (fun ls_2 hl_2 => ?_)
  refine lv_iload_n hx hb dX11_coinChance_4 rfl (lv_at hl_2 0 rfl) ?_
  refine lv_if_ne (tgt := 12) hx hb dX11_coinChance_5 (by decide) (fun c24 => ?_) (fun c24 => ?_)
  · replace hf := (if_neg c24).symm.trans hf
    refine lv_iload_n hx hb dX11_coinChance_12 rfl (lv_at hl_2 1 rfl) ?_
    refine lv_iload_n hx hb dX11_coinChance_13 rfl (lv_at hl_2 2 rfl) ?_
    refine va_mmax hx hb (hml.trans hl_2.1.symm) hown (hG _ q466) (hG _ q467) (hG _ q126) (hG _ q468) (Nat.le_trans (Nat.le_of_ble_eq_true rfl) hRf) (Nat.le_trans (Nat.le_of_ble_eq_true rfl) hRl) (Nat.zero_le _) (Nat.zero_le _) dX11_coinChance_14 ?_
    refine lv_topi (fun x3 ex3 => ?_)
    replace hf := nm_some ex3 hf
    refine lv_istore_n (lv' := [(3, .int x3), (2, .int x1), (0, .int a0), (1, .int a1)]) hx hb dX11_coinChance_17 rfl hl_2 (by decide) rfl (fun ls_4 hl_4 => ?_)
    refine lv_lconst (v := (1 : Int64)) hx hb dX11_coinChance_18 (by decide) ?_
    refine lv_lstore (lv' := [(4, .long (1 : Int64)), (3, .int x3), (2, .int x1), (0, .int a0), (1, .int a1)]) hx hb dX11_coinChance_19 hl_4 (by decide) rfl (fun ls_5 hl_5 => ?_)
    refine lv_lconst (v := (0 : Int64)) hx hb dX11_coinChance_21 (by decide) ?_
    refine lv_lstore (lv' := [(6, .long (0 : Int64)), (4, .long (1 : Int64)), (3, .int x3), (2, .int x1), (0, .int a0), (1, .int a1)]) hx hb dX11_coinChance_22 hl_5 (by decide) rfl (fun ls_6 hl_6 => ?_)
    refine lv_iload_n hx hb dX11_coinChance_24 rfl (lv_at hl_6 3 rfl) ?_
    refine lv_istore (lv' := [(8, .int x1), (6, .long (0 : Int64)), (4, .long (1 : Int64)), (3, .int x3), (2, .int x1), (0, .int a0), (1, .int a1)]) hx hb dX11_coinChance_25 hl_6 (by decide) rfl (fun ls_7 hl_7 => ?_)
    obtain ⟨r11, hq1, hf⟩ := bd_some hf
    have K1 : ∀ (H : Heap) (locs : List Loc), sInv D (cT cI cJ cD cS) (cW ad cI cJ cD cS) A s H locs (G, E, Dd, P, L, pf) → ∀ (ls : Array Slot), lv_has ls 9 [(2, .int x1), (6, .long r11)] → W p l e R s m args below meth c H locs 0 0 Q (F0 m 62 ls []) := by
      intro H_12 lo_12 I_12 ls_13 hl_13
      refine lv_ldc2 (v := (281474976710656 : Int64)) hx hb hown (hG _ q465) dX11_coinChance_62 ?_
      refine lv_ldc2 (v := (2 : Int64)) hx hb hown (hG _ q469) dX11_coinChance_65 ?_
      refine lv_lload hx hb dX11_coinChance_68 (lv_at hl_13 1 rfl) ?_
      refine lv_lmul hx hb dX11_coinChance_70 ?_
      refine lv_bipush (v := (48 : Int32)) hx hb dX11_coinChance_71 (by decide) ?_
      refine lv_iload_n hx hb dX11_coinChance_73 rfl (lv_at hl_13 0 rfl) ?_
      refine lv_isub hx hb dX11_coinChance_74 ?_
      refine lv_lshl hx hb dX11_coinChance_75 rfl ?_
      refine va_mmin_long hx hb (hml.trans hl_13.1.symm) hown (hG _ q470) (hG _ q471) (hG _ q126) (hG _ q472) (Nat.le_trans (Nat.le_of_ble_eq_true rfl) hRf) (Nat.le_trans (Nat.le_of_ble_eq_true rfl) hRl) (Nat.zero_le _) (Nat.zero_le _) dX11_coinChance_76 ?_
      cases hf
      exact ret H_12 lo_12 _ ls_13 I_12 dX11_coinChance_79
    have L1 : ∀ (n : Nat) (x8 : Int64) (x9 : Int64) (x10 : Int32), lp (fun q => C_LT_coinChance_s1 x1 x3 q.1 q.2.1 q.2.2) n (x8, x9, x10) = some r11 → ∀ (H : Heap) (locs : List Loc), sInv D (cT cI cJ cD cS) (cW ad cI cJ cD cS) A s H locs (G, E, Dd, P, L, pf) → ∀ (ls : Array Slot), lv_has ls 9 [(2, .int x1), (3, .int x3), (4, .long x8), (6, .long x9), (8, .int x10)] → W p l e R s m args below meth c H locs 0 0 Q (F0 m 27 ls []) := by
      intro n
      induction n with
      | zero => intro x8 x9 x10 hq; exact (lp_0 hq).elim
      | succ n ih1 =>
        intro x8 x9 x10 hq H_14 lo_14 I_14 ls_15 hl_15
        obtain ⟨y1, hf, hK1⟩ := lp_go hq
        replace hf : C_LT_coinChance_s1 x1 x3 x8 x9 x10 = some y1 := hf
        unfold C_LT_coinChance_s1 at hf
        refine lv_iload hx hb dX11_coinChance_27 (lv_at hl_15 4 rfl) ?_
        refine lv_iload_n hx hb dX11_coinChance_29 rfl (lv_at hl_15 1 rfl) ?_
        refine lv_icmp_lt (tgt := 62) hx hb dX11_coinChance_30 (by decide) (fun c23 => ?_) (fun c23 => ?_)
        · replace hf := (if_pos c23).symm.trans hf
          cases hf
          cases (show x9 = r11 from hK1)
          exact K1 H_14 lo_14 I_14 ls_15 (lv_sub hl_15 [0, 3] rfl)
        · replace hf := (if_neg c23).symm.trans hf
          refine lv_lload hx hb dX11_coinChance_33 (lv_at hl_15 3 rfl) ?_
          refine lv_lload hx hb dX11_coinChance_35 (lv_at hl_15 2 rfl) ?_
          refine lv_ladd hx hb dX11_coinChance_37 ?_
          refine lv_topl (fun x16 ex16 => ?_)
          replace hf := nm_some ex16 hf
          refine lv_lstore (lv' := [(6, .long x16), (2, .int x1), (3, .int x3), (4, .long x8), (8, .int x10)]) hx hb dX11_coinChance_38 hl_15 (by decide) rfl (fun ls_17 hl_17 => ?_)
          refine lv_lload hx hb dX11_coinChance_40 (lv_at hl_17 3 rfl) ?_
          refine lv_iload hx hb dX11_coinChance_42 (lv_at hl_17 4 rfl) ?_
          refine lv_i2l hx hb dX11_coinChance_44 rfl ?_
          refine lv_lmul hx hb dX11_coinChance_45 ?_
          refine lv_iload_n hx hb dX11_coinChance_46 rfl (lv_at hl_17 1 rfl) ?_
          refine lv_iload hx hb dX11_coinChance_47 (lv_at hl_17 4 rfl) ?_
          refine lv_isub hx hb dX11_coinChance_49 ?_
          refine lv_iconst (v := (1 : Int32)) hx hb dX11_coinChance_50 (by decide) ?_
          refine lv_iadd hx hb dX11_coinChance_51 ?_
          refine lv_i2l hx hb dX11_coinChance_52 rfl ?_
          obtain ⟨g18, hf⟩ := gd_some hf
          refine lv_ldiv hx hb dX11_coinChance_53 g18 ?_
          refine lv_topl (fun x19 ex19 => ?_)
          replace hf := nm_some ex19 hf
          refine lv_lstore (lv' := [(4, .long x19), (6, .long x16), (2, .int x1), (3, .int x3), (8, .int x10)]) hx hb dX11_coinChance_54 hl_17 (by decide) rfl (fun ls_20 hl_20 => ?_)
          obtain ⟨x21, ex21⟩ : ∃ y : Int32, y = x10 + (-1 : Int32) := ⟨_, rfl⟩
          replace hf := nm_some ex21 hf
          refine lv_iinc (v := x21) (lv' := [(8, .int x21), (4, .long x19), (6, .long x16), (2, .int x1), (3, .int x3)]) hx hb dX11_coinChance_56 hl_20 (k := 4) rfl (by rw [ex21]; rfl) (by decide) rfl (fun ls_22 hl_22 => ?_)
          refine lv_goto (tgt := 27) hx hb dX11_coinChance_59 (by decide) ?_
          cases hf
          exact ih1 _ _ _ hK1 H_14 lo_14 I_14 ls_22 (lv_sub hl_22 [3, 4, 1, 2, 0] rfl)
    exact L1 FU _ _ _ hq1 H lo I ls_7 (lv_sub hl_7 [4, 3, 2, 1, 0] rfl)
  · replace hf := (if_pos c24).symm.trans hf
    refine lv_ldc2 (v := (281474976710656 : Int64)) hx hb hown (hG _ q465) dX11_coinChance_8 ?_
    cases hf
    exact ret H lo _ ls_2 I dX11_coinChance_11
def C_TA_chanceOf (G : Nat → Nat → Int32) (a0 : Int32) (a1 : Int32) : Option (Int64) :=
bd (C_TA_winsOf G a0 a1) fun r1 =>
bd (C_TA_winsOf G a1 a0) fun r4 =>
bd (C_LT_coinChance r1 r4) fun r7 =>
some r7
set_option maxRecDepth 100000 in
set_option maxHeartbeats 4000000 in
theorem cC_TA_chanceOf (G : Nat → Nat → Int32) (E : Nat → Nat → Int64) (Dd : Nat → Nat → UInt64) (P : Nat → Option Nat) (L : List Nat) (pf : Nat → va_E) (a0 : Int32) (a1 : Int32) (rv : Int64)  (hf : C_TA_chanceOf G a0 a1 = some rv) : sMl D (cT cI cJ cD cS) (cW ad cI cJ cD cS) l yX9_chanceOf (ws1 yX9_chanceOf cX9_chanceOf 3 (some .long)) ({ frames := 2, cells := 0, slots := 0, locals := 51 }) [.ref (ad 9), .int a0, .int a1] (G, E, Dd, P, L, pf) (rv, (G, E, Dd, P, L, pf)) := by
  unfold C_TA_chanceOf at hf
  refine sMl_of (by decide) (Nat.le_of_ble_eq_true rfl) ?_
  intro p e R s m args below meth c A Q ls H lo F hRf hRl I hl ret
  obtain ⟨hx, hb, hml, hown, hG⟩ := id F
  replace hl : lv_has ls 3 [(0, .ref (ad 9)), (1, .int a0), (2, .int a1)] := hl
  refine lv_aload_n hx hb dX9_chanceOf_0 rfl (lv_at hl 0 rfl) ?_
  refine lv_iload_n hx hb dX9_chanceOf_1 rfl (lv_at hl 1 rfl) ?_
  refine lv_iload_n hx hb dX9_chanceOf_2 rfl (lv_at hl 2 rfl) ?_
  obtain ⟨r1, h2, hf⟩ := bd_some hf
  refine s_callVi (As := [.int a0, .int a1]) (rest := []) F I (cC_TA_winsOf G E Dd P L pf a0 a1 r1 h2) kX9_53 ⟨rfl, rfl⟩ ⟨Nat.le_trans (Nat.le_of_ble_eq_true rfl) hRf, Nat.le_trans (Nat.le_of_ble_eq_true rfl) hRl⟩ 9 9 rfl rfl rfl rfl rfl hl.1 (Nat.le_of_ble_eq_true rfl) ⟨Nat.zero_le _, Nat.zero_le _⟩ dX9_chanceOf_3 ?_
  intro H_3 lo_3 I_3
  refine lv_aload_n hx hb dX9_chanceOf_6 rfl (lv_at hl 0 rfl) ?_
  refine lv_iload_n hx hb dX9_chanceOf_7 rfl (lv_at hl 2 rfl) ?_
  refine lv_iload_n hx hb dX9_chanceOf_8 rfl (lv_at hl 1 rfl) ?_
  obtain ⟨r4, h5, hf⟩ := bd_some hf
  refine s_callVi (As := [.int a1, .int a0]) (rest := [.int r1]) F I_3 (cC_TA_winsOf G E Dd P L pf a1 a0 r4 h5) kX9_53 ⟨rfl, rfl⟩ ⟨Nat.le_trans (Nat.le_of_ble_eq_true rfl) hRf, Nat.le_trans (Nat.le_of_ble_eq_true rfl) hRl⟩ 9 9 rfl rfl rfl rfl rfl hl.1 (Nat.le_of_ble_eq_true rfl) ⟨Nat.zero_le _, Nat.zero_le _⟩ dX9_chanceOf_9 ?_
  intro H_6 lo_6 I_6
  obtain ⟨r7, h8, hf⟩ := bd_some hf
  refine s_callSNl (As := [.int r1, .int r4]) (rest := []) F I_6 (cC_LT_coinChance G E Dd P L pf r1 r4 r7 h8) kX9_56 ⟨rfl, rfl⟩ ⟨Nat.le_trans (Nat.le_of_ble_eq_true rfl) hRf, Nat.le_trans (Nat.le_of_ble_eq_true rfl) hRl⟩ rfl rfl hl.1 (Nat.le_of_ble_eq_true rfl) ⟨Nat.zero_le _, Nat.zero_le _⟩ dX9_chanceOf_12 ?_
  intro H_9 lo_9 I_9
  cases hf
  exact ret H_9 lo_9 _ ls I_9 dX9_chanceOf_15
def C_PP_insert_s1 (a1 : Int64) (x3 : Int32) (G4 : Nat → Nat → Int32) (E5 : Nat → Nat → Int64) : Option ((Int32 × (Nat → Nat → Int32) × (Nat → Nat → Int64)) ⊕ (Int32 × (Nat → Nat → Int32) × (Nat → Nat → Int64))) :=
if x3 ≤ 0 then
(some (.inr (x3, G4, E5)))
else
(ri 28 (x3 - (1 : Int32)) <|
if lg_cmp (E5 0 (x3 - (1 : Int32)).toNatClampNeg) a1 ≤ 0 then
(some (.inr (x3, G4, E5)))
else
(ri 28 (x3 - (1 : Int32)) <|
ri 28 x3 <|
nm (wr G4 39 x3 (G4 39 (x3 - (1 : Int32)).toNatClampNeg)) fun G24 =>
ri 28 (x3 - (1 : Int32)) <|
ri 28 x3 <|
nm (wr E5 0 x3 (E5 0 (x3 - (1 : Int32)).toNatClampNeg)) fun E28 =>
nm (x3 + (-1 : Int32) : Int32) fun x30 =>
some (.inl (x30, G24, E28))))
def C_PP_insert (G : Nat → Nat → Int32) (E : Nat → Nat → Int64) (a0 : Int32) (a1 : Int64) : Option ((Nat → Nat → Int32) × (Nat → Nat → Int64)) :=
if G 40 0 < (28 : Int32) then
(nm (G 40 0 : Int32) fun x1 =>
bd3 (lp (fun q => C_PP_insert_s1 a1 q.1 q.2.1 q.2.2) FU (x1, G, E)) fun r6 G7 E8 =>
ri 28 r6 <|
nm (wr G7 39 r6 a0) fun G12 =>
ri 28 r6 <|
nm (wr E8 0 r6 a1) fun E15 =>
nm (wf G12 40 ((G12 40 0) + (1 : Int32))) fun G17 =>
some (G17, E15))
else
(some (G, E))
set_option maxRecDepth 100000 in
set_option maxHeartbeats 4000000 in
theorem cC_PP_insert (G : Nat → Nat → Int32) (E : Nat → Nat → Int64) (Dd : Nat → Nat → UInt64) (P : Nat → Option Nat) (L : List Nat) (pf : Nat → va_E) (a0 : Int32) (a1 : Int64)  (newG : Nat → Nat → Int32) (newE : Nat → Nat → Int64) (hf : C_PP_insert G E a0 a1 = some (newG, newE)) : sMv D (cT cI cJ cD cS) (cW ad cI cJ cD cS) l yX5_insert (ws1 yX5_insert cX5_insert 5 none) ({ frames := 0, cells := 0, slots := 0, locals := 0 }) [.ref (ad 30), .int a0, .long a1] (G, E, Dd, P, L, pf) (newG, newE, Dd, P, L, pf) := by
  unfold C_PP_insert at hf
  refine sMv_of (by decide) (Nat.le_of_ble_eq_true rfl) ?_
  intro p e R s m args below meth c A Q ls H lo F hRf hRl I hl ret
  obtain ⟨hx, hb, hml, hown, hG⟩ := id F
  replace hl : lv_has ls 5 [(0, .ref (ad 30)), (1, .int a0), (2, .long a1)] := hl
  refine lv_aload_n hx hb dX5_insert_0 rfl (lv_at hl 0 rfl) ?_
  refine kgtX5_19_30 F I dX5_insert_1 ?_
  refine lv_bipush (v := (28 : Int32)) hx hb dX5_insert_4 (by decide) ?_
  refine lv_icmp_lt (tgt := 10) hx hb dX5_insert_6 (by decide) (fun c34 => ?_) (fun c34 => ?_)
  · replace hf := (if_pos c34).symm.trans hf
    refine lv_aload_n hx hb dX5_insert_10 rfl (lv_at hl 0 rfl) ?_
    refine kgtX5_19_30 F I dX5_insert_11 ?_
    refine lv_topi (fun x1 ex1 => ?_)
    replace hf := nm_some ex1 hf
    refine lv_istore (lv' := [(4, .int x1), (0, .ref (ad 30)), (1, .int a0), (2, .long a1)]) hx hb dX5_insert_14 hl (by decide) rfl (fun ls_2 hl_2 => ?_)
    obtain ⟨r6, G7, E8, hq1, hf⟩ := bd3_some hf
    have K1 : ∀ (H : Heap) (locs : List Loc), sInv D (cT cI cJ cD cS) (cW ad cI cJ cD cS) A s H locs (G7, E8, Dd, P, L, pf) → ∀ (ls : Array Slot), lv_has ls 5 [(0, .ref (ad 30)), (1, .int a0), (2, .long a1), (4, .int r6)] → W p l e R s m args below meth c H locs 0 0 Q (F0 m 73 ls []) := by
      intro H_9 lo_9 I_9 ls_10 hl_10
      refine lv_aload_n hx hb dX5_insert_73 rfl (lv_at hl_10 0 rfl) ?_
      refine kgtX5_9_30 F I_9 dX5_insert_74 ?_
      refine lv_iload hx hb dX5_insert_77 (lv_at hl_10 3 rfl) ?_
      refine lv_iload_n hx hb dX5_insert_79 rfl (lv_at hl_10 1 rfl) ?_
      obtain ⟨g11, hf⟩ := ri_some hf
      refine kas31 F I_9 g11 dX5_insert_80 ?_
      intro H_13 lo_13 G12 eG12 I_13
      replace hf := nm_some eG12 hf
      refine lv_aload_n hx hb dX5_insert_81 rfl (lv_at hl_10 0 rfl) ?_
      refine kgtX5_15_30 F I_13 dX5_insert_82 ?_
      refine lv_iload hx hb dX5_insert_85 (lv_at hl_10 3 rfl) ?_
      refine lv_lload_n hx hb dX5_insert_87 rfl (lv_at hl_10 2 rfl) ?_
      obtain ⟨g14, hf⟩ := ri_some hf
      refine kas32 F I_13 g14 dX5_insert_88 ?_
      intro H_16 lo_16 E15 eE15 I_16
      replace hf := nm_some eE15 hf
      refine lv_aload_n hx hb dX5_insert_89 rfl (lv_at hl_10 0 rfl) ?_
      refine lv_dup hx hb dX5_insert_90 rfl ?_
      refine kgtX5_19_30 F I_16 dX5_insert_91 ?_
      refine lv_iconst (v := (1 : Int32)) hx hb dX5_insert_94 (by decide) ?_
      refine lv_iadd hx hb dX5_insert_95 ?_
      refine kptX5_19_30 F I_16 dX5_insert_96 ?_
      intro H_18 lo_18 G17 eG17 I_18
      replace hf := nm_some eG17 hf
      cases hf
      exact ret H_18 lo_18 _ ls_10 I_18 dX5_insert_99
    have L1 : ∀ (n : Nat) (x3 : Int32) (G4 : Nat → Nat → Int32) (E5 : Nat → Nat → Int64), lp (fun q => C_PP_insert_s1 a1 q.1 q.2.1 q.2.2) n (x3, G4, E5) = some (r6, G7, E8) → ∀ (H : Heap) (locs : List Loc), sInv D (cT cI cJ cD cS) (cW ad cI cJ cD cS) A s H locs (G4, E5, Dd, P, L, pf) → ∀ (ls : Array Slot), lv_has ls 5 [(0, .ref (ad 30)), (1, .int a0), (2, .long a1), (4, .int x3)] → W p l e R s m args below meth c H locs 0 0 Q (F0 m 16 ls []) := by
      intro n
      induction n with
      | zero => intro x3 G4 E5 hq; exact (lp_0 hq).elim
      | succ n ih1 =>
        intro x3 G4 E5 hq H_19 lo_19 I_19 ls_20 hl_20
        obtain ⟨y1, hf, hK1⟩ := lp_go hq
        replace hf : C_PP_insert_s1 a1 x3 G4 E5 = some y1 := hf
        unfold C_PP_insert_s1 at hf
        refine lv_iload hx hb dX5_insert_16 (lv_at hl_20 3 rfl) ?_
        refine lv_if_le (tgt := 73) hx hb dX5_insert_18 (by decide) (fun c33 => ?_) (fun c33 => ?_)
        · replace hf := (if_pos c33).symm.trans hf
          cases hf
          cases (show (x3, G4, E5) = (r6, G7, E8) from hK1)
          exact K1 H_19 lo_19 I_19 ls_20 (lv_sub hl_20 [0, 1, 2, 3] rfl)
        · replace hf := (if_neg c33).symm.trans hf
          refine lv_aload_n hx hb dX5_insert_21 rfl (lv_at hl_20 0 rfl) ?_
          refine kgtX5_15_30 F I_19 dX5_insert_22 ?_
          refine lv_iload hx hb dX5_insert_25 (lv_at hl_20 3 rfl) ?_
          refine lv_iconst (v := (1 : Int32)) hx hb dX5_insert_27 (by decide) ?_
          refine lv_isub hx hb dX5_insert_28 ?_
          obtain ⟨g21, hf⟩ := ri_some hf
          refine kal32 F I_19 g21 dX5_insert_29 ?_
          refine lv_lload_n hx hb dX5_insert_30 rfl (lv_at hl_20 2 rfl) ?_
          refine W.lcmp hx hb dX5_insert_31 ?_
          refine lv_if_le (tgt := 73) hx hb dX5_insert_32 (by decide) (fun c32 => ?_) (fun c32 => ?_)
          · replace hf := (if_pos c32).symm.trans hf
            cases hf
            cases (show (x3, G4, E5) = (r6, G7, E8) from hK1)
            exact K1 H_19 lo_19 I_19 ls_20 (lv_sub hl_20 [0, 1, 2, 3] rfl)
          · replace hf := (if_neg c32).symm.trans hf
            refine lv_aload_n hx hb dX5_insert_35 rfl (lv_at hl_20 0 rfl) ?_
            refine kgtX5_9_30 F I_19 dX5_insert_36 ?_
            refine lv_iload hx hb dX5_insert_39 (lv_at hl_20 3 rfl) ?_
            refine lv_aload_n hx hb dX5_insert_41 rfl (lv_at hl_20 0 rfl) ?_
            refine kgtX5_9_30 F I_19 dX5_insert_42 ?_
            refine lv_iload hx hb dX5_insert_45 (lv_at hl_20 3 rfl) ?_
            refine lv_iconst (v := (1 : Int32)) hx hb dX5_insert_47 (by decide) ?_
            refine lv_isub hx hb dX5_insert_48 ?_
            obtain ⟨g22, hf⟩ := ri_some hf
            refine kal31 F I_19 g22 dX5_insert_49 ?_
            obtain ⟨g23, hf⟩ := ri_some hf
            refine kas31 F I_19 g23 dX5_insert_50 ?_
            intro H_25 lo_25 G24 eG24 I_25
            replace hf := nm_some eG24 hf
            refine lv_aload_n hx hb dX5_insert_51 rfl (lv_at hl_20 0 rfl) ?_
            refine kgtX5_15_30 F I_25 dX5_insert_52 ?_
            refine lv_iload hx hb dX5_insert_55 (lv_at hl_20 3 rfl) ?_
            refine lv_aload_n hx hb dX5_insert_57 rfl (lv_at hl_20 0 rfl) ?_
            refine kgtX5_15_30 F I_25 dX5_insert_58 ?_
            refine lv_iload hx hb dX5_insert_61 (lv_at hl_20 3 rfl) ?_
            refine lv_iconst (v := (1 : Int32)) hx hb dX5_insert_63 (by decide) ?_
            refine lv_isub hx hb dX5_insert_64 ?_
            obtain ⟨g26, hf⟩ := ri_some hf
            refine kal32 F I_25 g26 dX5_insert_65 ?_
            obtain ⟨g27, hf⟩ := ri_some hf
            refine kas32 F I_25 g27 dX5_insert_66 ?_
            intro H_29 lo_29 E28 eE28 I_29
            replace hf := nm_some eE28 hf
            obtain ⟨x30, ex30⟩ : ∃ y : Int32, y = x3 + (-1 : Int32) := ⟨_, rfl⟩
            replace hf := nm_some ex30 hf
            refine lv_iinc (v := x30) (lv' := [(4, .int x30), (0, .ref (ad 30)), (1, .int a0), (2, .long a1)]) hx hb dX5_insert_67 hl_20 (k := 3) rfl (by rw [ex30]; rfl) (by decide) rfl (fun ls_31 hl_31 => ?_)
            refine lv_goto (tgt := 16) hx hb dX5_insert_70 (by decide) ?_
            cases hf
            exact ih1 _ _ _ hK1 H_29 lo_29 I_29 ls_31 (lv_sub hl_31 [1, 2, 3, 0] rfl)
    exact L1 FU _ _ _ hq1 H lo I ls_2 (lv_sub hl_2 [1, 2, 3, 0] rfl)
  · replace hf := (if_neg c34).symm.trans hf
    cases hf
    exact ret H lo _ ls I dX5_insert_9
def C_PP_take_s2 (a1 : Int32) (x4 : Int32) (x15 : Int32) (G16 : Nat → Nat → Int32) (E17 : Nat → Nat → Int64) : Option ((Int32 × (Nat → Nat → Int32) × (Nat → Nat → Int64)) ⊕ ((Nat → Nat → Int32) × (Nat → Nat → Int64))) :=
if a1 ≤ x15 then
(some (.inr (G16, E17)))
else
(bd (C_TA_decidedOf G16 x4 x15) fun r26 =>
bd2 (if r26 ≤ 0 then
(some (G16, E17))
else
(nm (C_LT_cell x4 x15) fun r37 =>
bd (C_TA_chanceOf G16 x4 x15) fun r40 =>
bd2 (C_PP_insert G16 E17 r37 r40) fun G43 E44 =>
some (G43, E44))) fun G30 E31 =>
nm (x15 + (1 : Int32) : Int32) fun x34 =>
some (.inl (x34, G30, E31)))
def C_PP_take_s1 (a1 : Int32) (x4 : Int32) (G5 : Nat → Nat → Int32) (E6 : Nat → Nat → Int64) : Option ((Int32 × (Nat → Nat → Int32) × (Nat → Nat → Int64)) ⊕ ((Nat → Nat → Int32) × (Nat → Nat → Int64))) :=
if a1 ≤ x4 then
(some (.inr (G5, E6)))
else
(nm (x4 + (1 : Int32) : Int32) fun x13 =>
bd2 (lp (fun q => C_PP_take_s2 a1 x4 q.1 q.2.1 q.2.2) FU (x13, G5, E6)) fun G18 E19 =>
nm (x4 + (1 : Int32) : Int32) fun x22 =>
some (.inl (x22, G18, E19)))
def C_PP_take (G : Nat → Nat → Int32) (E : Nat → Nat → Int64) (a1 : Int32) : Option ((Nat → Nat → Int32) × (Nat → Nat → Int64)) :=
nm (wf G 40 (0 : Int32)) fun G1 =>
bd2 (lp (fun q => C_PP_take_s1 a1 q.1 q.2.1 q.2.2) FU ((0 : Int32), G1, E)) fun G7 E8 =>
some (G7, E8)
set_option maxRecDepth 100000 in
set_option maxHeartbeats 4000000 in
theorem cC_PP_take (G : Nat → Nat → Int32) (E : Nat → Nat → Int64) (Dd : Nat → Nat → UInt64) (P : Nat → Option Nat) (L : List Nat) (pf : Nat → va_E) (a1 : Int32)  (newG : Nat → Nat → Int32) (newE : Nat → Nat → Int64) (hf : C_PP_take G E a1 = some (newG, newE)) : sMv D (cT cI cJ cD cS) (cW ad cI cJ cD cS) l yX5_take (ws1 yX5_take cX5_take 5 none) ({ frames := 3, cells := 0, slots := 0, locals := 73 }) [.ref (ad 30), .ref (ad 9), .int a1] (G, E, Dd, P, L, pf) (newG, newE, Dd, P, L, pf) := by
  unfold C_PP_take at hf
  refine sMv_of (by decide) (Nat.le_of_ble_eq_true rfl) ?_
  intro p e R s m args below meth c A Q ls H lo F hRf hRl I hl ret
  obtain ⟨hx, hb, hml, hown, hG⟩ := id F
  replace hl : lv_has ls 5 [(0, .ref (ad 30)), (1, .ref (ad 9)), (2, .int a1)] := hl
  refine lv_aload_n hx hb dX5_take_0 rfl (lv_at hl 0 rfl) ?_
  refine lv_iconst (v := (0 : Int32)) hx hb dX5_take_1 (by decide) ?_
  refine kptX5_19_30 F I dX5_take_2 ?_
  intro H_2 lo_2 G1 eG1 I_2
  replace hf := nm_some eG1 hf
  refine lv_iconst (v := (0 : Int32)) hx hb dX5_take_5 (by decide) ?_
  refine lv_istore_n (lv' := [(3, .int (0 : Int32)), (0, .ref (ad 30)), (1, .ref (ad 9)), (2, .int a1)]) hx hb dX5_take_6 rfl hl (by decide) rfl (fun ls_3 hl_3 => ?_)
  obtain ⟨G7, E8, hq1, hf⟩ := bd2_some hf
  have K1 : ∀ (H : Heap) (locs : List Loc), sInv D (cT cI cJ cD cS) (cW ad cI cJ cD cS) A s H locs (G7, E8, Dd, P, L, pf) → ∀ (ls : Array Slot), lv_has ls 5 [] → W p l e R s m args below meth c H locs 0 0 Q (F0 m 62 ls []) := by
    intro H_9 lo_9 I_9 ls_10 hl_10
    cases hf
    exact ret H_9 lo_9 _ ls_10 I_9 dX5_take_62
  have L1 : ∀ (n : Nat) (x4 : Int32) (G5 : Nat → Nat → Int32) (E6 : Nat → Nat → Int64), lp (fun q => C_PP_take_s1 a1 q.1 q.2.1 q.2.2) n (x4, G5, E6) = some (G7, E8) → ∀ (H : Heap) (locs : List Loc), sInv D (cT cI cJ cD cS) (cW ad cI cJ cD cS) A s H locs (G5, E6, Dd, P, L, pf) → ∀ (ls : Array Slot), lv_has ls 5 [(0, .ref (ad 30)), (1, .ref (ad 9)), (2, .int a1), (3, .int x4)] → W p l e R s m args below meth c H locs 0 0 Q (F0 m 7 ls []) := by
    intro n
    induction n with
    | zero => intro x4 G5 E6 hq; exact (lp_0 hq).elim
    | succ n ih1 =>
      intro x4 G5 E6 hq H_11 lo_11 I_11 ls_12 hl_12
      obtain ⟨y1, hf, hK1⟩ := lp_go hq
      replace hf : C_PP_take_s1 a1 x4 G5 E6 = some y1 := hf
      unfold C_PP_take_s1 at hf
      refine lv_iload_n hx hb dX5_take_7 rfl (lv_at hl_12 3 rfl) ?_
      refine lv_iload_n hx hb dX5_take_8 rfl (lv_at hl_12 2 rfl) ?_
      refine lv_icmp_ge (tgt := 62) hx hb dX5_take_9 (by decide) (fun c49 => ?_) (fun c49 => ?_)
      · replace hf := (if_pos c49).symm.trans hf
        cases hf
        cases (show (G5, E6) = (G7, E8) from hK1)
        exact K1 H_11 lo_11 I_11 ls_12 (lv_sub hl_12 [] rfl)
      · replace hf := (if_neg c49).symm.trans hf
        refine lv_iload_n hx hb dX5_take_12 rfl (lv_at hl_12 3 rfl) ?_
        refine lv_iconst (v := (1 : Int32)) hx hb dX5_take_13 (by decide) ?_
        refine lv_iadd hx hb dX5_take_14 ?_
        refine lv_topi (fun x13 ex13 => ?_)
        replace hf := nm_some ex13 hf
        refine lv_istore (lv' := [(4, .int x13), (0, .ref (ad 30)), (1, .ref (ad 9)), (2, .int a1), (3, .int x4)]) hx hb dX5_take_15 hl_12 (by decide) rfl (fun ls_14 hl_14 => ?_)
        obtain ⟨G18, E19, hq2, hf⟩ := bd2_some hf
        have K2 : ∀ (H : Heap) (locs : List Loc), sInv D (cT cI cJ cD cS) (cW ad cI cJ cD cS) A s H locs (G18, E19, Dd, P, L, pf) → ∀ (ls : Array Slot), lv_has ls 5 [(0, .ref (ad 30)), (1, .ref (ad 9)), (2, .int a1), (3, .int x4)] → W p l e R s m args below meth c H locs 0 0 Q (F0 m 56 ls []) := by
          intro H_20 lo_20 I_20 ls_21 hl_21
          obtain ⟨x22, ex22⟩ : ∃ y : Int32, y = x4 + (1 : Int32) := ⟨_, rfl⟩
          replace hf := nm_some ex22 hf
          refine lv_iinc (v := x22) (lv' := [(3, .int x22), (0, .ref (ad 30)), (1, .ref (ad 9)), (2, .int a1)]) hx hb dX5_take_56 hl_21 (k := 3) rfl (by rw [ex22]; rfl) (by decide) rfl (fun ls_23 hl_23 => ?_)
          refine lv_goto (tgt := 7) hx hb dX5_take_59 (by decide) ?_
          cases hf
          exact ih1 _ _ _ hK1 H_20 lo_20 I_20 ls_23 (lv_sub hl_23 [1, 2, 3, 0] rfl)
        have L2 : ∀ (n : Nat) (x15 : Int32) (G16 : Nat → Nat → Int32) (E17 : Nat → Nat → Int64), lp (fun q => C_PP_take_s2 a1 x4 q.1 q.2.1 q.2.2) n (x15, G16, E17) = some (G18, E19) → ∀ (H : Heap) (locs : List Loc), sInv D (cT cI cJ cD cS) (cW ad cI cJ cD cS) A s H locs (G16, E17, Dd, P, L, pf) → ∀ (ls : Array Slot), lv_has ls 5 [(0, .ref (ad 30)), (1, .ref (ad 9)), (2, .int a1), (3, .int x4), (4, .int x15)] → W p l e R s m args below meth c H locs 0 0 Q (F0 m 17 ls []) := by
          intro n
          induction n with
          | zero => intro x15 G16 E17 hq; exact (lp_0 hq).elim
          | succ n ih2 =>
            intro x15 G16 E17 hq H_24 lo_24 I_24 ls_25 hl_25
            obtain ⟨y2, hf, hK2⟩ := lp_go hq
            replace hf : C_PP_take_s2 a1 x4 x15 G16 E17 = some y2 := hf
            unfold C_PP_take_s2 at hf
            refine lv_iload hx hb dX5_take_17 (lv_at hl_25 4 rfl) ?_
            refine lv_iload_n hx hb dX5_take_19 rfl (lv_at hl_25 2 rfl) ?_
            refine lv_icmp_ge (tgt := 56) hx hb dX5_take_20 (by decide) (fun c48 => ?_) (fun c48 => ?_)
            · replace hf := (if_pos c48).symm.trans hf
              cases hf
              cases (show (G16, E17) = (G18, E19) from hK2)
              exact K2 H_24 lo_24 I_24 ls_25 (lv_sub hl_25 [0, 1, 2, 3] rfl)
            · replace hf := (if_neg c48).symm.trans hf
              refine lv_aload_n hx hb dX5_take_23 rfl (lv_at hl_25 1 rfl) ?_
              refine lv_iload_n hx hb dX5_take_24 rfl (lv_at hl_25 3 rfl) ?_
              refine lv_iload hx hb dX5_take_25 (lv_at hl_25 4 rfl) ?_
              obtain ⟨r26, h27, hf⟩ := bd_some hf
              refine s_callVi (As := [.int x4, .int x15]) (rest := []) F I_24 (cC_TA_decidedOf G16 E17 Dd P L pf x4 x15 r26 h27) kX5_23 ⟨rfl, rfl⟩ ⟨Nat.le_trans (Nat.le_of_ble_eq_true rfl) hRf, Nat.le_trans (Nat.le_of_ble_eq_true rfl) hRl⟩ 9 9 rfl rfl rfl rfl rfl hl_25.1 (Nat.le_of_ble_eq_true rfl) ⟨Nat.zero_le _, Nat.zero_le _⟩ dX5_take_27 ?_
              intro H_28 lo_28 I_28
              obtain ⟨G30, E31, hv36, hf⟩ := bd2_some hf
              have J29 : ∀ (H : Heap) (locs : List Loc), sInv D (cT cI cJ cD cS) (cW ad cI cJ cD cS) A s H locs (G30, E31, Dd, P, L, pf) → ∀ (ls : Array Slot), lv_has ls 5 [(0, .ref (ad 30)), (1, .ref (ad 9)), (2, .int a1), (3, .int x4), (4, .int x15)] → W p l e R s m args below meth c H locs 0 0 Q (F0 m 50 ls []) := by
                intro H_32 lo_32 I_32 ls_33 hl_33
                obtain ⟨x34, ex34⟩ : ∃ y : Int32, y = x15 + (1 : Int32) := ⟨_, rfl⟩
                replace hf := nm_some ex34 hf
                refine lv_iinc (v := x34) (lv' := [(4, .int x34), (0, .ref (ad 30)), (1, .ref (ad 9)), (2, .int a1), (3, .int x4)]) hx hb dX5_take_50 hl_33 (k := 4) rfl (by rw [ex34]; rfl) (by decide) rfl (fun ls_35 hl_35 => ?_)
                refine lv_goto (tgt := 17) hx hb dX5_take_53 (by decide) ?_
                cases hf
                exact ih2 _ _ _ hK2 H_32 lo_32 I_32 ls_35 (lv_sub hl_35 [1, 2, 3, 4, 0] rfl)
              replace hf := hv36
              refine lv_if_le (tgt := 50) hx hb dX5_take_30 (by decide) (fun c47 => ?_) (fun c47 => ?_)
              · replace hf := (if_pos c47).symm.trans hf
                cases hf
                exact J29 H_28 lo_28 I_28 ls_25 (lv_sub hl_25 [0, 1, 2, 3, 4] rfl)
              · replace hf := (if_neg c47).symm.trans hf
                refine lv_aload_n hx hb dX5_take_33 rfl (lv_at hl_25 0 rfl) ?_
                refine lv_iload_n hx hb dX5_take_34 rfl (lv_at hl_25 3 rfl) ?_
                refine lv_iload hx hb dX5_take_35 (lv_at hl_25 4 rfl) ?_
                obtain ⟨r37, h38⟩ : ∃ z, z = C_LT_cell x4 x15 := ⟨_, rfl⟩
                replace hf := nm_some h38 hf
                refine s_callSNi (As := [.int x4, .int x15]) (rest := [.ref (ad 30)]) F I_28 (cC_LT_cell G16 E17 Dd P L pf x4 x15 r37 h38) kX5_29 ⟨rfl, rfl⟩ ⟨Nat.le_trans (Nat.le_of_ble_eq_true rfl) hRf, Nat.le_trans (Nat.le_of_ble_eq_true rfl) hRl⟩ rfl rfl hl_25.1 (Nat.le_of_ble_eq_true rfl) ⟨Nat.zero_le _, Nat.zero_le _⟩ dX5_take_37 ?_
                intro H_39 lo_39 I_39
                refine lv_aload_n hx hb dX5_take_40 rfl (lv_at hl_25 1 rfl) ?_
                refine lv_iload_n hx hb dX5_take_41 rfl (lv_at hl_25 3 rfl) ?_
                refine lv_iload hx hb dX5_take_42 (lv_at hl_25 4 rfl) ?_
                obtain ⟨r40, h41, hf⟩ := bd_some hf
                refine s_callVl (As := [.int x4, .int x15]) (rest := [.int r37, .ref (ad 30)]) F I_39 (cC_TA_chanceOf G16 E17 Dd P L pf x4 x15 r40 h41) kX5_32 ⟨rfl, rfl⟩ ⟨Nat.le_trans (Nat.le_of_ble_eq_true rfl) hRf, Nat.le_trans (Nat.le_of_ble_eq_true rfl) hRl⟩ 9 9 rfl rfl rfl rfl rfl hl_25.1 (Nat.le_of_ble_eq_true rfl) ⟨Nat.zero_le _, Nat.zero_le _⟩ dX5_take_44 ?_
                intro H_42 lo_42 I_42
                obtain ⟨G43, E44, h45, hf⟩ := bd2_some hf
                refine s_callVv (As := [.int r37, .long r40]) (rest := []) F I_42 (cC_PP_insert G16 E17 Dd P L pf r37 r40 G43 E44 h45) kX5_36 ⟨rfl, rfl⟩ ⟨Nat.le_trans (Nat.le_of_ble_eq_true rfl) hRf, Nat.le_trans (Nat.le_of_ble_eq_true rfl) hRl⟩ 30 5 rfl rfl rfl rfl rfl hl_25.1 (Nat.le_of_ble_eq_true rfl) ⟨Nat.zero_le _, Nat.zero_le _⟩ dX5_take_47 ?_
                intro H_46 lo_46 I_46
                cases hf
                exact J29 H_46 lo_46 I_46 ls_25 (lv_sub hl_25 [0, 1, 2, 3, 4] rfl)
        exact L2 FU _ _ _ hq2 H_11 lo_11 I_11 ls_14 (lv_sub hl_14 [1, 2, 3, 4, 0] rfl)
  exact L1 FU _ _ _ hq1 H_2 lo_2 I_2 ls_3 (lv_sub hl_3 [1, 2, 3, 0] rfl)
def C_PP_countAt_s1 (a0 : Int32) (G : Nat → Nat → Int32) (E : Nat → Nat → Int64) (x2 : Int32) : Option ((Int32) ⊕ (Int32)) :=
if G 40 0 ≤ x2 then
(some (.inr x2))
else
(ri 28 x2 <|
if 0 < lg_cmp (((E 0 x2.toNatClampNeg) * (1000 : Int64)) * (((G 40 0) - x2).toInt64)) (a0.toInt64 * (281474976710656 : Int64)) then
(some (.inr x2))
else
(nm (x2 + (1 : Int32) : Int32) fun x9 =>
some (.inl x9)))
def C_PP_countAt (G : Nat → Nat → Int32) (E : Nat → Nat → Int64) (a0 : Int32) : Option (Int32) :=
bd (lp (fun q => C_PP_countAt_s1 a0 G E q) FU (0 : Int32)) fun r3 =>
some r3
set_option maxRecDepth 100000 in
set_option maxHeartbeats 4000000 in
theorem cC_PP_countAt (G : Nat → Nat → Int32) (E : Nat → Nat → Int64) (Dd : Nat → Nat → UInt64) (P : Nat → Option Nat) (L : List Nat) (pf : Nat → va_E) (a0 : Int32) (rv : Int32)  (hf : C_PP_countAt G E a0 = some rv) : sMi D (cT cI cJ cD cS) (cW ad cI cJ cD cS) l yX5_countAt (ws1 yX5_countAt cX5_countAt 3 (some .int)) ({ frames := 0, cells := 0, slots := 0, locals := 0 }) [.ref (ad 30), .int a0] (G, E, Dd, P, L, pf) (rv, (G, E, Dd, P, L, pf)) := by
  unfold C_PP_countAt at hf
  refine sMi_of (by decide) (Nat.le_of_ble_eq_true rfl) ?_
  intro p e R s m args below meth c A Q ls H lo F hRf hRl I hl ret
  obtain ⟨hx, hb, hml, hown, hG⟩ := id F
  replace hl : lv_has ls 3 [(0, .ref (ad 30)), (1, .int a0)] := hl
  refine lv_iconst (v := (0 : Int32)) hx hb dX5_countAt_0 (by decide) ?_
  refine lv_istore_n (lv' := [(2, .int (0 : Int32)), (0, .ref (ad 30)), (1, .int a0)]) hx hb dX5_countAt_1 rfl hl (by decide) rfl (fun ls_1 hl_1 => ?_)
  obtain ⟨r3, hq1, hf⟩ := bd_some hf
  have K1 : ∀ (H : Heap) (locs : List Loc), sInv D (cT cI cJ cD cS) (cW ad cI cJ cD cS) A s H locs (G, E, Dd, P, L, pf) → ∀ (ls : Array Slot), lv_has ls 3 [(2, .int r3)] → W p l e R s m args below meth c H locs 0 0 Q (F0 m 44 ls []) := by
    intro H_4 lo_4 I_4 ls_5 hl_5
    refine lv_iload_n hx hb dX5_countAt_44 rfl (lv_at hl_5 0 rfl) ?_
    cases hf
    exact ret H_4 lo_4 _ ls_5 I_4 dX5_countAt_45
  have L1 : ∀ (n : Nat) (x2 : Int32), lp (fun q => C_PP_countAt_s1 a0 G E q) n x2 = some r3 → ∀ (H : Heap) (locs : List Loc), sInv D (cT cI cJ cD cS) (cW ad cI cJ cD cS) A s H locs (G, E, Dd, P, L, pf) → ∀ (ls : Array Slot), lv_has ls 3 [(0, .ref (ad 30)), (1, .int a0), (2, .int x2)] → W p l e R s m args below meth c H locs 0 0 Q (F0 m 2 ls []) := by
    intro n
    induction n with
    | zero => intro x2 hq; exact (lp_0 hq).elim
    | succ n ih1 =>
      intro x2 hq H_6 lo_6 I_6 ls_7 hl_7
      obtain ⟨y1, hf, hK1⟩ := lp_go hq
      replace hf : C_PP_countAt_s1 a0 G E x2 = some y1 := hf
      unfold C_PP_countAt_s1 at hf
      refine lv_iload_n hx hb dX5_countAt_2 rfl (lv_at hl_7 2 rfl) ?_
      refine lv_aload_n hx hb dX5_countAt_3 rfl (lv_at hl_7 0 rfl) ?_
      refine kgtX5_19_30 F I_6 dX5_countAt_4 ?_
      refine lv_icmp_ge (tgt := 44) hx hb dX5_countAt_7 (by decide) (fun c12 => ?_) (fun c12 => ?_)
      · replace hf := (if_pos c12).symm.trans hf
        cases hf
        cases (show x2 = r3 from hK1)
        exact K1 H_6 lo_6 I_6 ls_7 (lv_sub hl_7 [2] rfl)
      · replace hf := (if_neg c12).symm.trans hf
        refine lv_aload_n hx hb dX5_countAt_10 rfl (lv_at hl_7 0 rfl) ?_
        refine kgtX5_15_30 F I_6 dX5_countAt_11 ?_
        refine lv_iload_n hx hb dX5_countAt_14 rfl (lv_at hl_7 2 rfl) ?_
        obtain ⟨g8, hf⟩ := ri_some hf
        refine kal32 F I_6 g8 dX5_countAt_15 ?_
        refine lv_ldc2 (v := (1000 : Int64)) hx hb hown (hG _ q772) dX5_countAt_16 ?_
        refine lv_lmul hx hb dX5_countAt_19 ?_
        refine lv_aload_n hx hb dX5_countAt_20 rfl (lv_at hl_7 0 rfl) ?_
        refine kgtX5_19_30 F I_6 dX5_countAt_21 ?_
        refine lv_iload_n hx hb dX5_countAt_24 rfl (lv_at hl_7 2 rfl) ?_
        refine lv_isub hx hb dX5_countAt_25 ?_
        refine lv_i2l hx hb dX5_countAt_26 rfl ?_
        refine lv_lmul hx hb dX5_countAt_27 ?_
        refine lv_iload_n hx hb dX5_countAt_28 rfl (lv_at hl_7 1 rfl) ?_
        refine lv_i2l hx hb dX5_countAt_29 rfl ?_
        refine lv_ldc2 (v := (281474976710656 : Int64)) hx hb hown (hG _ q773) dX5_countAt_30 ?_
        refine lv_lmul hx hb dX5_countAt_33 ?_
        refine W.lcmp hx hb dX5_countAt_34 ?_
        refine lv_if_gt (tgt := 44) hx hb dX5_countAt_35 (by decide) (fun c11 => ?_) (fun c11 => ?_)
        · replace hf := (if_pos c11).symm.trans hf
          cases hf
          cases (show x2 = r3 from hK1)
          exact K1 H_6 lo_6 I_6 ls_7 (lv_sub hl_7 [2] rfl)
        · replace hf := (if_neg c11).symm.trans hf
          obtain ⟨x9, ex9⟩ : ∃ y : Int32, y = x2 + (1 : Int32) := ⟨_, rfl⟩
          replace hf := nm_some ex9 hf
          refine lv_iinc (v := x9) (lv' := [(2, .int x9), (0, .ref (ad 30)), (1, .int a0)]) hx hb dX5_countAt_38 hl_7 (k := 2) rfl (by rw [ex9]; rfl) (by decide) rfl (fun ls_10 hl_10 => ?_)
          refine lv_goto (tgt := 2) hx hb dX5_countAt_41 (by decide) ?_
          cases hf
          exact ih1 _ hK1 H_6 lo_6 I_6 ls_10 (lv_sub hl_10 [1, 2, 0] rfl)
  exact L1 FU _ hq1 H lo I ls_1 (lv_sub hl_1 [1, 2, 0] rfl)
def C_PP_namedPair (G : Nat → Nat → Int32) (a1 : Int32) : Option (Int32) :=
if a1 < 0 then
(some (-1 : Int32))
else
(if a1 < G 40 0 then
(ri 28 a1 <|
nm ((G 39 a1.toNatClampNeg) >>> ((3 : Int32) &&& 31) : Int32) fun x2 =>
ri 28 a1 <|
nm ((G 39 a1.toNatClampNeg) &&& (7 : Int32) : Int32) fun x5 =>
bd (C_TA_winsOf G x2 x5) fun r7 =>
bd (C_TA_winsOf G x5 x2) fun r10 =>
if r7 < r10 then
(some (((10 : Int32) * x5) + x2))
else
(some (((10 : Int32) * x2) + x5)))
else
(some (-1 : Int32)))
set_option maxRecDepth 100000 in
set_option maxHeartbeats 4000000 in
theorem cC_PP_namedPair (G : Nat → Nat → Int32) (E : Nat → Nat → Int64) (Dd : Nat → Nat → UInt64) (P : Nat → Option Nat) (L : List Nat) (pf : Nat → va_E) (a1 : Int32) (rv : Int32)  (hf : C_PP_namedPair G a1 = some rv) : sMi D (cT cI cJ cD cS) (cW ad cI cJ cD cS) l yX5_namedPair (ws1 yX5_namedPair cX5_namedPair 5 (some .int)) ({ frames := 2, cells := 0, slots := 0, locals := 43 }) [.ref (ad 30), .ref (ad 9), .int a1] (G, E, Dd, P, L, pf) (rv, (G, E, Dd, P, L, pf)) := by
  unfold C_PP_namedPair at hf
  refine sMi_of (by decide) (Nat.le_of_ble_eq_true rfl) ?_
  intro p e R s m args below meth c A Q ls H lo F hRf hRl I hl ret
  obtain ⟨hx, hb, hml, hown, hG⟩ := id F
  replace hl : lv_has ls 5 [(0, .ref (ad 30)), (1, .ref (ad 9)), (2, .int a1)] := hl
  refine lv_iload_n hx hb dX5_namedPair_0 rfl (lv_at hl 2 rfl) ?_
  refine lv_if_lt (tgt := 12) hx hb dX5_namedPair_1 (by decide) (fun c15 => ?_) (fun c15 => ?_)
  · replace hf := (if_pos c15).symm.trans hf
    refine lv_iconst (v := (-1 : Int32)) hx hb dX5_namedPair_12 (by decide) ?_
    cases hf
    exact ret H lo _ ls I dX5_namedPair_13
  · replace hf := (if_neg c15).symm.trans hf
    refine lv_iload_n hx hb dX5_namedPair_4 rfl (lv_at hl 2 rfl) ?_
    refine lv_aload_n hx hb dX5_namedPair_5 rfl (lv_at hl 0 rfl) ?_
    refine kgtX5_19_30 F I dX5_namedPair_6 ?_
    refine lv_icmp_lt (tgt := 14) hx hb dX5_namedPair_9 (by decide) (fun c14 => ?_) (fun c14 => ?_)
    · replace hf := (if_pos c14).symm.trans hf
      refine lv_aload_n hx hb dX5_namedPair_14 rfl (lv_at hl 0 rfl) ?_
      refine kgtX5_9_30 F I dX5_namedPair_15 ?_
      refine lv_iload_n hx hb dX5_namedPair_18 rfl (lv_at hl 2 rfl) ?_
      obtain ⟨g1, hf⟩ := ri_some hf
      refine kal31 F I g1 dX5_namedPair_19 ?_
      refine lv_iconst (v := (3 : Int32)) hx hb dX5_namedPair_20 (by decide) ?_
      refine lv_ishr hx hb dX5_namedPair_21 ?_
      refine lv_topi (fun x2 ex2 => ?_)
      replace hf := nm_some ex2 hf
      refine lv_istore_n (lv' := [(3, .int x2), (0, .ref (ad 30)), (1, .ref (ad 9)), (2, .int a1)]) hx hb dX5_namedPair_22 rfl hl (by decide) rfl (fun ls_3 hl_3 => ?_)
      refine lv_aload_n hx hb dX5_namedPair_23 rfl (lv_at hl_3 1 rfl) ?_
      refine kgtX5_9_30 F I dX5_namedPair_24 ?_
      refine lv_iload_n hx hb dX5_namedPair_27 rfl (lv_at hl_3 3 rfl) ?_
      obtain ⟨g4, hf⟩ := ri_some hf
      refine kal31 F I g4 dX5_namedPair_28 ?_
      refine lv_bipush (v := (7 : Int32)) hx hb dX5_namedPair_29 (by decide) ?_
      refine lv_iand hx hb dX5_namedPair_31 ?_
      refine lv_topi (fun x5 ex5 => ?_)
      replace hf := nm_some ex5 hf
      refine lv_istore (lv' := [(4, .int x5), (3, .int x2), (0, .ref (ad 30)), (1, .ref (ad 9)), (2, .int a1)]) hx hb dX5_namedPair_32 hl_3 (by decide) rfl (fun ls_6 hl_6 => ?_)
      refine lv_aload_n hx hb dX5_namedPair_34 rfl (lv_at hl_6 3 rfl) ?_
      refine lv_iload_n hx hb dX5_namedPair_35 rfl (lv_at hl_6 1 rfl) ?_
      refine lv_iload hx hb dX5_namedPair_36 (lv_at hl_6 0 rfl) ?_
      obtain ⟨r7, h8, hf⟩ := bd_some hf
      refine s_callVi (As := [.int x2, .int x5]) (rest := []) F I (cC_TA_winsOf G E Dd P L pf x2 x5 r7 h8) kX5_44 ⟨rfl, rfl⟩ ⟨Nat.le_trans (Nat.le_of_ble_eq_true rfl) hRf, Nat.le_trans (Nat.le_of_ble_eq_true rfl) hRl⟩ 9 9 rfl rfl rfl rfl rfl hl_6.1 (Nat.le_of_ble_eq_true rfl) ⟨Nat.zero_le _, Nat.zero_le _⟩ dX5_namedPair_38 ?_
      intro H_9 lo_9 I_9
      refine lv_aload_n hx hb dX5_namedPair_41 rfl (lv_at hl_6 3 rfl) ?_
      refine lv_iload hx hb dX5_namedPair_42 (lv_at hl_6 0 rfl) ?_
      refine lv_iload_n hx hb dX5_namedPair_44 rfl (lv_at hl_6 1 rfl) ?_
      obtain ⟨r10, h11, hf⟩ := bd_some hf
      refine s_callVi (As := [.int x5, .int x2]) (rest := [.int r7]) F I_9 (cC_TA_winsOf G E Dd P L pf x5 x2 r10 h11) kX5_44 ⟨rfl, rfl⟩ ⟨Nat.le_trans (Nat.le_of_ble_eq_true rfl) hRf, Nat.le_trans (Nat.le_of_ble_eq_true rfl) hRl⟩ 9 9 rfl rfl rfl rfl rfl hl_6.1 (Nat.le_of_ble_eq_true rfl) ⟨Nat.zero_le _, Nat.zero_le _⟩ dX5_namedPair_45 ?_
      intro H_12 lo_12 I_12
      refine lv_icmp_lt (tgt := 61) hx hb dX5_namedPair_48 (by decide) (fun c13 => ?_) (fun c13 => ?_)
      · replace hf := (if_pos c13).symm.trans hf
        refine lv_bipush (v := (10 : Int32)) hx hb dX5_namedPair_61 (by decide) ?_
        refine lv_iload hx hb dX5_namedPair_63 (lv_at hl_6 0 rfl) ?_
        refine lv_imul hx hb dX5_namedPair_65 ?_
        refine lv_iload_n hx hb dX5_namedPair_66 rfl (lv_at hl_6 1 rfl) ?_
        refine lv_iadd hx hb dX5_namedPair_67 ?_
        cases hf
        exact ret H_12 lo_12 _ ls_6 I_12 dX5_namedPair_68
      · replace hf := (if_neg c13).symm.trans hf
        refine lv_bipush (v := (10 : Int32)) hx hb dX5_namedPair_51 (by decide) ?_
        refine lv_iload_n hx hb dX5_namedPair_53 rfl (lv_at hl_6 1 rfl) ?_
        refine lv_imul hx hb dX5_namedPair_54 ?_
        refine lv_iload hx hb dX5_namedPair_55 (lv_at hl_6 0 rfl) ?_
        refine lv_iadd hx hb dX5_namedPair_57 ?_
        refine lv_goto (tgt := 68) hx hb dX5_namedPair_58 (by decide) ?_
        cases hf
        exact ret H_12 lo_12 _ ls_6 I_12 dX5_namedPair_68
    · replace hf := (if_neg c14).symm.trans hf
      refine lv_iconst (v := (-1 : Int32)) hx hb dX5_namedPair_12 (by decide) ?_
      cases hf
      exact ret H lo _ ls I dX5_namedPair_13
def C_SD_rankIn_18_s1 (a1 : Int32) (G : Nat → Nat → Int32) (x3 : Int32) (x4 : Int32) : Option ((Int32 × Int32) ⊕ (Int32)) :=
if G 21 0 ≤ x4 then
(some (.inr x3))
else
(if (8 : Int32) ≤ x4 then
(some (.inr x3))
else
(ri 8 x4 <|
ri 8 (a1 &&& (7 : Int32)) <|
bd (if G 23 x4.toNatClampNeg ≤ G 23 (a1 &&& (7 : Int32)).toNatClampNeg then
(some x3)
else
(nm (x3 + (1 : Int32) : Int32) fun x19 =>
some x19)) fun x13 =>
nm (x4 + (1 : Int32) : Int32) fun x16 =>
some (.inl (x13, x16))))
def C_SD_rankIn_18 (G : Nat → Nat → Int32) (a1 : Int32) : Option (Int32) :=
bd (lp (fun q => C_SD_rankIn_18_s1 a1 G q.1 q.2) FU ((1 : Int32), (0 : Int32))) fun r5 =>
some r5
set_option maxRecDepth 100000 in
set_option maxHeartbeats 4000000 in
theorem cC_SD_rankIn_18 (G : Nat → Nat → Int32) (E : Nat → Nat → Int64) (Dd : Nat → Nat → UInt64) (P : Nat → Option Nat) (L : List Nat) (pf : Nat → va_E) (a1 : Int32) (rv : Int32)  (hf : C_SD_rankIn_18 G a1 = some rv) : sMi D (cT cI cJ cD cS) (cW ad cI cJ cD cS) l yX6_rankIn (ws1 yX6_rankIn cX6_rankIn 5 (some .int)) ({ frames := 0, cells := 0, slots := 0, locals := 0 }) [.ref (ad 16), .ref (ad 18), .int a1] (G, E, Dd, P, L, pf) (rv, (G, E, Dd, P, L, pf)) := by
  unfold C_SD_rankIn_18 at hf
  refine sMi_of (by decide) (Nat.le_of_ble_eq_true rfl) ?_
  intro p e R s m args below meth c A Q ls H lo F hRf hRl I hl ret
  obtain ⟨hx, hb, hml, hown, hG⟩ := id F
  replace hl : lv_has ls 5 [(0, .ref (ad 16)), (1, .ref (ad 18)), (2, .int a1)] := hl
  refine lv_iconst (v := (1 : Int32)) hx hb dX6_rankIn_0 (by decide) ?_
  refine lv_istore_n (lv' := [(3, .int (1 : Int32)), (0, .ref (ad 16)), (1, .ref (ad 18)), (2, .int a1)]) hx hb dX6_rankIn_1 rfl hl (by decide) rfl (fun ls_1 hl_1 => ?_)
  refine lv_iconst (v := (0 : Int32)) hx hb dX6_rankIn_2 (by decide) ?_
  refine lv_istore (lv' := [(4, .int (0 : Int32)), (3, .int (1 : Int32)), (0, .ref (ad 16)), (1, .ref (ad 18)), (2, .int a1)]) hx hb dX6_rankIn_3 hl_1 (by decide) rfl (fun ls_2 hl_2 => ?_)
  obtain ⟨r5, hq1, hf⟩ := bd_some hf
  have K1 : ∀ (H : Heap) (locs : List Loc), sInv D (cT cI cJ cD cS) (cW ad cI cJ cD cS) A s H locs (G, E, Dd, P, L, pf) → ∀ (ls : Array Slot), lv_has ls 5 [(3, .int r5)] → W p l e R s m args below meth c H locs 0 0 Q (F0 m 43 ls []) := by
    intro H_6 lo_6 I_6 ls_7 hl_7
    refine lv_iload_n hx hb dX6_rankIn_43 rfl (lv_at hl_7 0 rfl) ?_
    cases hf
    exact ret H_6 lo_6 _ ls_7 I_6 dX6_rankIn_44
  have L1 : ∀ (n : Nat) (x3 : Int32) (x4 : Int32), lp (fun q => C_SD_rankIn_18_s1 a1 G q.1 q.2) n (x3, x4) = some r5 → ∀ (H : Heap) (locs : List Loc), sInv D (cT cI cJ cD cS) (cW ad cI cJ cD cS) A s H locs (G, E, Dd, P, L, pf) → ∀ (ls : Array Slot), lv_has ls 5 [(0, .ref (ad 16)), (1, .ref (ad 18)), (2, .int a1), (3, .int x3), (4, .int x4)] → W p l e R s m args below meth c H locs 0 0 Q (F0 m 5 ls []) := by
    intro n
    induction n with
    | zero => intro x3 x4 hq; exact (lp_0 hq).elim
    | succ n ih1 =>
      intro x3 x4 hq H_8 lo_8 I_8 ls_9 hl_9
      obtain ⟨y1, hf, hK1⟩ := lp_go hq
      replace hf : C_SD_rankIn_18_s1 a1 G x3 x4 = some y1 := hf
      unfold C_SD_rankIn_18_s1 at hf
      refine lv_iload hx hb dX6_rankIn_5 (lv_at hl_9 4 rfl) ?_
      refine lv_aload_n hx hb dX6_rankIn_7 rfl (lv_at hl_9 0 rfl) ?_
      refine kgtX6_9_16 F I_8 dX6_rankIn_8 ?_
      refine lv_icmp_ge (tgt := 43) hx hb dX6_rankIn_11 (by decide) (fun c23 => ?_) (fun c23 => ?_)
      · replace hf := (if_pos c23).symm.trans hf
        cases hf
        cases (show x3 = r5 from hK1)
        exact K1 H_8 lo_8 I_8 ls_9 (lv_sub hl_9 [3] rfl)
      · replace hf := (if_neg c23).symm.trans hf
        refine lv_iload hx hb dX6_rankIn_14 (lv_at hl_9 4 rfl) ?_
        refine lv_aload_n hx hb dX6_rankIn_16 rfl (lv_at hl_9 1 rfl) ?_
        refine kln18 F I_8 dX6_rankIn_17 ?_
        refine lv_icmp_ge (tgt := 43) hx hb dX6_rankIn_18 (by decide) (fun c22 => ?_) (fun c22 => ?_)
        · replace hf := (if_pos c22).symm.trans hf
          cases hf
          cases (show x3 = r5 from hK1)
          exact K1 H_8 lo_8 I_8 ls_9 (lv_sub hl_9 [3] rfl)
        · replace hf := (if_neg c22).symm.trans hf
          refine lv_aload_n hx hb dX6_rankIn_21 rfl (lv_at hl_9 1 rfl) ?_
          refine lv_iload hx hb dX6_rankIn_22 (lv_at hl_9 4 rfl) ?_
          obtain ⟨g10, hf⟩ := ri_some hf
          refine kal18 F I_8 g10 dX6_rankIn_24 ?_
          refine lv_aload_n hx hb dX6_rankIn_25 rfl (lv_at hl_9 1 rfl) ?_
          refine lv_iload_n hx hb dX6_rankIn_26 rfl (lv_at hl_9 2 rfl) ?_
          refine lv_bipush (v := (7 : Int32)) hx hb dX6_rankIn_27 (by decide) ?_
          refine lv_iand hx hb dX6_rankIn_29 ?_
          obtain ⟨g11, hf⟩ := ri_some hf
          refine kal18 F I_8 g11 dX6_rankIn_30 ?_
          obtain ⟨x13, hv18, hf⟩ := bd_some hf
          have J12 : ∀ (H : Heap) (locs : List Loc), sInv D (cT cI cJ cD cS) (cW ad cI cJ cD cS) A s H locs (G, E, Dd, P, L, pf) → ∀ (ls : Array Slot), lv_has ls 5 [(0, .ref (ad 16)), (1, .ref (ad 18)), (2, .int a1), (3, .int x13), (4, .int x4)] → W p l e R s m args below meth c H locs 0 0 Q (F0 m 37 ls []) := by
            intro H_14 lo_14 I_14 ls_15 hl_15
            obtain ⟨x16, ex16⟩ : ∃ y : Int32, y = x4 + (1 : Int32) := ⟨_, rfl⟩
            replace hf := nm_some ex16 hf
            refine lv_iinc (v := x16) (lv' := [(4, .int x16), (0, .ref (ad 16)), (1, .ref (ad 18)), (2, .int a1), (3, .int x13)]) hx hb dX6_rankIn_37 hl_15 (k := 4) rfl (by rw [ex16]; rfl) (by decide) rfl (fun ls_17 hl_17 => ?_)
            refine lv_goto (tgt := 5) hx hb dX6_rankIn_40 (by decide) ?_
            cases hf
            exact ih1 _ _ hK1 H_14 lo_14 I_14 ls_17 (lv_sub hl_17 [1, 2, 3, 4, 0] rfl)
          replace hf := hv18
          refine lv_icmp_le (tgt := 37) hx hb dX6_rankIn_31 (by decide) (fun c21 => ?_) (fun c21 => ?_)
          · replace hf := (if_pos c21).symm.trans hf
            cases hf
            exact J12 H_8 lo_8 I_8 ls_9 (lv_sub hl_9 [0, 1, 2, 3, 4] rfl)
          · replace hf := (if_neg c21).symm.trans hf
            obtain ⟨x19, ex19⟩ : ∃ y : Int32, y = x3 + (1 : Int32) := ⟨_, rfl⟩
            replace hf := nm_some ex19 hf
            refine lv_iinc (v := x19) (lv' := [(3, .int x19), (0, .ref (ad 16)), (1, .ref (ad 18)), (2, .int a1), (4, .int x4)]) hx hb dX6_rankIn_34 hl_9 (k := 3) rfl (by rw [ex19]; rfl) (by decide) rfl (fun ls_20 hl_20 => ?_)
            cases hf
            exact J12 H_8 lo_8 I_8 ls_20 (lv_sub hl_20 [1, 2, 3, 0, 4] rfl)
  exact L1 FU _ _ hq1 H lo I ls_2 (lv_sub hl_2 [2, 3, 4, 1, 0] rfl)
def C_SD_addPoints_19 (G : Nat → Nat → Int32) (a1 : Int32) (a2 : Int32) : Option ((Nat → Nat → Int32)) :=
nm (C_CO_answerOf a1) fun r1 =>
bd (if r1 = 0 then
(some (1 : Int32))
else
(if r1 = (1 : Int32) then
(some (2 : Int32))
else
(some (0 : Int32)))) fun x6 =>
if (8 : Int32) < (8 : Int32) then
(some G)
else
(nm (C_CO_firstOf a1) fun r10 =>
ri 8 r10 <|
ri 8 r10 <|
nm (wr G 24 r10 ((G 24 r10.toNatClampNeg) + (x6 * a2))) fun G15 =>
nm (C_CO_secondOf a1) fun r17 =>
ri 8 r17 <|
ri 8 r17 <|
nm (wr G15 24 r17 ((G15 24 r17.toNatClampNeg) + (((2 : Int32) - x6) * a2))) fun G22 =>
some G22)
set_option maxRecDepth 100000 in
set_option maxHeartbeats 4000000 in
theorem cC_SD_addPoints_19 (G : Nat → Nat → Int32) (E : Nat → Nat → Int64) (Dd : Nat → Nat → UInt64) (P : Nat → Option Nat) (L : List Nat) (pf : Nat → va_E) (a1 : Int32) (a2 : Int32)  (newG : Nat → Nat → Int32) (hf : C_SD_addPoints_19 G a1 a2 = some newG) : sMv D (cT cI cJ cD cS) (cW ad cI cJ cD cS) l yX6_addPoints (ws1 yX6_addPoints cX6_addPoints 5 none) ({ frames := 1, cells := 0, slots := 0, locals := 20 }) [.ref (ad 19), .int a1, .int a2] (G, E, Dd, P, L, pf) (newG, E, Dd, P, L, pf) := by
  unfold C_SD_addPoints_19 at hf
  refine sMv_of (by decide) (Nat.le_of_ble_eq_true rfl) ?_
  intro p e R s m args below meth c A Q ls H lo F hRf hRl I hl ret
  obtain ⟨hx, hb, hml, hown, hG⟩ := id F
  replace hl : lv_has ls 5 [(0, .ref (ad 19)), (1, .int a1), (2, .int a2)] := hl
  refine lv_iload_n hx hb dX6_addPoints_0 rfl (lv_at hl 1 rfl) ?_
  obtain ⟨r1, h2⟩ : ∃ z, z = C_CO_answerOf a1 := ⟨_, rfl⟩
  replace hf := nm_some h2 hf
  refine s_callSi (As := [.int a1]) (rest := []) F I (cC_CO_answerOf G E Dd P L pf a1 r1 h2) kX6_130 ⟨rfl, rfl⟩ ⟨Nat.le_trans (Nat.le_of_ble_eq_true rfl) hRf, Nat.le_trans (Nat.le_of_ble_eq_true rfl) hRl⟩ rfl rfl hl.1 (Nat.le_of_ble_eq_true rfl) ⟨Nat.zero_le _, Nat.zero_le _⟩ dX6_addPoints_1 ?_
  intro H_3 lo_3 I_3
  refine lv_istore_n (lv' := [(3, .int r1), (0, .ref (ad 19)), (1, .int a1), (2, .int a2)]) hx hb dX6_addPoints_4 rfl hl (by decide) rfl (fun ls_4 hl_4 => ?_)
  refine lv_iload_n hx hb dX6_addPoints_5 rfl (lv_at hl_4 0 rfl) ?_
  obtain ⟨x6, hv25, hf⟩ := bd_some hf
  have J5 : ∀ (H : Heap) (locs : List Loc), sInv D (cT cI cJ cD cS) (cW ad cI cJ cD cS) A s H locs (G, E, Dd, P, L, pf) → ∀ (ls : Array Slot), lv_has ls 5 [(0, .ref (ad 19)), (1, .int a1), (2, .int a2)] → W p l e R s m args below meth c H locs 0 0 Q (F0 m 23 ls [.int x6]) := by
    intro H_7 lo_7 I_7 ls_8 hl_8
    refine lv_istore (lv' := [(4, .int x6), (0, .ref (ad 19)), (1, .int a1), (2, .int a2)]) hx hb dX6_addPoints_23 hl_8 (by decide) rfl (fun ls_9 hl_9 => ?_)
    refine lv_aload_n hx hb dX6_addPoints_25 rfl (lv_at hl_9 1 rfl) ?_
    refine kln19 F I_7 dX6_addPoints_26 ?_
    refine lv_bipush (v := (8 : Int32)) hx hb dX6_addPoints_27 (by decide) ?_
    refine lv_icmp_lt (tgt := 60) hx hb dX6_addPoints_29 (by decide) (fun c24 => ?_) (fun c24 => ?_)
    · replace hf := (if_pos c24).symm.trans hf
      cases hf
      exact ret H_7 lo_7 _ ls_9 I_7 dX6_addPoints_60
    · replace hf := (if_neg c24).symm.trans hf
      refine lv_aload_n hx hb dX6_addPoints_32 rfl (lv_at hl_9 1 rfl) ?_
      refine lv_iload_n hx hb dX6_addPoints_33 rfl (lv_at hl_9 2 rfl) ?_
      obtain ⟨r10, h11⟩ : ∃ z, z = C_CO_firstOf a1 := ⟨_, rfl⟩
      replace hf := nm_some h11 hf
      refine s_callSi (As := [.int a1]) (rest := [.ref (ad 19)]) F I_7 (cC_CO_firstOf G E Dd P L pf a1 r10 h11) kX6_133 ⟨rfl, rfl⟩ ⟨Nat.le_trans (Nat.le_of_ble_eq_true rfl) hRf, Nat.le_trans (Nat.le_of_ble_eq_true rfl) hRl⟩ rfl rfl hl_9.1 (Nat.le_of_ble_eq_true rfl) ⟨Nat.zero_le _, Nat.zero_le _⟩ dX6_addPoints_34 ?_
      intro H_12 lo_12 I_12
      refine lv_dup2_11 hx hb dX6_addPoints_37 rfl rfl ?_
      obtain ⟨g13, hf⟩ := ri_some hf
      refine kal19 F I_12 g13 dX6_addPoints_38 ?_
      refine lv_iload hx hb dX6_addPoints_39 (lv_at hl_9 0 rfl) ?_
      refine lv_iload_n hx hb dX6_addPoints_41 rfl (lv_at hl_9 3 rfl) ?_
      refine lv_imul hx hb dX6_addPoints_42 ?_
      refine lv_iadd hx hb dX6_addPoints_43 ?_
      obtain ⟨g14, hf⟩ := ri_some hf
      refine kas19 F I_12 g14 dX6_addPoints_44 ?_
      intro H_16 lo_16 G15 eG15 I_16
      replace hf := nm_some eG15 hf
      refine lv_aload_n hx hb dX6_addPoints_45 rfl (lv_at hl_9 1 rfl) ?_
      refine lv_iload_n hx hb dX6_addPoints_46 rfl (lv_at hl_9 2 rfl) ?_
      obtain ⟨r17, h18⟩ : ∃ z, z = C_CO_secondOf a1 := ⟨_, rfl⟩
      replace hf := nm_some h18 hf
      refine s_callSi (As := [.int a1]) (rest := [.ref (ad 19)]) F I_16 (cC_CO_secondOf G15 E Dd P L pf a1 r17 h18) kX6_136 ⟨rfl, rfl⟩ ⟨Nat.le_trans (Nat.le_of_ble_eq_true rfl) hRf, Nat.le_trans (Nat.le_of_ble_eq_true rfl) hRl⟩ rfl rfl hl_9.1 (Nat.le_of_ble_eq_true rfl) ⟨Nat.zero_le _, Nat.zero_le _⟩ dX6_addPoints_47 ?_
      intro H_19 lo_19 I_19
      refine lv_dup2_11 hx hb dX6_addPoints_50 rfl rfl ?_
      obtain ⟨g20, hf⟩ := ri_some hf
      refine kal19 F I_19 g20 dX6_addPoints_51 ?_
      refine lv_iconst (v := (2 : Int32)) hx hb dX6_addPoints_52 (by decide) ?_
      refine lv_iload hx hb dX6_addPoints_53 (lv_at hl_9 0 rfl) ?_
      refine lv_isub hx hb dX6_addPoints_55 ?_
      refine lv_iload_n hx hb dX6_addPoints_56 rfl (lv_at hl_9 3 rfl) ?_
      refine lv_imul hx hb dX6_addPoints_57 ?_
      refine lv_iadd hx hb dX6_addPoints_58 ?_
      obtain ⟨g21, hf⟩ := ri_some hf
      refine kas19 F I_19 g21 dX6_addPoints_59 ?_
      intro H_23 lo_23 G22 eG22 I_23
      replace hf := nm_some eG22 hf
      cases hf
      exact ret H_23 lo_23 _ ls_9 I_23 dX6_addPoints_60
  replace hf := hv25
  refine lv_if_ne (tgt := 13) hx hb dX6_addPoints_6 (by decide) (fun c27 => ?_) (fun c27 => ?_)
  · replace hf := (if_neg c27).symm.trans hf
    refine lv_iload_n hx hb dX6_addPoints_13 rfl (lv_at hl_4 0 rfl) ?_
    refine lv_iconst (v := (1 : Int32)) hx hb dX6_addPoints_14 (by decide) ?_
    refine lv_icmp_ne (tgt := 22) hx hb dX6_addPoints_15 (by decide) (fun c26 => ?_) (fun c26 => ?_)
    · replace hf := (if_neg c26).symm.trans hf
      refine lv_iconst (v := (0 : Int32)) hx hb dX6_addPoints_22 (by decide) ?_
      cases hf
      exact J5 H_3 lo_3 I_3 ls_4 (lv_sub hl_4 [1, 2, 3] rfl)
    · replace hf := (if_pos c26).symm.trans hf
      refine lv_iconst (v := (2 : Int32)) hx hb dX6_addPoints_18 (by decide) ?_
      refine lv_goto (tgt := 23) hx hb dX6_addPoints_19 (by decide) ?_
      cases hf
      exact J5 H_3 lo_3 I_3 ls_4 (lv_sub hl_4 [1, 2, 3] rfl)
  · replace hf := (if_pos c27).symm.trans hf
    refine lv_iconst (v := (1 : Int32)) hx hb dX6_addPoints_9 (by decide) ?_
    refine lv_goto (tgt := 23) hx hb dX6_addPoints_10 (by decide) ?_
    cases hf
    exact J5 H_3 lo_3 I_3 ls_4 (lv_sub hl_4 [1, 2, 3] rfl)
def C_SD_rankIn_19_s1 (a1 : Int32) (G : Nat → Nat → Int32) (x3 : Int32) (x4 : Int32) : Option ((Int32 × Int32) ⊕ (Int32)) :=
if G 21 0 ≤ x4 then
(some (.inr x3))
else
(if (8 : Int32) ≤ x4 then
(some (.inr x3))
else
(ri 8 x4 <|
ri 8 (a1 &&& (7 : Int32)) <|
bd (if G 24 x4.toNatClampNeg ≤ G 24 (a1 &&& (7 : Int32)).toNatClampNeg then
(some x3)
else
(nm (x3 + (1 : Int32) : Int32) fun x19 =>
some x19)) fun x13 =>
nm (x4 + (1 : Int32) : Int32) fun x16 =>
some (.inl (x13, x16))))
def C_SD_rankIn_19 (G : Nat → Nat → Int32) (a1 : Int32) : Option (Int32) :=
bd (lp (fun q => C_SD_rankIn_19_s1 a1 G q.1 q.2) FU ((1 : Int32), (0 : Int32))) fun r5 =>
some r5
set_option maxRecDepth 100000 in
set_option maxHeartbeats 4000000 in
theorem cC_SD_rankIn_19 (G : Nat → Nat → Int32) (E : Nat → Nat → Int64) (Dd : Nat → Nat → UInt64) (P : Nat → Option Nat) (L : List Nat) (pf : Nat → va_E) (a1 : Int32) (rv : Int32)  (hf : C_SD_rankIn_19 G a1 = some rv) : sMi D (cT cI cJ cD cS) (cW ad cI cJ cD cS) l yX6_rankIn (ws1 yX6_rankIn cX6_rankIn 5 (some .int)) ({ frames := 0, cells := 0, slots := 0, locals := 0 }) [.ref (ad 16), .ref (ad 19), .int a1] (G, E, Dd, P, L, pf) (rv, (G, E, Dd, P, L, pf)) := by
  unfold C_SD_rankIn_19 at hf
  refine sMi_of (by decide) (Nat.le_of_ble_eq_true rfl) ?_
  intro p e R s m args below meth c A Q ls H lo F hRf hRl I hl ret
  obtain ⟨hx, hb, hml, hown, hG⟩ := id F
  replace hl : lv_has ls 5 [(0, .ref (ad 16)), (1, .ref (ad 19)), (2, .int a1)] := hl
  refine lv_iconst (v := (1 : Int32)) hx hb dX6_rankIn_0 (by decide) ?_
  refine lv_istore_n (lv' := [(3, .int (1 : Int32)), (0, .ref (ad 16)), (1, .ref (ad 19)), (2, .int a1)]) hx hb dX6_rankIn_1 rfl hl (by decide) rfl (fun ls_1 hl_1 => ?_)
  refine lv_iconst (v := (0 : Int32)) hx hb dX6_rankIn_2 (by decide) ?_
  refine lv_istore (lv' := [(4, .int (0 : Int32)), (3, .int (1 : Int32)), (0, .ref (ad 16)), (1, .ref (ad 19)), (2, .int a1)]) hx hb dX6_rankIn_3 hl_1 (by decide) rfl (fun ls_2 hl_2 => ?_)
  obtain ⟨r5, hq1, hf⟩ := bd_some hf
  have K1 : ∀ (H : Heap) (locs : List Loc), sInv D (cT cI cJ cD cS) (cW ad cI cJ cD cS) A s H locs (G, E, Dd, P, L, pf) → ∀ (ls : Array Slot), lv_has ls 5 [(3, .int r5)] → W p l e R s m args below meth c H locs 0 0 Q (F0 m 43 ls []) := by
    intro H_6 lo_6 I_6 ls_7 hl_7
    refine lv_iload_n hx hb dX6_rankIn_43 rfl (lv_at hl_7 0 rfl) ?_
    cases hf
    exact ret H_6 lo_6 _ ls_7 I_6 dX6_rankIn_44
  have L1 : ∀ (n : Nat) (x3 : Int32) (x4 : Int32), lp (fun q => C_SD_rankIn_19_s1 a1 G q.1 q.2) n (x3, x4) = some r5 → ∀ (H : Heap) (locs : List Loc), sInv D (cT cI cJ cD cS) (cW ad cI cJ cD cS) A s H locs (G, E, Dd, P, L, pf) → ∀ (ls : Array Slot), lv_has ls 5 [(0, .ref (ad 16)), (1, .ref (ad 19)), (2, .int a1), (3, .int x3), (4, .int x4)] → W p l e R s m args below meth c H locs 0 0 Q (F0 m 5 ls []) := by
    intro n
    induction n with
    | zero => intro x3 x4 hq; exact (lp_0 hq).elim
    | succ n ih1 =>
      intro x3 x4 hq H_8 lo_8 I_8 ls_9 hl_9
      obtain ⟨y1, hf, hK1⟩ := lp_go hq
      replace hf : C_SD_rankIn_19_s1 a1 G x3 x4 = some y1 := hf
      unfold C_SD_rankIn_19_s1 at hf
      refine lv_iload hx hb dX6_rankIn_5 (lv_at hl_9 4 rfl) ?_
      refine lv_aload_n hx hb dX6_rankIn_7 rfl (lv_at hl_9 0 rfl) ?_
      refine kgtX6_9_16 F I_8 dX6_rankIn_8 ?_
      refine lv_icmp_ge (tgt := 43) hx hb dX6_rankIn_11 (by decide) (fun c23 => ?_) (fun c23 => ?_)
      · replace hf := (if_pos c23).symm.trans hf
        cases hf
        cases (show x3 = r5 from hK1)
        exact K1 H_8 lo_8 I_8 ls_9 (lv_sub hl_9 [3] rfl)
      · replace hf := (if_neg c23).symm.trans hf
        refine lv_iload hx hb dX6_rankIn_14 (lv_at hl_9 4 rfl) ?_
        refine lv_aload_n hx hb dX6_rankIn_16 rfl (lv_at hl_9 1 rfl) ?_
        refine kln19 F I_8 dX6_rankIn_17 ?_
        refine lv_icmp_ge (tgt := 43) hx hb dX6_rankIn_18 (by decide) (fun c22 => ?_) (fun c22 => ?_)
        · replace hf := (if_pos c22).symm.trans hf
          cases hf
          cases (show x3 = r5 from hK1)
          exact K1 H_8 lo_8 I_8 ls_9 (lv_sub hl_9 [3] rfl)
        · replace hf := (if_neg c22).symm.trans hf
          refine lv_aload_n hx hb dX6_rankIn_21 rfl (lv_at hl_9 1 rfl) ?_
          refine lv_iload hx hb dX6_rankIn_22 (lv_at hl_9 4 rfl) ?_
          obtain ⟨g10, hf⟩ := ri_some hf
          refine kal19 F I_8 g10 dX6_rankIn_24 ?_
          refine lv_aload_n hx hb dX6_rankIn_25 rfl (lv_at hl_9 1 rfl) ?_
          refine lv_iload_n hx hb dX6_rankIn_26 rfl (lv_at hl_9 2 rfl) ?_
          refine lv_bipush (v := (7 : Int32)) hx hb dX6_rankIn_27 (by decide) ?_
          refine lv_iand hx hb dX6_rankIn_29 ?_
          obtain ⟨g11, hf⟩ := ri_some hf
          refine kal19 F I_8 g11 dX6_rankIn_30 ?_
          obtain ⟨x13, hv18, hf⟩ := bd_some hf
          have J12 : ∀ (H : Heap) (locs : List Loc), sInv D (cT cI cJ cD cS) (cW ad cI cJ cD cS) A s H locs (G, E, Dd, P, L, pf) → ∀ (ls : Array Slot), lv_has ls 5 [(0, .ref (ad 16)), (1, .ref (ad 19)), (2, .int a1), (3, .int x13), (4, .int x4)] → W p l e R s m args below meth c H locs 0 0 Q (F0 m 37 ls []) := by
            intro H_14 lo_14 I_14 ls_15 hl_15
            obtain ⟨x16, ex16⟩ : ∃ y : Int32, y = x4 + (1 : Int32) := ⟨_, rfl⟩
            replace hf := nm_some ex16 hf
            refine lv_iinc (v := x16) (lv' := [(4, .int x16), (0, .ref (ad 16)), (1, .ref (ad 19)), (2, .int a1), (3, .int x13)]) hx hb dX6_rankIn_37 hl_15 (k := 4) rfl (by rw [ex16]; rfl) (by decide) rfl (fun ls_17 hl_17 => ?_)
            refine lv_goto (tgt := 5) hx hb dX6_rankIn_40 (by decide) ?_
            cases hf
            exact ih1 _ _ hK1 H_14 lo_14 I_14 ls_17 (lv_sub hl_17 [1, 2, 3, 4, 0] rfl)
          replace hf := hv18
          refine lv_icmp_le (tgt := 37) hx hb dX6_rankIn_31 (by decide) (fun c21 => ?_) (fun c21 => ?_)
          · replace hf := (if_pos c21).symm.trans hf
            cases hf
            exact J12 H_8 lo_8 I_8 ls_9 (lv_sub hl_9 [0, 1, 2, 3, 4] rfl)
          · replace hf := (if_neg c21).symm.trans hf
            obtain ⟨x19, ex19⟩ : ∃ y : Int32, y = x3 + (1 : Int32) := ⟨_, rfl⟩
            replace hf := nm_some ex19 hf
            refine lv_iinc (v := x19) (lv' := [(3, .int x19), (0, .ref (ad 16)), (1, .ref (ad 19)), (2, .int a1), (4, .int x4)]) hx hb dX6_rankIn_34 hl_9 (k := 3) rfl (by rw [ex19]; rfl) (by decide) rfl (fun ls_20 hl_20 => ?_)
            cases hf
            exact J12 H_8 lo_8 I_8 ls_20 (lv_sub hl_20 [1, 2, 3, 0, 4] rfl)
  exact L1 FU _ _ hq1 H lo I ls_2 (lv_sub hl_2 [2, 3, 4, 1, 0] rfl)
def C_SD_isStable_s1 (a1 : Int32) (r1 : Int32) (x6 : Int32) (G7 : Nat → Nat → Int32) : Option ((Int32 × (Nat → Nat → Int32)) ⊕ (Int32 × (Nat → Nat → Int32))) :=
if G7 5 0 ≤ x6 then
(some (.inr ((1 : Int32), G7)))
else
(bd (C_CO_at G7 x6) fun r10 =>
nm (wc G7 23 24 8) fun G14 =>
nm (C_CO_listenerOf r10) fun r16 =>
ri 8 r16 <|
bd (C_SD_addPoints_19 G14 r10 (-(G14 22 r16.toNatClampNeg))) fun G20 =>
bd (C_SD_rankIn_19 G20 a1) fun r23 =>
if r23 = r1 then
(nm (x6 + (1 : Int32) : Int32) fun x26 =>
some (.inl (x26, G20)))
else
(some (.inr ((0 : Int32), G20))))
def C_SD_isStable (G : Nat → Nat → Int32) (a1 : Int32) : Option (Int32 × (Nat → Nat → Int32)) :=
bd (C_SD_rankIn_18 G a1) fun r1 =>
lp (fun q => C_SD_isStable_s1 a1 r1 q.1 q.2) FU ((0 : Int32), G)
set_option maxRecDepth 100000 in
set_option maxHeartbeats 4000000 in
theorem cC_SD_isStable (G : Nat → Nat → Int32) (E : Nat → Nat → Int64) (Dd : Nat → Nat → UInt64) (P : Nat → Option Nat) (L : List Nat) (pf : Nat → va_E) (a1 : Int32) (rv : Int32) (newG : Nat → Nat → Int32) (hf : C_SD_isStable G a1 = some (rv, newG)) : sMi D (cT cI cJ cD cS) (cW ad cI cJ cD cS) l yX6_isStable (ws1 yX6_isStable cX6_isStable 6 (some .boolean)) ({ frames := 2, cells := 0, slots := 0, locals := 44 }) [.ref (ad 16), .ref (ad 2), .int a1] (G, E, Dd, P, L, pf) (rv, (newG, E, Dd, P, L, pf)) := by
  unfold C_SD_isStable at hf
  refine sMz_of (by decide) (Nat.le_of_ble_eq_true rfl) ?_
  intro p e R s m args below meth c A Q ls H lo F hRf hRl I hl ret
  obtain ⟨hx, hb, hml, hown, hG⟩ := id F
  replace hl : lv_has ls 6 [(0, .ref (ad 16)), (1, .ref (ad 2)), (2, .int a1)] := hl
  refine lv_aload_n hx hb dX6_isStable_0 rfl (lv_at hl 0 rfl) ?_
  refine lv_aload_n hx hb dX6_isStable_1 rfl (lv_at hl 0 rfl) ?_
  refine kgtX6_26_16 F I dX6_isStable_2 ?_
  refine lv_iload_n hx hb dX6_isStable_5 rfl (lv_at hl 2 rfl) ?_
  obtain ⟨r1, h2, hf⟩ := bd_some hf
  refine s_callVi (As := [.ref (ad 18), .int a1]) (rest := []) F I (cC_SD_rankIn_18 G E Dd P L pf a1 r1 h2) kX6_93 ⟨rfl, rfl⟩ ⟨Nat.le_trans (Nat.le_of_ble_eq_true rfl) hRf, Nat.le_trans (Nat.le_of_ble_eq_true rfl) hRl⟩ 16 6 rfl rfl rfl rfl rfl hl.1 (Nat.le_of_ble_eq_true rfl) ⟨Nat.zero_le _, Nat.zero_le _⟩ dX6_isStable_6 ?_
  intro H_3 lo_3 I_3
  refine lv_istore_n (lv' := [(3, .int r1), (0, .ref (ad 16)), (1, .ref (ad 2)), (2, .int a1)]) hx hb dX6_isStable_9 rfl hl (by decide) rfl (fun ls_4 hl_4 => ?_)
  refine lv_iconst (v := (0 : Int32)) hx hb dX6_isStable_10 (by decide) ?_
  refine lv_istore (lv' := [(4, .int (0 : Int32)), (3, .int r1), (0, .ref (ad 16)), (1, .ref (ad 2)), (2, .int a1)]) hx hb dX6_isStable_11 hl_4 (by decide) rfl (fun ls_5 hl_5 => ?_)
  have hq1 : lp (fun q => C_SD_isStable_s1 a1 r1 q.1 q.2) FU ((0 : Int32), G) = some (rv, newG) := hf
  have L1 : ∀ (n : Nat) (x6 : Int32) (G7 : Nat → Nat → Int32), lp (fun q => C_SD_isStable_s1 a1 r1 q.1 q.2) n (x6, G7) = some (rv, newG) → ∀ (H : Heap) (locs : List Loc), sInv D (cT cI cJ cD cS) (cW ad cI cJ cD cS) A s H locs (G7, E, Dd, P, L, pf) → ∀ (ls : Array Slot), lv_has ls 6 [(0, .ref (ad 16)), (1, .ref (ad 2)), (2, .int a1), (3, .int r1), (4, .int x6)] → W p l e R s m args below meth c H locs 0 0 Q (F0 m 13 ls []) := by
    intro n
    induction n with
    | zero => intro x6 G7 hq; exact (lp_0 hq).elim
    | succ n ih1 =>
      intro x6 G7 hq H_8 lo_8 I_8 ls_9 hl_9
      obtain ⟨y1, hf, hK1⟩ := lp_go hq
      replace hf : C_SD_isStable_s1 a1 r1 x6 G7 = some y1 := hf
      unfold C_SD_isStable_s1 at hf
      refine lv_iload hx hb dX6_isStable_13 (lv_at hl_9 4 rfl) ?_
      refine lv_aload_n hx hb dX6_isStable_15 rfl (lv_at hl_9 1 rfl) ?_
      refine kgtX6_73_2 F I_8 dX6_isStable_16 ?_
      refine lv_icmp_ge (tgt := 86) hx hb dX6_isStable_19 (by decide) (fun c29 => ?_) (fun c29 => ?_)
      · replace hf := (if_pos c29).symm.trans hf
        refine lv_iconst (v := (1 : Int32)) hx hb dX6_isStable_86 (by decide) ?_
        cases hf
        have hf := congrArg some (show _ = _ from hK1)
        cases hf
        exact ret H_8 lo_8 _ ls_9 I_8 (Or.inr rfl) dX6_isStable_87
      · replace hf := (if_neg c29).symm.trans hf
        refine lv_aload_n hx hb dX6_isStable_22 rfl (lv_at hl_9 1 rfl) ?_
        refine lv_iload hx hb dX6_isStable_23 (lv_at hl_9 4 rfl) ?_
        obtain ⟨r10, h11, hf⟩ := bd_some hf
        refine s_callVi (As := [.int x6]) (rest := []) F I_8 (cC_CO_at G7 E Dd P L pf x6 r10 h11) kX6_78 ⟨rfl, rfl⟩ ⟨Nat.le_trans (Nat.le_of_ble_eq_true rfl) hRf, Nat.le_trans (Nat.le_of_ble_eq_true rfl) hRl⟩ 2 1 rfl rfl rfl rfl rfl hl_9.1 (Nat.le_of_ble_eq_true rfl) ⟨Nat.zero_le _, Nat.zero_le _⟩ dX6_isStable_25 ?_
        intro H_12 lo_12 I_12
        refine lv_istore (lv' := [(5, .int r10), (0, .ref (ad 16)), (1, .ref (ad 2)), (2, .int a1), (3, .int r1), (4, .int x6)]) hx hb dX6_isStable_28 hl_9 (by decide) rfl (fun ls_13 hl_13 => ?_)
        refine lv_aload_n hx hb dX6_isStable_30 rfl (lv_at hl_13 1 rfl) ?_
        refine kgtX6_26_16 F I_12 dX6_isStable_31 ?_
        refine lv_iconst (v := (0 : Int32)) hx hb dX6_isStable_34 (by decide) ?_
        refine lv_aload_n hx hb dX6_isStable_35 rfl (lv_at hl_13 1 rfl) ?_
        refine kgtX6_29_16 F I_12 dX6_isStable_36 ?_
        refine lv_iconst (v := (0 : Int32)) hx hb dX6_isStable_39 (by decide) ?_
        refine lv_bipush (v := (8 : Int32)) hx hb dX6_isStable_40 (by decide) ?_
        refine kcpX6_139_18_19 F I_12 hl_13.1 (Nat.le_trans (Nat.le_of_ble_eq_true rfl) hRf) (Nat.le_trans (Nat.le_of_ble_eq_true rfl) hRl) (Nat.le_of_ble_eq_true rfl) dX6_isStable_42 ?_
        intro H_15 lo_15 G14 eG14 I_15
        replace hf := nm_some eG14 hf
        refine lv_aload_n hx hb dX6_isStable_45 rfl (lv_at hl_13 1 rfl) ?_
        refine kgtX6_29_16 F I_15 dX6_isStable_46 ?_
        refine lv_iload hx hb dX6_isStable_49 (lv_at hl_13 0 rfl) ?_
        refine lv_aload_n hx hb dX6_isStable_51 rfl (lv_at hl_13 1 rfl) ?_
        refine kgtX6_15_16 F I_15 dX6_isStable_52 ?_
        refine lv_iload hx hb dX6_isStable_55 (lv_at hl_13 0 rfl) ?_
        obtain ⟨r16, h17⟩ : ∃ z, z = C_CO_listenerOf r10 := ⟨_, rfl⟩
        replace hf := nm_some h17 hf
        refine s_callSi (As := [.int r10]) (rest := [.ref (ad 17), .int r10, .ref (ad 19)]) F I_15 (cC_CO_listenerOf G14 E Dd P L pf r10 r16 h17) kX6_82 ⟨rfl, rfl⟩ ⟨Nat.le_trans (Nat.le_of_ble_eq_true rfl) hRf, Nat.le_trans (Nat.le_of_ble_eq_true rfl) hRl⟩ rfl rfl hl_13.1 (Nat.le_of_ble_eq_true rfl) ⟨Nat.zero_le _, Nat.zero_le _⟩ dX6_isStable_57 ?_
        intro H_18 lo_18 I_18
        obtain ⟨g19, hf⟩ := ri_some hf
        refine kal17 F I_18 g19 dX6_isStable_60 ?_
        refine lv_ineg hx hb dX6_isStable_61 ?_
        obtain ⟨G20, h21, hf⟩ := bd_some hf
        refine s_callSv (As := [.ref (ad 19), .int r10, .int (-(G14 22 r16.toNatClampNeg))]) (rest := []) F I_18 (cC_SD_addPoints_19 G14 E Dd P L pf r10 (-(G14 22 r16.toNatClampNeg)) G20 h21) kX6_89 ⟨rfl, rfl⟩ ⟨Nat.le_trans (Nat.le_of_ble_eq_true rfl) hRf, Nat.le_trans (Nat.le_of_ble_eq_true rfl) hRl⟩ rfl rfl hl_13.1 (Nat.le_of_ble_eq_true rfl) ⟨Nat.zero_le _, Nat.zero_le _⟩ dX6_isStable_62 ?_
        intro H_22 lo_22 I_22
        refine lv_aload_n hx hb dX6_isStable_65 rfl (lv_at hl_13 1 rfl) ?_
        refine lv_aload_n hx hb dX6_isStable_66 rfl (lv_at hl_13 1 rfl) ?_
        refine kgtX6_29_16 F I_22 dX6_isStable_67 ?_
        refine lv_iload_n hx hb dX6_isStable_70 rfl (lv_at hl_13 3 rfl) ?_
        obtain ⟨r23, h24, hf⟩ := bd_some hf
        refine s_callVi (As := [.ref (ad 19), .int a1]) (rest := []) F I_22 (cC_SD_rankIn_19 G20 E Dd P L pf a1 r23 h24) kX6_93 ⟨rfl, rfl⟩ ⟨Nat.le_trans (Nat.le_of_ble_eq_true rfl) hRf, Nat.le_trans (Nat.le_of_ble_eq_true rfl) hRl⟩ 16 6 rfl rfl rfl rfl rfl hl_13.1 (Nat.le_of_ble_eq_true rfl) ⟨Nat.zero_le _, Nat.zero_le _⟩ dX6_isStable_71 ?_
        intro H_25 lo_25 I_25
        refine lv_iload_n hx hb dX6_isStable_74 rfl (lv_at hl_13 4 rfl) ?_
        refine lv_icmp_eq (tgt := 80) hx hb dX6_isStable_75 (by decide) (fun c28 => ?_) (fun c28 => ?_)
        · replace hf := (if_pos c28).symm.trans hf
          obtain ⟨x26, ex26⟩ : ∃ y : Int32, y = x6 + (1 : Int32) := ⟨_, rfl⟩
          replace hf := nm_some ex26 hf
          refine lv_iinc (v := x26) (lv' := [(4, .int x26), (5, .int r10), (0, .ref (ad 16)), (1, .ref (ad 2)), (2, .int a1), (3, .int r1)]) hx hb dX6_isStable_80 hl_13 (k := 5) rfl (by rw [ex26]; rfl) (by decide) rfl (fun ls_27 hl_27 => ?_)
          refine lv_goto (tgt := 13) hx hb dX6_isStable_83 (by decide) ?_
          cases hf
          exact ih1 _ _ hK1 H_25 lo_25 I_25 ls_27 (lv_sub hl_27 [2, 3, 4, 5, 0] rfl)
        · replace hf := (if_neg c28).symm.trans hf
          refine lv_iconst (v := (0 : Int32)) hx hb dX6_isStable_78 (by decide) ?_
          cases hf
          have hf := congrArg some (show _ = _ from hK1)
          cases hf
          exact ret H_25 lo_25 _ ls_13 I_25 (Or.inl rfl) dX6_isStable_79
  exact L1 FU _ _ hq1 H_3 lo_3 I_3 ls_5 (lv_sub hl_5 [2, 3, 4, 1, 0] rfl)
def C_LE_isAhead_22 (G : Nat → Nat → Int32) (a0 : Int32) (a1 : Int32) : Option (Int32) :=
nm (C_LT_cell a0 a1) fun r1 =>
ri 64 r1 <|
if G 20 r1.toNatClampNeg ≤ 0 then
(some (0 : Int32))
else
(some (1 : Int32))
set_option maxRecDepth 100000 in
set_option maxHeartbeats 4000000 in
theorem cC_LE_isAhead_22 (G : Nat → Nat → Int32) (E : Nat → Nat → Int64) (Dd : Nat → Nat → UInt64) (P : Nat → Option Nat) (L : List Nat) (pf : Nat → va_E) (a0 : Int32) (a1 : Int32) (rv : Int32)  (hf : C_LE_isAhead_22 G a0 a1 = some rv) : sMi D (cT cI cJ cD cS) (cW ad cI cJ cD cS) l yX3_isAhead (ws1 yX3_isAhead cX3_isAhead 3 (some .boolean)) ({ frames := 1, cells := 0, slots := 0, locals := 21 }) [.ref (ad 22), .int a0, .int a1] (G, E, Dd, P, L, pf) (rv, (G, E, Dd, P, L, pf)) := by
  unfold C_LE_isAhead_22 at hf
  refine sMz_of (by decide) (Nat.le_of_ble_eq_true rfl) ?_
  intro p e R s m args below meth c A Q ls H lo F hRf hRl I hl ret
  obtain ⟨hx, hb, hml, hown, hG⟩ := id F
  replace hl : lv_has ls 3 [(0, .ref (ad 22)), (1, .int a0), (2, .int a1)] := hl
  refine lv_aload_n hx hb dX3_isAhead_0 rfl (lv_at hl 0 rfl) ?_
  refine kgtX3_9_22 F I dX3_isAhead_1 ?_
  refine lv_iload_n hx hb dX3_isAhead_4 rfl (lv_at hl 1 rfl) ?_
  refine lv_iload_n hx hb dX3_isAhead_5 rfl (lv_at hl 2 rfl) ?_
  obtain ⟨r1, h2⟩ : ∃ z, z = C_LT_cell a0 a1 := ⟨_, rfl⟩
  replace hf := nm_some h2 hf
  refine s_callSNi (As := [.int a0, .int a1]) (rest := [.ref (ad 23)]) F I (cC_LT_cell G E Dd P L pf a0 a1 r1 h2) kX3_50 ⟨rfl, rfl⟩ ⟨Nat.le_trans (Nat.le_of_ble_eq_true rfl) hRf, Nat.le_trans (Nat.le_of_ble_eq_true rfl) hRl⟩ rfl rfl hl.1 (Nat.le_of_ble_eq_true rfl) ⟨Nat.zero_le _, Nat.zero_le _⟩ dX3_isAhead_6 ?_
  intro H_3 lo_3 I_3
  obtain ⟨g4, hf⟩ := ri_some hf
  refine kal23 F I_3 g4 dX3_isAhead_9 ?_
  refine lv_if_le (tgt := 17) hx hb dX3_isAhead_10 (by decide) (fun c5 => ?_) (fun c5 => ?_)
  · replace hf := (if_pos c5).symm.trans hf
    refine lv_iconst (v := (0 : Int32)) hx hb dX3_isAhead_17 (by decide) ?_
    cases hf
    exact ret H_3 lo_3 _ ls I_3 (Or.inl rfl) dX3_isAhead_18
  · replace hf := (if_neg c5).symm.trans hf
    refine lv_iconst (v := (1 : Int32)) hx hb dX3_isAhead_13 (by decide) ?_
    refine lv_goto (tgt := 18) hx hb dX3_isAhead_14 (by decide) ?_
    cases hf
    exact ret H_3 lo_3 _ ls I_3 (Or.inr rfl) dX3_isAhead_18
def C_SD_dominanceOf_s1 (a0 : Int32) (G : Nat → Nat → Int32) (x3 : Int32) (x4 : Int32) : Option ((Int32 × Int32) ⊕ (Int32)) :=
if G 21 0 ≤ x4 then
(some (.inr x3))
else
(bd (C_LE_isAhead_22 G a0 x4) fun r10 =>
bd (if r10 = 0 then
(some x3)
else
(nm (x3 + (1 : Int32) : Int32) fun x31 =>
some x31)) fun x14 =>
bd (C_LE_isAhead_22 G x4 a0) fun r17 =>
bd (if r17 = 0 then
(some x14)
else
(nm (x14 + (-1 : Int32) : Int32) fun x27 =>
some x27)) fun x21 =>
nm (x4 + (1 : Int32) : Int32) fun x24 =>
some (.inl (x21, x24)))
def C_SD_dominanceOf (G : Nat → Nat → Int32) (a0 : Int32) : Option (Int32) :=
bd (lp (fun q => C_SD_dominanceOf_s1 a0 G q.1 q.2) FU ((0 : Int32), (0 : Int32))) fun r5 =>
some r5
set_option maxRecDepth 100000 in
set_option maxHeartbeats 4000000 in
theorem cC_SD_dominanceOf (G : Nat → Nat → Int32) (E : Nat → Nat → Int64) (Dd : Nat → Nat → UInt64) (P : Nat → Option Nat) (L : List Nat) (pf : Nat → va_E) (a0 : Int32) (rv : Int32)  (hf : C_SD_dominanceOf G a0 = some rv) : sMi D (cT cI cJ cD cS) (cW ad cI cJ cD cS) l yX6_dominanceOf (ws1 yX6_dominanceOf cX6_dominanceOf 4 (some .int)) ({ frames := 2, cells := 0, slots := 0, locals := 43 }) [.ref (ad 16), .int a0] (G, E, Dd, P, L, pf) (rv, (G, E, Dd, P, L, pf)) := by
  unfold C_SD_dominanceOf at hf
  refine sMi_of (by decide) (Nat.le_of_ble_eq_true rfl) ?_
  intro p e R s m args below meth c A Q ls H lo F hRf hRl I hl ret
  obtain ⟨hx, hb, hml, hown, hG⟩ := id F
  replace hl : lv_has ls 4 [(0, .ref (ad 16)), (1, .int a0)] := hl
  refine lv_iconst (v := (0 : Int32)) hx hb dX6_dominanceOf_0 (by decide) ?_
  refine lv_istore_n (lv' := [(2, .int (0 : Int32)), (0, .ref (ad 16)), (1, .int a0)]) hx hb dX6_dominanceOf_1 rfl hl (by decide) rfl (fun ls_1 hl_1 => ?_)
  refine lv_iconst (v := (0 : Int32)) hx hb dX6_dominanceOf_2 (by decide) ?_
  refine lv_istore_n (lv' := [(3, .int (0 : Int32)), (2, .int (0 : Int32)), (0, .ref (ad 16)), (1, .int a0)]) hx hb dX6_dominanceOf_3 rfl hl_1 (by decide) rfl (fun ls_2 hl_2 => ?_)
  obtain ⟨r5, hq1, hf⟩ := bd_some hf
  have K1 : ∀ (H : Heap) (locs : List Loc), sInv D (cT cI cJ cD cS) (cW ad cI cJ cD cS) A s H locs (G, E, Dd, P, L, pf) → ∀ (ls : Array Slot), lv_has ls 4 [(2, .int r5)] → W p l e R s m args below meth c H locs 0 0 Q (F0 m 48 ls []) := by
    intro H_6 lo_6 I_6 ls_7 hl_7
    refine lv_iload_n hx hb dX6_dominanceOf_48 rfl (lv_at hl_7 0 rfl) ?_
    cases hf
    exact ret H_6 lo_6 _ ls_7 I_6 dX6_dominanceOf_49
  have L1 : ∀ (n : Nat) (x3 : Int32) (x4 : Int32), lp (fun q => C_SD_dominanceOf_s1 a0 G q.1 q.2) n (x3, x4) = some r5 → ∀ (H : Heap) (locs : List Loc), sInv D (cT cI cJ cD cS) (cW ad cI cJ cD cS) A s H locs (G, E, Dd, P, L, pf) → ∀ (ls : Array Slot), lv_has ls 4 [(0, .ref (ad 16)), (1, .int a0), (2, .int x3), (3, .int x4)] → W p l e R s m args below meth c H locs 0 0 Q (F0 m 4 ls []) := by
    intro n
    induction n with
    | zero => intro x3 x4 hq; exact (lp_0 hq).elim
    | succ n ih1 =>
      intro x3 x4 hq H_8 lo_8 I_8 ls_9 hl_9
      obtain ⟨y1, hf, hK1⟩ := lp_go hq
      replace hf : C_SD_dominanceOf_s1 a0 G x3 x4 = some y1 := hf
      unfold C_SD_dominanceOf_s1 at hf
      refine lv_iload_n hx hb dX6_dominanceOf_4 rfl (lv_at hl_9 3 rfl) ?_
      refine lv_aload_n hx hb dX6_dominanceOf_5 rfl (lv_at hl_9 0 rfl) ?_
      refine kgtX6_9_16 F I_8 dX6_dominanceOf_6 ?_
      refine lv_icmp_ge (tgt := 48) hx hb dX6_dominanceOf_9 (by decide) (fun c34 => ?_) (fun c34 => ?_)
      · replace hf := (if_pos c34).symm.trans hf
        cases hf
        cases (show x3 = r5 from hK1)
        exact K1 H_8 lo_8 I_8 ls_9 (lv_sub hl_9 [2] rfl)
      · replace hf := (if_neg c34).symm.trans hf
        refine lv_aload_n hx hb dX6_dominanceOf_12 rfl (lv_at hl_9 0 rfl) ?_
        refine kgtX6_22_16 F I_8 dX6_dominanceOf_13 ?_
        refine lv_iload_n hx hb dX6_dominanceOf_16 rfl (lv_at hl_9 1 rfl) ?_
        refine lv_iload_n hx hb dX6_dominanceOf_17 rfl (lv_at hl_9 3 rfl) ?_
        obtain ⟨r10, h11, hf⟩ := bd_some hf
        refine s_callVi (As := [.int a0, .int x4]) (rest := []) F I_8 (cC_LE_isAhead_22 G E Dd P L pf a0 x4 r10 h11) kX6_145 ⟨rfl, rfl⟩ ⟨Nat.le_trans (Nat.le_of_ble_eq_true rfl) hRf, Nat.le_trans (Nat.le_of_ble_eq_true rfl) hRl⟩ 22 3 rfl rfl rfl rfl rfl hl_9.1 (Nat.le_of_ble_eq_true rfl) ⟨Nat.zero_le _, Nat.zero_le _⟩ dX6_dominanceOf_18 ?_
        intro H_12 lo_12 I_12
        obtain ⟨x14, hv30, hf⟩ := bd_some hf
        have J13 : ∀ (H : Heap) (locs : List Loc), sInv D (cT cI cJ cD cS) (cW ad cI cJ cD cS) A s H locs (G, E, Dd, P, L, pf) → ∀ (ls : Array Slot), lv_has ls 4 [(0, .ref (ad 16)), (1, .int a0), (2, .int x14), (3, .int x4)] → W p l e R s m args below meth c H locs 0 0 Q (F0 m 27 ls []) := by
          intro H_15 lo_15 I_15 ls_16 hl_16
          refine lv_aload_n hx hb dX6_dominanceOf_27 rfl (lv_at hl_16 0 rfl) ?_
          refine kgtX6_22_16 F I_15 dX6_dominanceOf_28 ?_
          refine lv_iload_n hx hb dX6_dominanceOf_31 rfl (lv_at hl_16 3 rfl) ?_
          refine lv_iload_n hx hb dX6_dominanceOf_32 rfl (lv_at hl_16 1 rfl) ?_
          obtain ⟨r17, h18, hf⟩ := bd_some hf
          refine s_callVi (As := [.int x4, .int a0]) (rest := []) F I_15 (cC_LE_isAhead_22 G E Dd P L pf x4 a0 r17 h18) kX6_145 ⟨rfl, rfl⟩ ⟨Nat.le_trans (Nat.le_of_ble_eq_true rfl) hRf, Nat.le_trans (Nat.le_of_ble_eq_true rfl) hRl⟩ 22 3 rfl rfl rfl rfl rfl hl_16.1 (Nat.le_of_ble_eq_true rfl) ⟨Nat.zero_le _, Nat.zero_le _⟩ dX6_dominanceOf_33 ?_
          intro H_19 lo_19 I_19
          obtain ⟨x21, hv26, hf⟩ := bd_some hf
          have J20 : ∀ (H : Heap) (locs : List Loc), sInv D (cT cI cJ cD cS) (cW ad cI cJ cD cS) A s H locs (G, E, Dd, P, L, pf) → ∀ (ls : Array Slot), lv_has ls 4 [(0, .ref (ad 16)), (1, .int a0), (2, .int x21), (3, .int x4)] → W p l e R s m args below meth c H locs 0 0 Q (F0 m 42 ls []) := by
            intro H_22 lo_22 I_22 ls_23 hl_23
            obtain ⟨x24, ex24⟩ : ∃ y : Int32, y = x4 + (1 : Int32) := ⟨_, rfl⟩
            replace hf := nm_some ex24 hf
            refine lv_iinc (v := x24) (lv' := [(3, .int x24), (0, .ref (ad 16)), (1, .int a0), (2, .int x21)]) hx hb dX6_dominanceOf_42 hl_23 (k := 3) rfl (by rw [ex24]; rfl) (by decide) rfl (fun ls_25 hl_25 => ?_)
            refine lv_goto (tgt := 4) hx hb dX6_dominanceOf_45 (by decide) ?_
            cases hf
            exact ih1 _ _ hK1 H_22 lo_22 I_22 ls_25 (lv_sub hl_25 [1, 2, 3, 0] rfl)
          replace hf := hv26
          refine lv_if_eq (tgt := 42) hx hb dX6_dominanceOf_36 (by decide) (fun c29 => ?_) (fun c29 => ?_)
          · replace hf := (if_pos c29).symm.trans hf
            cases hf
            exact J20 H_19 lo_19 I_19 ls_16 (lv_sub hl_16 [0, 1, 2, 3] rfl)
          · replace hf := (if_neg c29).symm.trans hf
            obtain ⟨x27, ex27⟩ : ∃ y : Int32, y = x14 + (-1 : Int32) := ⟨_, rfl⟩
            replace hf := nm_some ex27 hf
            refine lv_iinc (v := x27) (lv' := [(2, .int x27), (0, .ref (ad 16)), (1, .int a0), (3, .int x4)]) hx hb dX6_dominanceOf_39 hl_16 (k := 2) rfl (by rw [ex27]; rfl) (by decide) rfl (fun ls_28 hl_28 => ?_)
            cases hf
            exact J20 H_19 lo_19 I_19 ls_28 (lv_sub hl_28 [1, 2, 0, 3] rfl)
        replace hf := hv30
        refine lv_if_eq (tgt := 27) hx hb dX6_dominanceOf_21 (by decide) (fun c33 => ?_) (fun c33 => ?_)
        · replace hf := (if_pos c33).symm.trans hf
          cases hf
          exact J13 H_12 lo_12 I_12 ls_9 (lv_sub hl_9 [0, 1, 2, 3] rfl)
        · replace hf := (if_neg c33).symm.trans hf
          obtain ⟨x31, ex31⟩ : ∃ y : Int32, y = x3 + (1 : Int32) := ⟨_, rfl⟩
          replace hf := nm_some ex31 hf
          refine lv_iinc (v := x31) (lv' := [(2, .int x31), (0, .ref (ad 16)), (1, .int a0), (3, .int x4)]) hx hb dX6_dominanceOf_24 hl_9 (k := 2) rfl (by rw [ex31]; rfl) (by decide) rfl (fun ls_32 hl_32 => ?_)
          cases hf
          exact J13 H_12 lo_12 I_12 ls_32 (lv_sub hl_32 [1, 2, 0, 3] rfl)
  exact L1 FU _ _ hq1 H lo I ls_2 (lv_sub hl_2 [2, 3, 1, 0] rfl)
def C_SD_findBeaters_s2 (x2 : Int32) (x13 : Int32) (G14 : Nat → Nat → Int32) : Option ((Int32 × (Nat → Nat → Int32)) ⊕ ((Nat → Nat → Int32))) :=
if G14 21 0 ≤ x13 then
(some (.inr G14))
else
(bd (C_LE_isAhead_22 G14 x13 x2) fun r22 =>
bd (if r22 = 0 then
(some G14)
else
(ri 8 x2 <|
ri 8 x2 <|
nm (wr G14 25 x2 ((G14 25 x2.toNatClampNeg) ||| ((1 : Int32) <<< (x13 &&& 31)))) fun G34 =>
some G34)) fun G26 =>
nm (x13 + (1 : Int32) : Int32) fun x29 =>
some (.inl (x29, G26)))
def C_SD_findBeaters_s1  (x2 : Int32) (G3 : Nat → Nat → Int32) : Option ((Int32 × (Nat → Nat → Int32)) ⊕ ((Nat → Nat → Int32))) :=
if G3 21 0 ≤ x2 then
(some (.inr G3))
else
(ri 8 x2 <|
nm (wr G3 25 x2 (0 : Int32)) fun G10 =>
bd (lp (fun q => C_SD_findBeaters_s2 x2 q.1 q.2) FU ((0 : Int32), G10)) fun G15 =>
nm (x2 + (1 : Int32) : Int32) fun x18 =>
some (.inl (x18, G15)))
def C_SD_findBeaters (G : Nat → Nat → Int32) : Option ((Nat → Nat → Int32)) :=
bd (lp (fun q => C_SD_findBeaters_s1 q.1 q.2) FU ((0 : Int32), G)) fun G4 =>
some G4
set_option maxRecDepth 100000 in
set_option maxHeartbeats 4000000 in
theorem cC_SD_findBeaters (G : Nat → Nat → Int32) (E : Nat → Nat → Int64) (Dd : Nat → Nat → UInt64) (P : Nat → Option Nat) (L : List Nat) (pf : Nat → va_E)   (newG : Nat → Nat → Int32) (hf : C_SD_findBeaters G = some newG) : sMv D (cT cI cJ cD cS) (cW ad cI cJ cD cS) l yX6_findBeaters (ws1 yX6_findBeaters cX6_findBeaters 3 none) ({ frames := 2, cells := 0, slots := 0, locals := 43 }) [.ref (ad 16)] (G, E, Dd, P, L, pf) (newG, E, Dd, P, L, pf) := by
  unfold C_SD_findBeaters at hf
  refine sMv_of (by decide) (Nat.le_of_ble_eq_true rfl) ?_
  intro p e R s m args below meth c A Q ls H lo F hRf hRl I hl ret
  obtain ⟨hx, hb, hml, hown, hG⟩ := id F
  replace hl : lv_has ls 3 [(0, .ref (ad 16))] := hl
  refine lv_iconst (v := (0 : Int32)) hx hb dX6_findBeaters_0 (by decide) ?_
  refine lv_istore_n (lv' := [(1, .int (0 : Int32)), (0, .ref (ad 16))]) hx hb dX6_findBeaters_1 rfl hl (by decide) rfl (fun ls_1 hl_1 => ?_)
  obtain ⟨G4, hq1, hf⟩ := bd_some hf
  have K1 : ∀ (H : Heap) (locs : List Loc), sInv D (cT cI cJ cD cS) (cW ad cI cJ cD cS) A s H locs (G4, E, Dd, P, L, pf) → ∀ (ls : Array Slot), lv_has ls 3 [] → W p l e R s m args below meth c H locs 0 0 Q (F0 m 63 ls []) := by
    intro H_5 lo_5 I_5 ls_6 hl_6
    cases hf
    exact ret H_5 lo_5 _ ls_6 I_5 dX6_findBeaters_63
  have L1 : ∀ (n : Nat) (x2 : Int32) (G3 : Nat → Nat → Int32), lp (fun q => C_SD_findBeaters_s1 q.1 q.2) n (x2, G3) = some G4 → ∀ (H : Heap) (locs : List Loc), sInv D (cT cI cJ cD cS) (cW ad cI cJ cD cS) A s H locs (G3, E, Dd, P, L, pf) → ∀ (ls : Array Slot), lv_has ls 3 [(0, .ref (ad 16)), (1, .int x2)] → W p l e R s m args below meth c H locs 0 0 Q (F0 m 2 ls []) := by
    intro n
    induction n with
    | zero => intro x2 G3 hq; exact (lp_0 hq).elim
    | succ n ih1 =>
      intro x2 G3 hq H_7 lo_7 I_7 ls_8 hl_8
      obtain ⟨y1, hf, hK1⟩ := lp_go hq
      replace hf : C_SD_findBeaters_s1 x2 G3 = some y1 := hf
      unfold C_SD_findBeaters_s1 at hf
      refine lv_iload_n hx hb dX6_findBeaters_2 rfl (lv_at hl_8 1 rfl) ?_
      refine lv_aload_n hx hb dX6_findBeaters_3 rfl (lv_at hl_8 0 rfl) ?_
      refine kgtX6_9_16 F I_7 dX6_findBeaters_4 ?_
      refine lv_icmp_ge (tgt := 63) hx hb dX6_findBeaters_7 (by decide) (fun c38 => ?_) (fun c38 => ?_)
      · replace hf := (if_pos c38).symm.trans hf
        cases hf
        cases (show G3 = G4 from hK1)
        exact K1 H_7 lo_7 I_7 ls_8 (lv_sub hl_8 [] rfl)
      · replace hf := (if_neg c38).symm.trans hf
        refine lv_aload_n hx hb dX6_findBeaters_10 rfl (lv_at hl_8 0 rfl) ?_
        refine kgtX6_32_16 F I_7 dX6_findBeaters_11 ?_
        refine lv_iload_n hx hb dX6_findBeaters_14 rfl (lv_at hl_8 1 rfl) ?_
        refine lv_iconst (v := (0 : Int32)) hx hb dX6_findBeaters_15 (by decide) ?_
        obtain ⟨g9, hf⟩ := ri_some hf
        refine kas20 F I_7 g9 dX6_findBeaters_16 ?_
        intro H_11 lo_11 G10 eG10 I_11
        replace hf := nm_some eG10 hf
        refine lv_iconst (v := (0 : Int32)) hx hb dX6_findBeaters_17 (by decide) ?_
        refine lv_istore_n (lv' := [(2, .int (0 : Int32)), (0, .ref (ad 16)), (1, .int x2)]) hx hb dX6_findBeaters_18 rfl hl_8 (by decide) rfl (fun ls_12 hl_12 => ?_)
        obtain ⟨G15, hq2, hf⟩ := bd_some hf
        have K2 : ∀ (H : Heap) (locs : List Loc), sInv D (cT cI cJ cD cS) (cW ad cI cJ cD cS) A s H locs (G15, E, Dd, P, L, pf) → ∀ (ls : Array Slot), lv_has ls 3 [(0, .ref (ad 16)), (1, .int x2)] → W p l e R s m args below meth c H locs 0 0 Q (F0 m 57 ls []) := by
          intro H_16 lo_16 I_16 ls_17 hl_17
          obtain ⟨x18, ex18⟩ : ∃ y : Int32, y = x2 + (1 : Int32) := ⟨_, rfl⟩
          replace hf := nm_some ex18 hf
          refine lv_iinc (v := x18) (lv' := [(1, .int x18), (0, .ref (ad 16))]) hx hb dX6_findBeaters_57 hl_17 (k := 1) rfl (by rw [ex18]; rfl) (by decide) rfl (fun ls_19 hl_19 => ?_)
          refine lv_goto (tgt := 2) hx hb dX6_findBeaters_60 (by decide) ?_
          cases hf
          exact ih1 _ _ hK1 H_16 lo_16 I_16 ls_19 (lv_sub hl_19 [1, 0] rfl)
        have L2 : ∀ (n : Nat) (x13 : Int32) (G14 : Nat → Nat → Int32), lp (fun q => C_SD_findBeaters_s2 x2 q.1 q.2) n (x13, G14) = some G15 → ∀ (H : Heap) (locs : List Loc), sInv D (cT cI cJ cD cS) (cW ad cI cJ cD cS) A s H locs (G14, E, Dd, P, L, pf) → ∀ (ls : Array Slot), lv_has ls 3 [(0, .ref (ad 16)), (1, .int x2), (2, .int x13)] → W p l e R s m args below meth c H locs 0 0 Q (F0 m 19 ls []) := by
          intro n
          induction n with
          | zero => intro x13 G14 hq; exact (lp_0 hq).elim
          | succ n ih2 =>
            intro x13 G14 hq H_20 lo_20 I_20 ls_21 hl_21
            obtain ⟨y2, hf, hK2⟩ := lp_go hq
            replace hf : C_SD_findBeaters_s2 x2 x13 G14 = some y2 := hf
            unfold C_SD_findBeaters_s2 at hf
            refine lv_iload_n hx hb dX6_findBeaters_19 rfl (lv_at hl_21 2 rfl) ?_
            refine lv_aload_n hx hb dX6_findBeaters_20 rfl (lv_at hl_21 0 rfl) ?_
            refine kgtX6_9_16 F I_20 dX6_findBeaters_21 ?_
            refine lv_icmp_ge (tgt := 57) hx hb dX6_findBeaters_24 (by decide) (fun c37 => ?_) (fun c37 => ?_)
            · replace hf := (if_pos c37).symm.trans hf
              cases hf
              cases (show G14 = G15 from hK2)
              exact K2 H_20 lo_20 I_20 ls_21 (lv_sub hl_21 [0, 1] rfl)
            · replace hf := (if_neg c37).symm.trans hf
              refine lv_aload_n hx hb dX6_findBeaters_27 rfl (lv_at hl_21 0 rfl) ?_
              refine kgtX6_22_16 F I_20 dX6_findBeaters_28 ?_
              refine lv_iload_n hx hb dX6_findBeaters_31 rfl (lv_at hl_21 2 rfl) ?_
              refine lv_iload_n hx hb dX6_findBeaters_32 rfl (lv_at hl_21 1 rfl) ?_
              obtain ⟨r22, h23, hf⟩ := bd_some hf
              refine s_callVi (As := [.int x13, .int x2]) (rest := []) F I_20 (cC_LE_isAhead_22 G14 E Dd P L pf x13 x2 r22 h23) kX6_145 ⟨rfl, rfl⟩ ⟨Nat.le_trans (Nat.le_of_ble_eq_true rfl) hRf, Nat.le_trans (Nat.le_of_ble_eq_true rfl) hRl⟩ 22 3 rfl rfl rfl rfl rfl hl_21.1 (Nat.le_of_ble_eq_true rfl) ⟨Nat.zero_le _, Nat.zero_le _⟩ dX6_findBeaters_33 ?_
              intro H_24 lo_24 I_24
              obtain ⟨G26, hv31, hf⟩ := bd_some hf
              have J25 : ∀ (H : Heap) (locs : List Loc), sInv D (cT cI cJ cD cS) (cW ad cI cJ cD cS) A s H locs (G26, E, Dd, P, L, pf) → ∀ (ls : Array Slot), lv_has ls 3 [(0, .ref (ad 16)), (1, .int x2), (2, .int x13)] → W p l e R s m args below meth c H locs 0 0 Q (F0 m 51 ls []) := by
                intro H_27 lo_27 I_27 ls_28 hl_28
                obtain ⟨x29, ex29⟩ : ∃ y : Int32, y = x13 + (1 : Int32) := ⟨_, rfl⟩
                replace hf := nm_some ex29 hf
                refine lv_iinc (v := x29) (lv' := [(2, .int x29), (0, .ref (ad 16)), (1, .int x2)]) hx hb dX6_findBeaters_51 hl_28 (k := 2) rfl (by rw [ex29]; rfl) (by decide) rfl (fun ls_30 hl_30 => ?_)
                refine lv_goto (tgt := 19) hx hb dX6_findBeaters_54 (by decide) ?_
                cases hf
                exact ih2 _ _ hK2 H_27 lo_27 I_27 ls_30 (lv_sub hl_30 [1, 2, 0] rfl)
              replace hf := hv31
              refine lv_if_eq (tgt := 51) hx hb dX6_findBeaters_36 (by decide) (fun c36 => ?_) (fun c36 => ?_)
              · replace hf := (if_pos c36).symm.trans hf
                cases hf
                exact J25 H_24 lo_24 I_24 ls_21 (lv_sub hl_21 [0, 1, 2] rfl)
              · replace hf := (if_neg c36).symm.trans hf
                refine lv_aload_n hx hb dX6_findBeaters_39 rfl (lv_at hl_21 0 rfl) ?_
                refine kgtX6_32_16 F I_24 dX6_findBeaters_40 ?_
                refine lv_iload_n hx hb dX6_findBeaters_43 rfl (lv_at hl_21 1 rfl) ?_
                refine lv_dup2_11 hx hb dX6_findBeaters_44 rfl rfl ?_
                obtain ⟨g32, hf⟩ := ri_some hf
                refine kal20 F I_24 g32 dX6_findBeaters_45 ?_
                refine lv_iconst (v := (1 : Int32)) hx hb dX6_findBeaters_46 (by decide) ?_
                refine lv_iload_n hx hb dX6_findBeaters_47 rfl (lv_at hl_21 2 rfl) ?_
                refine lv_ishl hx hb dX6_findBeaters_48 ?_
                refine lv_ior hx hb dX6_findBeaters_49 ?_
                obtain ⟨g33, hf⟩ := ri_some hf
                refine kas20 F I_24 g33 dX6_findBeaters_50 ?_
                intro H_35 lo_35 G34 eG34 I_35
                replace hf := nm_some eG34 hf
                cases hf
                exact J25 H_35 lo_35 I_35 ls_21 (lv_sub hl_21 [0, 1, 2] rfl)
        exact L2 FU _ _ hq2 H_11 lo_11 I_11 ls_12 (lv_sub hl_12 [1, 2, 0] rfl)
  exact L1 FU _ _ hq1 H lo I ls_1 (lv_sub hl_1 [1, 0] rfl)
def C_SD_closedSet_s2 (a1 : Int32) (G : Nat → Nat → Int32) (x9 : Int32) (x10 : Int32) : Option ((Int32 × Int32) ⊕ (Int32)) :=
if G 21 0 ≤ x10 then
(some (.inr x9))
else
(bd (C_LT_contains (a1 &&& (x9 ^^^ (-1 : Int32))) x10) fun r19 =>
bd (if r19 = 0 then
(some x9)
else
(ri 8 x10 <|
if x9 &&& ((G 25 x10.toNatClampNeg) ^^^ (-1 : Int32)) = 0 then
(some x9)
else
(nm (x9 ||| ((1 : Int32) <<< (x10 &&& 31)) : Int32) fun x31 =>
some x31))) fun x24 =>
nm (x10 + (1 : Int32) : Int32) fun x27 =>
some (.inl (x24, x27)))
def C_SD_closedSet_s1 (a1 : Int32) (G : Nat → Nat → Int32) (x3 : Int32) (x4 : Int32) : Option ((Int32 × Int32) ⊕ (Int32)) :=
if G 21 0 ≤ x4 then
(some (.inr x3))
else
(bd (lp (fun q => C_SD_closedSet_s2 a1 G q.1 q.2) FU (x3, (0 : Int32))) fun r11 =>
if r11 = x3 then
(some (.inr r11))
else
(nm (x4 + (1 : Int32) : Int32) fun x14 =>
some (.inl (r11, x14))))
def C_SD_closedSet (G : Nat → Nat → Int32) (a0 : Int32) (a1 : Int32) : Option (Int32) :=
lp (fun q => C_SD_closedSet_s1 a1 G q.1 q.2) FU (a0, (0 : Int32))
set_option maxRecDepth 100000 in
set_option maxHeartbeats 4000000 in
theorem cC_SD_closedSet (G : Nat → Nat → Int32) (E : Nat → Nat → Int64) (Dd : Nat → Nat → UInt64) (P : Nat → Option Nat) (L : List Nat) (pf : Nat → va_E) (a0 : Int32) (a1 : Int32) (rv : Int32)  (hf : C_SD_closedSet G a0 a1 = some rv) : sMi D (cT cI cJ cD cS) (cW ad cI cJ cD cS) l yX6_closedSet (ws1 yX6_closedSet cX6_closedSet 8 (some .int)) ({ frames := 1, cells := 0, slots := 0, locals := 21 }) [.ref (ad 16), .int a0, .int a1] (G, E, Dd, P, L, pf) (rv, (G, E, Dd, P, L, pf)) := by
  unfold C_SD_closedSet at hf
  refine sMi_of (by decide) (Nat.le_of_ble_eq_true rfl) ?_
  intro p e R s m args below meth c A Q ls H lo F hRf hRl I hl ret
  obtain ⟨hx, hb, hml, hown, hG⟩ := id F
  replace hl : lv_has ls 8 [(0, .ref (ad 16)), (1, .int a0), (2, .int a1)] := hl
  refine lv_iload_n hx hb dX6_closedSet_0 rfl (lv_at hl 1 rfl) ?_
  refine lv_istore_n (lv' := [(3, .int a0), (0, .ref (ad 16)), (1, .int a0), (2, .int a1)]) hx hb dX6_closedSet_1 rfl hl (by decide) rfl (fun ls_1 hl_1 => ?_)
  refine lv_iconst (v := (0 : Int32)) hx hb dX6_closedSet_2 (by decide) ?_
  refine lv_istore (lv' := [(4, .int (0 : Int32)), (3, .int a0), (0, .ref (ad 16)), (1, .int a0), (2, .int a1)]) hx hb dX6_closedSet_3 hl_1 (by decide) rfl (fun ls_2 hl_2 => ?_)
  have hq1 : lp (fun q => C_SD_closedSet_s1 a1 G q.1 q.2) FU (a0, (0 : Int32)) = some rv := hf
  have L1 : ∀ (n : Nat) (x3 : Int32) (x4 : Int32), lp (fun q => C_SD_closedSet_s1 a1 G q.1 q.2) n (x3, x4) = some rv → ∀ (H : Heap) (locs : List Loc), sInv D (cT cI cJ cD cS) (cW ad cI cJ cD cS) A s H locs (G, E, Dd, P, L, pf) → ∀ (ls : Array Slot), lv_has ls 8 [(0, .ref (ad 16)), (2, .int a1), (3, .int x3), (4, .int x4)] → W p l e R s m args below meth c H locs 0 0 Q (F0 m 5 ls []) := by
    intro n
    induction n with
    | zero => intro x3 x4 hq; exact (lp_0 hq).elim
    | succ n ih1 =>
      intro x3 x4 hq H_5 lo_5 I_5 ls_6 hl_6
      obtain ⟨y1, hf, hK1⟩ := lp_go hq
      replace hf : C_SD_closedSet_s1 a1 G x3 x4 = some y1 := hf
      unfold C_SD_closedSet_s1 at hf
      refine lv_iload hx hb dX6_closedSet_5 (lv_at hl_6 3 rfl) ?_
      refine lv_aload_n hx hb dX6_closedSet_7 rfl (lv_at hl_6 0 rfl) ?_
      refine kgtX6_9_16 F I_5 dX6_closedSet_8 ?_
      refine lv_icmp_ge (tgt := 88) hx hb dX6_closedSet_11 (by decide) (fun c36 => ?_) (fun c36 => ?_)
      · replace hf := (if_pos c36).symm.trans hf
        refine lv_iload_n hx hb dX6_closedSet_88 rfl (lv_at hl_6 2 rfl) ?_
        cases hf
        have hf := congrArg some (show _ = _ from hK1)
        cases hf
        exact ret H_5 lo_5 _ ls_6 I_5 dX6_closedSet_89
      · replace hf := (if_neg c36).symm.trans hf
        refine lv_iload_n hx hb dX6_closedSet_14 rfl (lv_at hl_6 2 rfl) ?_
        refine lv_istore (lv' := [(5, .int x3), (0, .ref (ad 16)), (2, .int a1), (3, .int x3), (4, .int x4)]) hx hb dX6_closedSet_15 hl_6 (by decide) rfl (fun ls_7 hl_7 => ?_)
        refine lv_iconst (v := (0 : Int32)) hx hb dX6_closedSet_17 (by decide) ?_
        refine lv_istore (lv' := [(6, .int (0 : Int32)), (5, .int x3), (0, .ref (ad 16)), (2, .int a1), (3, .int x3), (4, .int x4)]) hx hb dX6_closedSet_18 hl_7 (by decide) rfl (fun ls_8 hl_8 => ?_)
        obtain ⟨r11, hq2, hf⟩ := bd_some hf
        have K2 : ∀ (H : Heap) (locs : List Loc), sInv D (cT cI cJ cD cS) (cW ad cI cJ cD cS) A s H locs (G, E, Dd, P, L, pf) → ∀ (ls : Array Slot), lv_has ls 8 [(0, .ref (ad 16)), (2, .int a1), (3, .int r11), (4, .int x4), (5, .int x3)] → W p l e R s m args below meth c H locs 0 0 Q (F0 m 73 ls []) := by
          intro H_12 lo_12 I_12 ls_13 hl_13
          refine lv_iload_n hx hb dX6_closedSet_73 rfl (lv_at hl_13 2 rfl) ?_
          refine lv_iload hx hb dX6_closedSet_74 (lv_at hl_13 4 rfl) ?_
          refine lv_icmp_ne (tgt := 82) hx hb dX6_closedSet_76 (by decide) (fun c16 => ?_) (fun c16 => ?_)
          · replace hf := (if_neg c16).symm.trans hf
            obtain ⟨x14, ex14⟩ : ∃ y : Int32, y = x4 + (1 : Int32) := ⟨_, rfl⟩
            replace hf := nm_some ex14 hf
            refine lv_iinc (v := x14) (lv' := [(4, .int x14), (0, .ref (ad 16)), (2, .int a1), (3, .int r11), (5, .int x3)]) hx hb dX6_closedSet_82 hl_13 (k := 3) rfl (by rw [ex14]; rfl) (by decide) rfl (fun ls_15 hl_15 => ?_)
            refine lv_goto (tgt := 5) hx hb dX6_closedSet_85 (by decide) ?_
            cases hf
            exact ih1 _ _ hK1 H_12 lo_12 I_12 ls_15 (lv_sub hl_15 [1, 2, 3, 0] rfl)
          · replace hf := (if_pos c16).symm.trans hf
            refine lv_goto (tgt := 88) hx hb dX6_closedSet_79 (by decide) ?_
            refine lv_iload_n hx hb dX6_closedSet_88 rfl (lv_at hl_13 2 rfl) ?_
            cases hf
            have hf := congrArg some (show _ = _ from hK1)
            cases hf
            exact ret H_12 lo_12 _ ls_13 I_12 dX6_closedSet_89
        have L2 : ∀ (n : Nat) (x9 : Int32) (x10 : Int32), lp (fun q => C_SD_closedSet_s2 a1 G q.1 q.2) n (x9, x10) = some r11 → ∀ (H : Heap) (locs : List Loc), sInv D (cT cI cJ cD cS) (cW ad cI cJ cD cS) A s H locs (G, E, Dd, P, L, pf) → ∀ (ls : Array Slot), lv_has ls 8 [(0, .ref (ad 16)), (2, .int a1), (3, .int x9), (4, .int x4), (5, .int x3), (6, .int x10)] → W p l e R s m args below meth c H locs 0 0 Q (F0 m 20 ls []) := by
          intro n
          induction n with
          | zero => intro x9 x10 hq; exact (lp_0 hq).elim
          | succ n ih2 =>
            intro x9 x10 hq H_17 lo_17 I_17 ls_18 hl_18
            obtain ⟨y2, hf, hK2⟩ := lp_go hq
            replace hf : C_SD_closedSet_s2 a1 G x9 x10 = some y2 := hf
            unfold C_SD_closedSet_s2 at hf
            refine lv_iload hx hb dX6_closedSet_20 (lv_at hl_18 5 rfl) ?_
            refine lv_aload_n hx hb dX6_closedSet_22 rfl (lv_at hl_18 0 rfl) ?_
            refine kgtX6_9_16 F I_17 dX6_closedSet_23 ?_
            refine lv_icmp_ge (tgt := 73) hx hb dX6_closedSet_26 (by decide) (fun c35 => ?_) (fun c35 => ?_)
            · replace hf := (if_pos c35).symm.trans hf
              cases hf
              cases (show x9 = r11 from hK2)
              exact K2 H_17 lo_17 I_17 ls_18 (lv_sub hl_18 [0, 1, 2, 3, 4] rfl)
            · replace hf := (if_neg c35).symm.trans hf
              refine lv_iload_n hx hb dX6_closedSet_29 rfl (lv_at hl_18 1 rfl) ?_
              refine lv_iload_n hx hb dX6_closedSet_30 rfl (lv_at hl_18 2 rfl) ?_
              refine lv_iconst (v := (-1 : Int32)) hx hb dX6_closedSet_31 (by decide) ?_
              refine lv_ixor hx hb dX6_closedSet_32 ?_
              refine lv_iand hx hb dX6_closedSet_33 ?_
              refine lv_iload hx hb dX6_closedSet_34 (lv_at hl_18 5 rfl) ?_
              obtain ⟨r19, h20, hf⟩ := bd_some hf
              refine s_callSNi (As := [.int (a1 &&& (x9 ^^^ (-1 : Int32))), .int x10]) (rest := []) F I_17 (cC_LT_contains G E Dd P L pf (a1 &&& (x9 ^^^ (-1 : Int32))) x10 r19 h20) kX6_155 ⟨rfl, rfl⟩ ⟨Nat.le_trans (Nat.le_of_ble_eq_true rfl) hRf, Nat.le_trans (Nat.le_of_ble_eq_true rfl) hRl⟩ rfl rfl hl_18.1 (Nat.le_of_ble_eq_true rfl) ⟨Nat.zero_le _, Nat.zero_le _⟩ dX6_closedSet_36 ?_
              intro H_21 lo_21 I_21
              refine lv_istore (lv' := [(7, .int r19), (0, .ref (ad 16)), (2, .int a1), (3, .int x9), (4, .int x4), (5, .int x3), (6, .int x10)]) hx hb dX6_closedSet_39 hl_18 (by decide) rfl (fun ls_22 hl_22 => ?_)
              refine lv_iload hx hb dX6_closedSet_41 (lv_at hl_22 0 rfl) ?_
              obtain ⟨x24, hv29, hf⟩ := bd_some hf
              have J23 : ∀ (H : Heap) (locs : List Loc), sInv D (cT cI cJ cD cS) (cW ad cI cJ cD cS) A s H locs (G, E, Dd, P, L, pf) → ∀ (ls : Array Slot), lv_has ls 8 [(0, .ref (ad 16)), (2, .int a1), (3, .int x24), (4, .int x4), (5, .int x3), (6, .int x10)] → W p l e R s m args below meth c H locs 0 0 Q (F0 m 67 ls []) := by
                intro H_25 lo_25 I_25 ls_26 hl_26
                obtain ⟨x27, ex27⟩ : ∃ y : Int32, y = x10 + (1 : Int32) := ⟨_, rfl⟩
                replace hf := nm_some ex27 hf
                refine lv_iinc (v := x27) (lv' := [(6, .int x27), (0, .ref (ad 16)), (2, .int a1), (3, .int x24), (4, .int x4), (5, .int x3)]) hx hb dX6_closedSet_67 hl_26 (k := 5) rfl (by rw [ex27]; rfl) (by decide) rfl (fun ls_28 hl_28 => ?_)
                refine lv_goto (tgt := 20) hx hb dX6_closedSet_70 (by decide) ?_
                cases hf
                exact ih2 _ _ hK2 H_25 lo_25 I_25 ls_28 (lv_sub hl_28 [1, 2, 3, 4, 5, 0] rfl)
              replace hf := hv29
              refine lv_if_eq (tgt := 67) hx hb dX6_closedSet_43 (by decide) (fun c34 => ?_) (fun c34 => ?_)
              · replace hf := (if_pos c34).symm.trans hf
                cases hf
                exact J23 H_21 lo_21 I_21 ls_22 (lv_sub hl_22 [1, 2, 3, 4, 5, 6] rfl)
              · replace hf := (if_neg c34).symm.trans hf
                refine lv_iload_n hx hb dX6_closedSet_46 rfl (lv_at hl_22 3 rfl) ?_
                refine lv_aload_n hx hb dX6_closedSet_47 rfl (lv_at hl_22 1 rfl) ?_
                refine kgtX6_32_16 F I_21 dX6_closedSet_48 ?_
                refine lv_iload hx hb dX6_closedSet_51 (lv_at hl_22 6 rfl) ?_
                obtain ⟨g30, hf⟩ := ri_some hf
                refine kal20 F I_21 g30 dX6_closedSet_53 ?_
                refine lv_iconst (v := (-1 : Int32)) hx hb dX6_closedSet_54 (by decide) ?_
                refine lv_ixor hx hb dX6_closedSet_55 ?_
                refine lv_iand hx hb dX6_closedSet_56 ?_
                refine lv_if_eq (tgt := 67) hx hb dX6_closedSet_57 (by decide) (fun c33 => ?_) (fun c33 => ?_)
                · replace hf := (if_pos c33).symm.trans hf
                  cases hf
                  exact J23 H_21 lo_21 I_21 ls_22 (lv_sub hl_22 [1, 2, 3, 4, 5, 6] rfl)
                · replace hf := (if_neg c33).symm.trans hf
                  refine lv_iload_n hx hb dX6_closedSet_60 rfl (lv_at hl_22 3 rfl) ?_
                  refine lv_iconst (v := (1 : Int32)) hx hb dX6_closedSet_61 (by decide) ?_
                  refine lv_iload hx hb dX6_closedSet_62 (lv_at hl_22 6 rfl) ?_
                  refine lv_ishl hx hb dX6_closedSet_64 ?_
                  refine lv_ior hx hb dX6_closedSet_65 ?_
                  refine lv_topi (fun x31 ex31 => ?_)
                  replace hf := nm_some ex31 hf
                  refine lv_istore_n (lv' := [(3, .int x31), (7, .int r19), (0, .ref (ad 16)), (2, .int a1), (4, .int x4), (5, .int x3), (6, .int x10)]) hx hb dX6_closedSet_66 rfl hl_22 (by decide) rfl (fun ls_32 hl_32 => ?_)
                  cases hf
                  exact J23 H_21 lo_21 I_21 ls_32 (lv_sub hl_32 [2, 3, 0, 4, 5, 6] rfl)
        exact L2 FU _ _ hq2 H_5 lo_5 I_5 ls_8 (lv_sub hl_8 [2, 3, 4, 5, 1, 0] rfl)
  exact L1 FU _ _ hq1 H lo I ls_2 (lv_sub hl_2 [2, 4, 1, 0] rfl)
def C_JI_bitCount_ (a0 : Int32) : Int32 :=
nm (a0 - (((a0.toUInt32 >>> ((1 : Int32).toUInt32 &&& Int32.toUInt32 31)).toInt32) &&& (1431655765 : Int32)) : Int32) fun x1 =>
nm ((x1 &&& (858993459 : Int32)) + (((x1.toUInt32 >>> ((2 : Int32).toUInt32 &&& Int32.toUInt32 31)).toInt32) &&& (858993459 : Int32)) : Int32) fun x3 =>
nm ((x3 + ((x3.toUInt32 >>> ((4 : Int32).toUInt32 &&& Int32.toUInt32 31)).toInt32)) &&& (252645135 : Int32) : Int32) fun x5 =>
nm (x5 + ((x5.toUInt32 >>> ((8 : Int32).toUInt32 &&& Int32.toUInt32 31)).toInt32) : Int32) fun x7 =>
nm (x7 + ((x7.toUInt32 >>> ((16 : Int32).toUInt32 &&& Int32.toUInt32 31)).toInt32) : Int32) fun x9 =>
(x9 &&& (63 : Int32))
set_option maxRecDepth 100000 in
set_option maxHeartbeats 4000000 in
theorem cC_JI_bitCount_ (G : Nat → Nat → Int32) (E : Nat → Nat → Int64) (Dd : Nat → Nat → UInt64) (P : Nat → Option Nat) (L : List Nat) (pf : Nat → va_E) (a0 : Int32) (rv : Int32)  (hv : rv = C_JI_bitCount_ a0) : sMi D (cT cI cJ cD cS) (cW ad cI cJ cD cS) l yJ6_bitCount_0f7a4 (ws1 yJ6_bitCount_0f7a4 cJ6_bitCount_0f7a4 1 (some .int)) ({ frames := 0, cells := 0, slots := 0, locals := 0 }) [.int a0] (G, E, Dd, P, L, pf) (rv, (G, E, Dd, P, L, pf)) := by
  have hf : (nm (a0 - (((a0.toUInt32 >>> ((1 : Int32).toUInt32 &&& Int32.toUInt32 31)).toInt32) &&& (1431655765 : Int32)) : Int32) fun x1 =>
nm ((x1 &&& (858993459 : Int32)) + (((x1.toUInt32 >>> ((2 : Int32).toUInt32 &&& Int32.toUInt32 31)).toInt32) &&& (858993459 : Int32)) : Int32) fun x3 =>
nm ((x3 + ((x3.toUInt32 >>> ((4 : Int32).toUInt32 &&& Int32.toUInt32 31)).toInt32)) &&& (252645135 : Int32) : Int32) fun x5 =>
nm (x5 + ((x5.toUInt32 >>> ((8 : Int32).toUInt32 &&& Int32.toUInt32 31)).toInt32) : Int32) fun x7 =>
nm (x7 + ((x7.toUInt32 >>> ((16 : Int32).toUInt32 &&& Int32.toUInt32 31)).toInt32) : Int32) fun x9 =>
some (x9 &&& (63 : Int32))) = some rv := by rw [hv]; rfl
  refine sMi_of (by decide) (Nat.le_of_ble_eq_true rfl) ?_
  intro p e R s m args below meth c A Q ls H lo F hRf hRl I hl ret
  obtain ⟨hx, hb, hml, hown, hG⟩ := id F
  replace hl : lv_has ls 1 [(0, .int a0)] := hl
  refine lv_iload_n hx hb dJ6_bitCount_0f7a4_0 rfl (lv_at hl 0 rfl) ?_
  refine lv_iload_n hx hb dJ6_bitCount_0f7a4_1 rfl (lv_at hl 0 rfl) ?_
  refine lv_iconst (v := (1 : Int32)) hx hb dJ6_bitCount_0f7a4_2 (by decide) ?_
  refine lv_iushr hx hb dJ6_bitCount_0f7a4_3 rfl ?_
  refine lv_ldcw (v := (1431655765 : Int32)) hx hb hown (hG _ q685) dJ6_bitCount_0f7a4_4 ?_
  refine lv_iand hx hb dJ6_bitCount_0f7a4_7 ?_
  refine lv_isub hx hb dJ6_bitCount_0f7a4_8 ?_
  refine lv_topi (fun x1 ex1 => ?_)
  replace hf := nm_some ex1 hf
  refine lv_istore_n (lv' := [(0, .int x1)]) hx hb dJ6_bitCount_0f7a4_9 rfl hl (by decide) rfl (fun ls_2 hl_2 => ?_)
  refine lv_iload_n hx hb dJ6_bitCount_0f7a4_10 rfl (lv_at hl_2 0 rfl) ?_
  refine lv_ldcw (v := (858993459 : Int32)) hx hb hown (hG _ q686) dJ6_bitCount_0f7a4_11 ?_
  refine lv_iand hx hb dJ6_bitCount_0f7a4_14 ?_
  refine lv_iload_n hx hb dJ6_bitCount_0f7a4_15 rfl (lv_at hl_2 0 rfl) ?_
  refine lv_iconst (v := (2 : Int32)) hx hb dJ6_bitCount_0f7a4_16 (by decide) ?_
  refine lv_iushr hx hb dJ6_bitCount_0f7a4_17 rfl ?_
  refine lv_ldcw (v := (858993459 : Int32)) hx hb hown (hG _ q686) dJ6_bitCount_0f7a4_18 ?_
  refine lv_iand hx hb dJ6_bitCount_0f7a4_21 ?_
  refine lv_iadd hx hb dJ6_bitCount_0f7a4_22 ?_
  refine lv_topi (fun x3 ex3 => ?_)
  replace hf := nm_some ex3 hf
  refine lv_istore_n (lv' := [(0, .int x3)]) hx hb dJ6_bitCount_0f7a4_23 rfl hl_2 (by decide) rfl (fun ls_4 hl_4 => ?_)
  refine lv_iload_n hx hb dJ6_bitCount_0f7a4_24 rfl (lv_at hl_4 0 rfl) ?_
  refine lv_iload_n hx hb dJ6_bitCount_0f7a4_25 rfl (lv_at hl_4 0 rfl) ?_
  refine lv_iconst (v := (4 : Int32)) hx hb dJ6_bitCount_0f7a4_26 (by decide) ?_
  refine lv_iushr hx hb dJ6_bitCount_0f7a4_27 rfl ?_
  refine lv_iadd hx hb dJ6_bitCount_0f7a4_28 ?_
  refine lv_ldcw (v := (252645135 : Int32)) hx hb hown (hG _ q687) dJ6_bitCount_0f7a4_29 ?_
  refine lv_iand hx hb dJ6_bitCount_0f7a4_32 ?_
  refine lv_topi (fun x5 ex5 => ?_)
  replace hf := nm_some ex5 hf
  refine lv_istore_n (lv' := [(0, .int x5)]) hx hb dJ6_bitCount_0f7a4_33 rfl hl_4 (by decide) rfl (fun ls_6 hl_6 => ?_)
  refine lv_iload_n hx hb dJ6_bitCount_0f7a4_34 rfl (lv_at hl_6 0 rfl) ?_
  refine lv_iload_n hx hb dJ6_bitCount_0f7a4_35 rfl (lv_at hl_6 0 rfl) ?_
  refine lv_bipush (v := (8 : Int32)) hx hb dJ6_bitCount_0f7a4_36 (by decide) ?_
  refine lv_iushr hx hb dJ6_bitCount_0f7a4_38 rfl ?_
  refine lv_iadd hx hb dJ6_bitCount_0f7a4_39 ?_
  refine lv_topi (fun x7 ex7 => ?_)
  replace hf := nm_some ex7 hf
  refine lv_istore_n (lv' := [(0, .int x7)]) hx hb dJ6_bitCount_0f7a4_40 rfl hl_6 (by decide) rfl (fun ls_8 hl_8 => ?_)
  refine lv_iload_n hx hb dJ6_bitCount_0f7a4_41 rfl (lv_at hl_8 0 rfl) ?_
  refine lv_iload_n hx hb dJ6_bitCount_0f7a4_42 rfl (lv_at hl_8 0 rfl) ?_
  refine lv_bipush (v := (16 : Int32)) hx hb dJ6_bitCount_0f7a4_43 (by decide) ?_
  refine lv_iushr hx hb dJ6_bitCount_0f7a4_45 rfl ?_
  refine lv_iadd hx hb dJ6_bitCount_0f7a4_46 ?_
  refine lv_topi (fun x9 ex9 => ?_)
  replace hf := nm_some ex9 hf
  refine lv_istore_n (lv' := [(0, .int x9)]) hx hb dJ6_bitCount_0f7a4_47 rfl hl_8 (by decide) rfl (fun ls_10 hl_10 => ?_)
  refine lv_iload_n hx hb dJ6_bitCount_0f7a4_48 rfl (lv_at hl_10 0 rfl) ?_
  refine lv_bipush (v := (63 : Int32)) hx hb dJ6_bitCount_0f7a4_49 (by decide) ?_
  refine lv_iand hx hb dJ6_bitCount_0f7a4_51 ?_
  cases hf
  exact ret H lo _ ls_10 I dJ6_bitCount_0f7a4_52
def C_SD_topSetOf_s1 (a0 : Int32) (G : Nat → Nat → Int32) (x3 : Int32) (x4 : Int32) : Option ((Int32 × Int32) ⊕ (Int32)) :=
if G 21 0 ≤ x4 then
(some (.inr x3))
else
(bd (C_LT_contains a0 x4) fun r10 =>
bd (if r10 = 0 then
(some x3)
else
(bd (C_SD_closedSet G ((1 : Int32) <<< (x4 &&& 31)) a0) fun r20 =>
nm (C_JI_bitCount_ r20) fun r24 =>
nm (C_JI_bitCount_ x3) fun r27 =>
if r27 ≤ r24 then
(some x3)
else
(some r20))) fun x14 =>
nm (x4 + (1 : Int32) : Int32) fun x17 =>
some (.inl (x14, x17)))
def C_SD_topSetOf (G : Nat → Nat → Int32) (a0 : Int32) : Option (Int32) :=
bd (lp (fun q => C_SD_topSetOf_s1 a0 G q.1 q.2) FU (a0, (0 : Int32))) fun r5 =>
some r5
set_option maxRecDepth 100000 in
set_option maxHeartbeats 4000000 in
theorem cC_SD_topSetOf (G : Nat → Nat → Int32) (E : Nat → Nat → Int64) (Dd : Nat → Nat → UInt64) (P : Nat → Option Nat) (L : List Nat) (pf : Nat → va_E) (a0 : Int32) (rv : Int32)  (hf : C_SD_topSetOf G a0 = some rv) : sMi D (cT cI cJ cD cS) (cW ad cI cJ cD cS) l yX6_topSetOf (ws1 yX6_topSetOf cX6_topSetOf 5 (some .int)) ({ frames := 2, cells := 0, slots := 0, locals := 48 }) [.ref (ad 16), .int a0] (G, E, Dd, P, L, pf) (rv, (G, E, Dd, P, L, pf)) := by
  unfold C_SD_topSetOf at hf
  refine sMi_of (by decide) (Nat.le_of_ble_eq_true rfl) ?_
  intro p e R s m args below meth c A Q ls H lo F hRf hRl I hl ret
  obtain ⟨hx, hb, hml, hown, hG⟩ := id F
  replace hl : lv_has ls 5 [(0, .ref (ad 16)), (1, .int a0)] := hl
  refine lv_iload_n hx hb dX6_topSetOf_0 rfl (lv_at hl 1 rfl) ?_
  refine lv_istore_n (lv' := [(2, .int a0), (0, .ref (ad 16)), (1, .int a0)]) hx hb dX6_topSetOf_1 rfl hl (by decide) rfl (fun ls_1 hl_1 => ?_)
  refine lv_iconst (v := (0 : Int32)) hx hb dX6_topSetOf_2 (by decide) ?_
  refine lv_istore_n (lv' := [(3, .int (0 : Int32)), (2, .int a0), (0, .ref (ad 16)), (1, .int a0)]) hx hb dX6_topSetOf_3 rfl hl_1 (by decide) rfl (fun ls_2 hl_2 => ?_)
  obtain ⟨r5, hq1, hf⟩ := bd_some hf
  have K1 : ∀ (H : Heap) (locs : List Loc), sInv D (cT cI cJ cD cS) (cW ad cI cJ cD cS) A s H locs (G, E, Dd, P, L, pf) → ∀ (ls : Array Slot), lv_has ls 5 [(2, .int r5)] → W p l e R s m args below meth c H locs 0 0 Q (F0 m 51 ls []) := by
    intro H_6 lo_6 I_6 ls_7 hl_7
    refine lv_iload_n hx hb dX6_topSetOf_51 rfl (lv_at hl_7 0 rfl) ?_
    cases hf
    exact ret H_6 lo_6 _ ls_7 I_6 dX6_topSetOf_52
  have L1 : ∀ (n : Nat) (x3 : Int32) (x4 : Int32), lp (fun q => C_SD_topSetOf_s1 a0 G q.1 q.2) n (x3, x4) = some r5 → ∀ (H : Heap) (locs : List Loc), sInv D (cT cI cJ cD cS) (cW ad cI cJ cD cS) A s H locs (G, E, Dd, P, L, pf) → ∀ (ls : Array Slot), lv_has ls 5 [(0, .ref (ad 16)), (1, .int a0), (2, .int x3), (3, .int x4)] → W p l e R s m args below meth c H locs 0 0 Q (F0 m 4 ls []) := by
    intro n
    induction n with
    | zero => intro x3 x4 hq; exact (lp_0 hq).elim
    | succ n ih1 =>
      intro x3 x4 hq H_8 lo_8 I_8 ls_9 hl_9
      obtain ⟨y1, hf, hK1⟩ := lp_go hq
      replace hf : C_SD_topSetOf_s1 a0 G x3 x4 = some y1 := hf
      unfold C_SD_topSetOf_s1 at hf
      refine lv_iload_n hx hb dX6_topSetOf_4 rfl (lv_at hl_9 3 rfl) ?_
      refine lv_aload_n hx hb dX6_topSetOf_5 rfl (lv_at hl_9 0 rfl) ?_
      refine kgtX6_9_16 F I_8 dX6_topSetOf_6 ?_
      refine lv_icmp_ge (tgt := 51) hx hb dX6_topSetOf_9 (by decide) (fun c33 => ?_) (fun c33 => ?_)
      · replace hf := (if_pos c33).symm.trans hf
        cases hf
        cases (show x3 = r5 from hK1)
        exact K1 H_8 lo_8 I_8 ls_9 (lv_sub hl_9 [2] rfl)
      · replace hf := (if_neg c33).symm.trans hf
        refine lv_iload_n hx hb dX6_topSetOf_12 rfl (lv_at hl_9 1 rfl) ?_
        refine lv_iload_n hx hb dX6_topSetOf_13 rfl (lv_at hl_9 3 rfl) ?_
        obtain ⟨r10, h11, hf⟩ := bd_some hf
        refine s_callSNi (As := [.int a0, .int x4]) (rest := []) F I_8 (cC_LT_contains G E Dd P L pf a0 x4 r10 h11) kX6_155 ⟨rfl, rfl⟩ ⟨Nat.le_trans (Nat.le_of_ble_eq_true rfl) hRf, Nat.le_trans (Nat.le_of_ble_eq_true rfl) hRl⟩ rfl rfl hl_9.1 (Nat.le_of_ble_eq_true rfl) ⟨Nat.zero_le _, Nat.zero_le _⟩ dX6_topSetOf_14 ?_
        intro H_12 lo_12 I_12
        obtain ⟨x14, hv19, hf⟩ := bd_some hf
        have J13 : ∀ (H : Heap) (locs : List Loc), sInv D (cT cI cJ cD cS) (cW ad cI cJ cD cS) A s H locs (G, E, Dd, P, L, pf) → ∀ (ls : Array Slot), lv_has ls 5 [(0, .ref (ad 16)), (1, .int a0), (2, .int x14), (3, .int x4)] → W p l e R s m args below meth c H locs 0 0 Q (F0 m 45 ls []) := by
          intro H_15 lo_15 I_15 ls_16 hl_16
          obtain ⟨x17, ex17⟩ : ∃ y : Int32, y = x4 + (1 : Int32) := ⟨_, rfl⟩
          replace hf := nm_some ex17 hf
          refine lv_iinc (v := x17) (lv' := [(3, .int x17), (0, .ref (ad 16)), (1, .int a0), (2, .int x14)]) hx hb dX6_topSetOf_45 hl_16 (k := 3) rfl (by rw [ex17]; rfl) (by decide) rfl (fun ls_18 hl_18 => ?_)
          refine lv_goto (tgt := 4) hx hb dX6_topSetOf_48 (by decide) ?_
          cases hf
          exact ih1 _ _ hK1 H_15 lo_15 I_15 ls_18 (lv_sub hl_18 [1, 2, 3, 0] rfl)
        replace hf := hv19
        refine lv_if_eq (tgt := 45) hx hb dX6_topSetOf_17 (by decide) (fun c32 => ?_) (fun c32 => ?_)
        · replace hf := (if_pos c32).symm.trans hf
          cases hf
          exact J13 H_12 lo_12 I_12 ls_9 (lv_sub hl_9 [0, 1, 2, 3] rfl)
        · replace hf := (if_neg c32).symm.trans hf
          refine lv_aload_n hx hb dX6_topSetOf_20 rfl (lv_at hl_9 0 rfl) ?_
          refine lv_iconst (v := (1 : Int32)) hx hb dX6_topSetOf_21 (by decide) ?_
          refine lv_iload_n hx hb dX6_topSetOf_22 rfl (lv_at hl_9 3 rfl) ?_
          refine lv_ishl hx hb dX6_topSetOf_23 ?_
          refine lv_iload_n hx hb dX6_topSetOf_24 rfl (lv_at hl_9 1 rfl) ?_
          obtain ⟨r20, h21, hf⟩ := bd_some hf
          refine s_callVi (As := [.int ((1 : Int32) <<< (x4 &&& 31)), .int a0]) (rest := []) F I_12 (cC_SD_closedSet G E Dd P L pf ((1 : Int32) <<< (x4 &&& 31)) a0 r20 h21) kX6_158 ⟨rfl, rfl⟩ ⟨Nat.le_trans (Nat.le_of_ble_eq_true rfl) hRf, Nat.le_trans (Nat.le_of_ble_eq_true rfl) hRl⟩ 16 6 rfl rfl rfl rfl rfl hl_9.1 (Nat.le_of_ble_eq_true rfl) ⟨Nat.zero_le _, Nat.zero_le _⟩ dX6_topSetOf_25 ?_
          intro H_22 lo_22 I_22
          refine lv_istore (lv' := [(4, .int r20), (0, .ref (ad 16)), (1, .int a0), (2, .int x3), (3, .int x4)]) hx hb dX6_topSetOf_28 hl_9 (by decide) rfl (fun ls_23 hl_23 => ?_)
          refine lv_iload hx hb dX6_topSetOf_30 (lv_at hl_23 0 rfl) ?_
          obtain ⟨r24, h25⟩ : ∃ z, z = C_JI_bitCount_ r20 := ⟨_, rfl⟩
          replace hf := nm_some h25 hf
          refine s_callSi (As := [.int r20]) (rest := []) F I_22 (cC_JI_bitCount_ G E Dd P L pf r20 r24 h25) kX6_161 ⟨rfl, rfl⟩ ⟨Nat.le_trans (Nat.le_of_ble_eq_true rfl) hRf, Nat.le_trans (Nat.le_of_ble_eq_true rfl) hRl⟩ rfl rfl hl_23.1 (Nat.le_of_ble_eq_true rfl) ⟨Nat.zero_le _, Nat.zero_le _⟩ dX6_topSetOf_32 ?_
          intro H_26 lo_26 I_26
          refine lv_iload_n hx hb dX6_topSetOf_35 rfl (lv_at hl_23 3 rfl) ?_
          obtain ⟨r27, h28⟩ : ∃ z, z = C_JI_bitCount_ x3 := ⟨_, rfl⟩
          replace hf := nm_some h28 hf
          refine s_callSi (As := [.int x3]) (rest := [.int r24]) F I_26 (cC_JI_bitCount_ G E Dd P L pf x3 r27 h28) kX6_161 ⟨rfl, rfl⟩ ⟨Nat.le_trans (Nat.le_of_ble_eq_true rfl) hRf, Nat.le_trans (Nat.le_of_ble_eq_true rfl) hRl⟩ rfl rfl hl_23.1 (Nat.le_of_ble_eq_true rfl) ⟨Nat.zero_le _, Nat.zero_le _⟩ dX6_topSetOf_36 ?_
          intro H_29 lo_29 I_29
          refine lv_icmp_ge (tgt := 45) hx hb dX6_topSetOf_39 (by decide) (fun c31 => ?_) (fun c31 => ?_)
          · replace hf := (if_pos c31).symm.trans hf
            cases hf
            exact J13 H_29 lo_29 I_29 ls_23 (lv_sub hl_23 [1, 2, 3, 4] rfl)
          · replace hf := (if_neg c31).symm.trans hf
            refine lv_iload hx hb dX6_topSetOf_42 (lv_at hl_23 0 rfl) ?_
            refine lv_istore_n (lv' := [(2, .int r20), (4, .int r20), (0, .ref (ad 16)), (1, .int a0), (3, .int x4)]) hx hb dX6_topSetOf_44 rfl hl_23 (by decide) rfl (fun ls_30 hl_30 => ?_)
            cases hf
            exact J13 H_29 lo_29 I_29 ls_30 (lv_sub hl_30 [2, 3, 0, 4] rfl)
  exact L1 FU _ _ hq1 H lo I ls_2 (lv_sub hl_2 [2, 3, 1, 0] rfl)
def C_SD_findLayers_s2 (x17 : Int32) (r24 : Int32) (x29 : Int32) (G30 : Nat → Nat → Int32) : Option ((Int32 × (Nat → Nat → Int32)) ⊕ ((Nat → Nat → Int32))) :=
if G30 21 0 ≤ x29 then
(some (.inr G30))
else
(bd (C_LT_contains r24 x29) fun r42 =>
bd (if r42 = 0 then
(some G30)
else
(ri 8 x29 <|
nm (wr G30 26 x29 x17) fun G53 =>
some G53)) fun G46 =>
nm (x29 + (1 : Int32) : Int32) fun x49 =>
some (.inl (x49, G46)))
def C_SD_findLayers_s1  (x16 : Int32) (x17 : Int32) (G18 : Nat → Nat → Int32) : Option ((Int32 × Int32 × (Nat → Nat → Int32)) ⊕ ((Nat → Nat → Int32))) :=
if G18 21 0 ≤ x17 then
(some (.inr G18))
else
(if x16 = 0 then
(some (.inr G18))
else
(bd (C_SD_topSetOf G18 x16) fun r24 =>
bd (lp (fun q => C_SD_findLayers_s2 x17 r24 q.1 q.2) FU ((0 : Int32), G18)) fun G31 =>
nm (wf G31 27 ((G31 27 0) + (1 : Int32))) fun G34 =>
nm (x16 &&& (r24 ^^^ (-1 : Int32)) : Int32) fun x36 =>
nm (x17 + (1 : Int32) : Int32) fun x38 =>
some (.inl (x36, x38, G34))))
def C_SD_findLayers (G : Nat → Nat → Int32) : Option ((Nat → Nat → Int32)) :=
if G 29 0 = 0 then
(nm (wf G 29 (1 : Int32)) fun G1 =>
bd (C_SD_findBeaters G1) fun G3 =>
nm (((1 : Int32) <<< ((G3 21 0) &&& 31)) - (1 : Int32) : Int32) fun x6 =>
bd (C_SD_topSetOf G3 x6) fun r8 =>
nm (wf G3 28 r8) fun G11 =>
nm (wf G11 27 (0 : Int32)) fun G13 =>
bd (lp (fun q => C_SD_findLayers_s1 q.1 q.2.1 q.2.2) FU (x6, (0 : Int32), G13)) fun G19 =>
some G19)
else
(some G)
set_option maxRecDepth 100000 in
set_option maxHeartbeats 4000000 in
theorem cC_SD_findLayers (G : Nat → Nat → Int32) (E : Nat → Nat → Int64) (Dd : Nat → Nat → UInt64) (P : Nat → Option Nat) (L : List Nat) (pf : Nat → va_E)   (newG : Nat → Nat → Int32) (hf : C_SD_findLayers G = some newG) : sMv D (cT cI cJ cD cS) (cW ad cI cJ cD cS) l yX6_findLayers (ws1 yX6_findLayers cX6_findLayers 5 none) ({ frames := 3, cells := 0, slots := 0, locals := 72 }) [.ref (ad 16)] (G, E, Dd, P, L, pf) (newG, E, Dd, P, L, pf) := by
  unfold C_SD_findLayers at hf
  refine sMv_of (by decide) (Nat.le_of_ble_eq_true rfl) ?_
  intro p e R s m args below meth c A Q ls H lo F hRf hRl I hl ret
  obtain ⟨hx, hb, hml, hown, hG⟩ := id F
  replace hl : lv_has ls 5 [(0, .ref (ad 16))] := hl
  refine lv_aload_n hx hb dX6_findLayers_0 rfl (lv_at hl 0 rfl) ?_
  refine kgtX6_44_16 F I dX6_findLayers_1 ?_
  refine lv_if_eq (tgt := 8) hx hb dX6_findLayers_4 (by decide) (fun c59 => ?_) (fun c59 => ?_)
  · replace hf := (if_pos c59).symm.trans hf
    refine lv_aload_n hx hb dX6_findLayers_8 rfl (lv_at hl 0 rfl) ?_
    refine lv_iconst (v := (1 : Int32)) hx hb dX6_findLayers_9 (by decide) ?_
    refine kptX6_44_16 F I (by decide) dX6_findLayers_10 ?_
    intro H_2 lo_2 G1 eG1 I_2
    replace hf := nm_some eG1 hf
    refine lv_aload_n hx hb dX6_findLayers_13 rfl (lv_at hl 0 rfl) ?_
    obtain ⟨G3, h4, hf⟩ := bd_some hf
    refine s_callVv (As := []) (rest := []) F I_2 (cC_SD_findBeaters G1 E Dd P L pf G3 h4) kX6_149 ⟨rfl, rfl⟩ ⟨Nat.le_trans (Nat.le_of_ble_eq_true rfl) hRf, Nat.le_trans (Nat.le_of_ble_eq_true rfl) hRl⟩ 16 6 rfl rfl rfl rfl rfl hl.1 (Nat.le_of_ble_eq_true rfl) ⟨Nat.zero_le _, Nat.zero_le _⟩ dX6_findLayers_14 ?_
    intro H_5 lo_5 I_5
    refine lv_iconst (v := (1 : Int32)) hx hb dX6_findLayers_17 (by decide) ?_
    refine lv_aload_n hx hb dX6_findLayers_18 rfl (lv_at hl 0 rfl) ?_
    refine kgtX6_9_16 F I_5 dX6_findLayers_19 ?_
    refine lv_ishl hx hb dX6_findLayers_22 ?_
    refine lv_iconst (v := (1 : Int32)) hx hb dX6_findLayers_23 (by decide) ?_
    refine lv_isub hx hb dX6_findLayers_24 ?_
    refine lv_topi (fun x6 ex6 => ?_)
    replace hf := nm_some ex6 hf
    refine lv_istore_n (lv' := [(1, .int x6), (0, .ref (ad 16))]) hx hb dX6_findLayers_25 rfl hl (by decide) rfl (fun ls_7 hl_7 => ?_)
    refine lv_aload_n hx hb dX6_findLayers_26 rfl (lv_at hl_7 1 rfl) ?_
    refine lv_aload_n hx hb dX6_findLayers_27 rfl (lv_at hl_7 1 rfl) ?_
    refine lv_iload_n hx hb dX6_findLayers_28 rfl (lv_at hl_7 0 rfl) ?_
    obtain ⟨r8, h9, hf⟩ := bd_some hf
    refine s_callVi (As := [.int x6]) (rest := [.ref (ad 16)]) F I_5 (cC_SD_topSetOf G3 E Dd P L pf x6 r8 h9) kX6_152 ⟨rfl, rfl⟩ ⟨Nat.le_trans (Nat.le_of_ble_eq_true rfl) hRf, Nat.le_trans (Nat.le_of_ble_eq_true rfl) hRl⟩ 16 6 rfl rfl rfl rfl rfl hl_7.1 (Nat.le_of_ble_eq_true rfl) ⟨Nat.zero_le _, Nat.zero_le _⟩ dX6_findLayers_29 ?_
    intro H_10 lo_10 I_10
    refine kptX6_41_16 F I_10 dX6_findLayers_32 ?_
    intro H_12 lo_12 G11 eG11 I_12
    replace hf := nm_some eG11 hf
    refine lv_aload_n hx hb dX6_findLayers_35 rfl (lv_at hl_7 1 rfl) ?_
    refine lv_iconst (v := (0 : Int32)) hx hb dX6_findLayers_36 (by decide) ?_
    refine kptX6_38_16 F I_12 dX6_findLayers_37 ?_
    intro H_14 lo_14 G13 eG13 I_14
    replace hf := nm_some eG13 hf
    refine lv_iconst (v := (0 : Int32)) hx hb dX6_findLayers_40 (by decide) ?_
    refine lv_istore_n (lv' := [(2, .int (0 : Int32)), (1, .int x6), (0, .ref (ad 16))]) hx hb dX6_findLayers_41 rfl hl_7 (by decide) rfl (fun ls_15 hl_15 => ?_)
    obtain ⟨G19, hq1, hf⟩ := bd_some hf
    have K1 : ∀ (H : Heap) (locs : List Loc), sInv D (cT cI cJ cD cS) (cW ad cI cJ cD cS) A s H locs (G19, E, Dd, P, L, pf) → ∀ (ls : Array Slot), lv_has ls 5 [] → W p l e R s m args below meth c H locs 0 0 Q (F0 m 117 ls []) := by
      intro H_20 lo_20 I_20 ls_21 hl_21
      cases hf
      exact ret H_20 lo_20 _ ls_21 I_20 dX6_findLayers_117
    have L1 : ∀ (n : Nat) (x16 : Int32) (x17 : Int32) (G18 : Nat → Nat → Int32), lp (fun q => C_SD_findLayers_s1 q.1 q.2.1 q.2.2) n (x16, x17, G18) = some G19 → ∀ (H : Heap) (locs : List Loc), sInv D (cT cI cJ cD cS) (cW ad cI cJ cD cS) A s H locs (G18, E, Dd, P, L, pf) → ∀ (ls : Array Slot), lv_has ls 5 [(0, .ref (ad 16)), (1, .int x16), (2, .int x17)] → W p l e R s m args below meth c H locs 0 0 Q (F0 m 42 ls []) := by
      intro n
      induction n with
      | zero => intro x16 x17 G18 hq; exact (lp_0 hq).elim
      | succ n ih1 =>
        intro x16 x17 G18 hq H_22 lo_22 I_22 ls_23 hl_23
        obtain ⟨y1, hf, hK1⟩ := lp_go hq
        replace hf : C_SD_findLayers_s1 x16 x17 G18 = some y1 := hf
        unfold C_SD_findLayers_s1 at hf
        refine lv_iload_n hx hb dX6_findLayers_42 rfl (lv_at hl_23 2 rfl) ?_
        refine lv_aload_n hx hb dX6_findLayers_43 rfl (lv_at hl_23 0 rfl) ?_
        refine kgtX6_9_16 F I_22 dX6_findLayers_44 ?_
        refine lv_icmp_ge (tgt := 117) hx hb dX6_findLayers_47 (by decide) (fun c58 => ?_) (fun c58 => ?_)
        · replace hf := (if_pos c58).symm.trans hf
          cases hf
          cases (show G18 = G19 from hK1)
          exact K1 H_22 lo_22 I_22 ls_23 (lv_sub hl_23 [] rfl)
        · replace hf := (if_neg c58).symm.trans hf
          refine lv_iload_n hx hb dX6_findLayers_50 rfl (lv_at hl_23 1 rfl) ?_
          refine lv_if_eq (tgt := 117) hx hb dX6_findLayers_51 (by decide) (fun c57 => ?_) (fun c57 => ?_)
          · replace hf := (if_pos c57).symm.trans hf
            cases hf
            cases (show G18 = G19 from hK1)
            exact K1 H_22 lo_22 I_22 ls_23 (lv_sub hl_23 [] rfl)
          · replace hf := (if_neg c57).symm.trans hf
            refine lv_aload_n hx hb dX6_findLayers_54 rfl (lv_at hl_23 0 rfl) ?_
            refine lv_iload_n hx hb dX6_findLayers_55 rfl (lv_at hl_23 1 rfl) ?_
            obtain ⟨r24, h25, hf⟩ := bd_some hf
            refine s_callVi (As := [.int x16]) (rest := []) F I_22 (cC_SD_topSetOf G18 E Dd P L pf x16 r24 h25) kX6_152 ⟨rfl, rfl⟩ ⟨Nat.le_trans (Nat.le_of_ble_eq_true rfl) hRf, Nat.le_trans (Nat.le_of_ble_eq_true rfl) hRl⟩ 16 6 rfl rfl rfl rfl rfl hl_23.1 (Nat.le_of_ble_eq_true rfl) ⟨Nat.zero_le _, Nat.zero_le _⟩ dX6_findLayers_56 ?_
            intro H_26 lo_26 I_26
            refine lv_istore_n (lv' := [(3, .int r24), (0, .ref (ad 16)), (1, .int x16), (2, .int x17)]) hx hb dX6_findLayers_59 rfl hl_23 (by decide) rfl (fun ls_27 hl_27 => ?_)
            refine lv_iconst (v := (0 : Int32)) hx hb dX6_findLayers_60 (by decide) ?_
            refine lv_istore (lv' := [(4, .int (0 : Int32)), (3, .int r24), (0, .ref (ad 16)), (1, .int x16), (2, .int x17)]) hx hb dX6_findLayers_61 hl_27 (by decide) rfl (fun ls_28 hl_28 => ?_)
            obtain ⟨G31, hq2, hf⟩ := bd_some hf
            have K2 : ∀ (H : Heap) (locs : List Loc), sInv D (cT cI cJ cD cS) (cW ad cI cJ cD cS) A s H locs (G31, E, Dd, P, L, pf) → ∀ (ls : Array Slot), lv_has ls 5 [(0, .ref (ad 16)), (1, .int x16), (2, .int x17), (3, .int r24)] → W p l e R s m args below meth c H locs 0 0 Q (F0 m 95 ls []) := by
              intro H_32 lo_32 I_32 ls_33 hl_33
              refine lv_aload_n hx hb dX6_findLayers_95 rfl (lv_at hl_33 0 rfl) ?_
              refine lv_dup hx hb dX6_findLayers_96 rfl ?_
              refine kgtX6_38_16 F I_32 dX6_findLayers_97 ?_
              refine lv_iconst (v := (1 : Int32)) hx hb dX6_findLayers_100 (by decide) ?_
              refine lv_iadd hx hb dX6_findLayers_101 ?_
              refine kptX6_38_16 F I_32 dX6_findLayers_102 ?_
              intro H_35 lo_35 G34 eG34 I_35
              replace hf := nm_some eG34 hf
              refine lv_iload_n hx hb dX6_findLayers_105 rfl (lv_at hl_33 1 rfl) ?_
              refine lv_iload_n hx hb dX6_findLayers_106 rfl (lv_at hl_33 3 rfl) ?_
              refine lv_iconst (v := (-1 : Int32)) hx hb dX6_findLayers_107 (by decide) ?_
              refine lv_ixor hx hb dX6_findLayers_108 ?_
              refine lv_iand hx hb dX6_findLayers_109 ?_
              refine lv_topi (fun x36 ex36 => ?_)
              replace hf := nm_some ex36 hf
              refine lv_istore_n (lv' := [(1, .int x36), (0, .ref (ad 16)), (2, .int x17), (3, .int r24)]) hx hb dX6_findLayers_110 rfl hl_33 (by decide) rfl (fun ls_37 hl_37 => ?_)
              obtain ⟨x38, ex38⟩ : ∃ y : Int32, y = x17 + (1 : Int32) := ⟨_, rfl⟩
              replace hf := nm_some ex38 hf
              refine lv_iinc (v := x38) (lv' := [(2, .int x38), (1, .int x36), (0, .ref (ad 16)), (3, .int r24)]) hx hb dX6_findLayers_111 hl_37 (k := 2) rfl (by rw [ex38]; rfl) (by decide) rfl (fun ls_39 hl_39 => ?_)
              refine lv_goto (tgt := 42) hx hb dX6_findLayers_114 (by decide) ?_
              cases hf
              exact ih1 _ _ _ hK1 H_35 lo_35 I_35 ls_39 (lv_sub hl_39 [2, 1, 0] rfl)
            have L2 : ∀ (n : Nat) (x29 : Int32) (G30 : Nat → Nat → Int32), lp (fun q => C_SD_findLayers_s2 x17 r24 q.1 q.2) n (x29, G30) = some G31 → ∀ (H : Heap) (locs : List Loc), sInv D (cT cI cJ cD cS) (cW ad cI cJ cD cS) A s H locs (G30, E, Dd, P, L, pf) → ∀ (ls : Array Slot), lv_has ls 5 [(0, .ref (ad 16)), (1, .int x16), (2, .int x17), (3, .int r24), (4, .int x29)] → W p l e R s m args below meth c H locs 0 0 Q (F0 m 63 ls []) := by
              intro n
              induction n with
              | zero => intro x29 G30 hq; exact (lp_0 hq).elim
              | succ n ih2 =>
                intro x29 G30 hq H_40 lo_40 I_40 ls_41 hl_41
                obtain ⟨y2, hf, hK2⟩ := lp_go hq
                replace hf : C_SD_findLayers_s2 x17 r24 x29 G30 = some y2 := hf
                unfold C_SD_findLayers_s2 at hf
                refine lv_iload hx hb dX6_findLayers_63 (lv_at hl_41 4 rfl) ?_
                refine lv_aload_n hx hb dX6_findLayers_65 rfl (lv_at hl_41 0 rfl) ?_
                refine kgtX6_9_16 F I_40 dX6_findLayers_66 ?_
                refine lv_icmp_ge (tgt := 95) hx hb dX6_findLayers_69 (by decide) (fun c56 => ?_) (fun c56 => ?_)
                · replace hf := (if_pos c56).symm.trans hf
                  cases hf
                  cases (show G30 = G31 from hK2)
                  exact K2 H_40 lo_40 I_40 ls_41 (lv_sub hl_41 [0, 1, 2, 3] rfl)
                · replace hf := (if_neg c56).symm.trans hf
                  refine lv_iload_n hx hb dX6_findLayers_72 rfl (lv_at hl_41 3 rfl) ?_
                  refine lv_iload hx hb dX6_findLayers_73 (lv_at hl_41 4 rfl) ?_
                  obtain ⟨r42, h43, hf⟩ := bd_some hf
                  refine s_callSNi (As := [.int r24, .int x29]) (rest := []) F I_40 (cC_LT_contains G30 E Dd P L pf r24 x29 r42 h43) kX6_155 ⟨rfl, rfl⟩ ⟨Nat.le_trans (Nat.le_of_ble_eq_true rfl) hRf, Nat.le_trans (Nat.le_of_ble_eq_true rfl) hRl⟩ rfl rfl hl_41.1 (Nat.le_of_ble_eq_true rfl) ⟨Nat.zero_le _, Nat.zero_le _⟩ dX6_findLayers_75 ?_
                  intro H_44 lo_44 I_44
                  obtain ⟨G46, hv51, hf⟩ := bd_some hf
                  have J45 : ∀ (H : Heap) (locs : List Loc), sInv D (cT cI cJ cD cS) (cW ad cI cJ cD cS) A s H locs (G46, E, Dd, P, L, pf) → ∀ (ls : Array Slot), lv_has ls 5 [(0, .ref (ad 16)), (1, .int x16), (2, .int x17), (3, .int r24), (4, .int x29)] → W p l e R s m args below meth c H locs 0 0 Q (F0 m 89 ls []) := by
                    intro H_47 lo_47 I_47 ls_48 hl_48
                    obtain ⟨x49, ex49⟩ : ∃ y : Int32, y = x29 + (1 : Int32) := ⟨_, rfl⟩
                    replace hf := nm_some ex49 hf
                    refine lv_iinc (v := x49) (lv' := [(4, .int x49), (0, .ref (ad 16)), (1, .int x16), (2, .int x17), (3, .int r24)]) hx hb dX6_findLayers_89 hl_48 (k := 4) rfl (by rw [ex49]; rfl) (by decide) rfl (fun ls_50 hl_50 => ?_)
                    refine lv_goto (tgt := 63) hx hb dX6_findLayers_92 (by decide) ?_
                    cases hf
                    exact ih2 _ _ hK2 H_47 lo_47 I_47 ls_50 (lv_sub hl_50 [1, 2, 3, 4, 0] rfl)
                  replace hf := hv51
                  refine lv_if_eq (tgt := 89) hx hb dX6_findLayers_78 (by decide) (fun c55 => ?_) (fun c55 => ?_)
                  · replace hf := (if_pos c55).symm.trans hf
                    cases hf
                    exact J45 H_44 lo_44 I_44 ls_41 (lv_sub hl_41 [0, 1, 2, 3, 4] rfl)
                  · replace hf := (if_neg c55).symm.trans hf
                    refine lv_aload_n hx hb dX6_findLayers_81 rfl (lv_at hl_41 0 rfl) ?_
                    refine kgtX6_35_16 F I_44 dX6_findLayers_82 ?_
                    refine lv_iload hx hb dX6_findLayers_85 (lv_at hl_41 4 rfl) ?_
                    refine lv_iload_n hx hb dX6_findLayers_87 rfl (lv_at hl_41 2 rfl) ?_
                    obtain ⟨g52, hf⟩ := ri_some hf
                    refine kas21 F I_44 g52 dX6_findLayers_88 ?_
                    intro H_54 lo_54 G53 eG53 I_54
                    replace hf := nm_some eG53 hf
                    cases hf
                    exact J45 H_54 lo_54 I_54 ls_41 (lv_sub hl_41 [0, 1, 2, 3, 4] rfl)
            exact L2 FU _ _ hq2 H_26 lo_26 I_26 ls_28 (lv_sub hl_28 [2, 3, 4, 1, 0] rfl)
    exact L1 FU _ _ _ hq1 H_14 lo_14 I_14 ls_15 (lv_sub hl_15 [2, 1, 0] rfl)
  · replace hf := (if_neg c59).symm.trans hf
    cases hf
    exact ret H lo _ ls I dX6_findLayers_7
def C_SD_propertyOf (G : Nat → Nat → Int32) (a1 : Int32) (a2 : Int32) : Option (Int32 × (Nat → Nat → Int32)) :=
if a2 = (0 : Int32) then
(ri 8 (a1 &&& (7 : Int32)) <|
some (G 23 (a1 &&& (7 : Int32)).toNatClampNeg, G))
else if a2 = (1 : Int32) then
(bd (C_SD_rankIn_18 G a1) fun r4 =>
some (r4, G))
else if a2 = (2 : Int32) then
(bd2 (C_SD_isStable G a1) fun r8 G9 =>
if r8 = 0 then
(some ((0 : Int32), G9))
else
(some ((1 : Int32), G9)))
else if a2 = (3 : Int32) then
(bd (C_SD_dominanceOf G a1) fun r14 =>
some (r14, G))
else if a2 = (4 : Int32) then
(bd (C_SD_findLayers G) fun G18 =>
ri 8 (a1 &&& (7 : Int32)) <|
some (G18 26 (a1 &&& (7 : Int32)).toNatClampNeg, G18))
else (bd (C_BO_find_22 G (G 21 0)) fun G22 =>
bd (C_BO_placeOf G22 a1) fun r25 =>
some (r25, G22))
set_option maxRecDepth 100000 in
set_option maxHeartbeats 4000000 in
theorem cC_SD_propertyOf (G : Nat → Nat → Int32) (E : Nat → Nat → Int64) (Dd : Nat → Nat → UInt64) (P : Nat → Option Nat) (L : List Nat) (pf : Nat → va_E) (a1 : Int32) (a2 : Int32) (rv : Int32) (newG : Nat → Nat → Int32) (hf : C_SD_propertyOf G a1 a2 = some (rv, newG)) : sMi D (cT cI cJ cD cS) (cW ad cI cJ cD cS) l yX6_propertyOf (ws1 yX6_propertyOf cX6_propertyOf 4 (some .int)) ({ frames := 4, cells := 0, slots := 0, locals := 96 }) [.ref (ad 16), .ref (ad 2), .int a1, .int a2] (G, E, Dd, P, L, pf) (rv, (newG, E, Dd, P, L, pf)) := by
  unfold C_SD_propertyOf at hf
  refine sMi_of (by decide) (Nat.le_of_ble_eq_true rfl) ?_
  intro p e R s m args below meth c A Q ls H lo F hRf hRl I hl ret
  obtain ⟨hx, hb, hml, hown, hG⟩ := id F
  replace hl : lv_has ls 4 [(0, .ref (ad 16)), (1, .ref (ad 2)), (2, .int a1), (3, .int a2)] := hl
  refine lv_iload_n hx hb dX6_propertyOf_0 rfl (lv_at hl 3 rfl) ?_
  by_cases c1 : a2 = (0 : Int32)
  · replace hf := (if_pos c1).symm.trans hf
    refine lv_tableIn (off := 35) (tgt := 36) hx hb dX6_propertyOf_1 (by rw [c1]; decide) (by rw [c1]; decide) (by rw [c1]; rfl) (by decide) ?_
    refine lv_aload_n hx hb dX6_propertyOf_36 rfl (lv_at hl 0 rfl) ?_
    refine kgtX6_26_16 F I dX6_propertyOf_37 ?_
    refine lv_iload_n hx hb dX6_propertyOf_40 rfl (lv_at hl 2 rfl) ?_
    refine lv_bipush (v := (7 : Int32)) hx hb dX6_propertyOf_41 (by decide) ?_
    refine lv_iand hx hb dX6_propertyOf_43 ?_
    obtain ⟨g2, hf⟩ := ri_some hf
    refine kal18 F I g2 dX6_propertyOf_44 ?_
    cases hf
    exact ret H lo _ ls I dX6_propertyOf_45
  replace hf := (if_neg c1).symm.trans hf
  by_cases c3 : a2 = (1 : Int32)
  · replace hf := (if_pos c3).symm.trans hf
    refine lv_tableIn (off := 45) (tgt := 46) hx hb dX6_propertyOf_1 (by rw [c3]; decide) (by rw [c3]; decide) (by rw [c3]; rfl) (by decide) ?_
    refine lv_aload_n hx hb dX6_propertyOf_46 rfl (lv_at hl 0 rfl) ?_
    refine lv_aload_n hx hb dX6_propertyOf_47 rfl (lv_at hl 0 rfl) ?_
    refine kgtX6_26_16 F I dX6_propertyOf_48 ?_
    refine lv_iload_n hx hb dX6_propertyOf_51 rfl (lv_at hl 2 rfl) ?_
    obtain ⟨r4, h5, hf⟩ := bd_some hf
    refine s_callVi (As := [.ref (ad 18), .int a1]) (rest := []) F I (cC_SD_rankIn_18 G E Dd P L pf a1 r4 h5) kX6_93 ⟨rfl, rfl⟩ ⟨Nat.le_trans (Nat.le_of_ble_eq_true rfl) hRf, Nat.le_trans (Nat.le_of_ble_eq_true rfl) hRl⟩ 16 6 rfl rfl rfl rfl rfl hl.1 (Nat.le_of_ble_eq_true rfl) ⟨Nat.zero_le _, Nat.zero_le _⟩ dX6_propertyOf_52 ?_
    intro H_6 lo_6 I_6
    cases hf
    exact ret H_6 lo_6 _ ls I_6 dX6_propertyOf_55
  replace hf := (if_neg c3).symm.trans hf
  by_cases c7 : a2 = (2 : Int32)
  · replace hf := (if_pos c7).symm.trans hf
    refine lv_tableIn (off := 55) (tgt := 56) hx hb dX6_propertyOf_1 (by rw [c7]; decide) (by rw [c7]; decide) (by rw [c7]; rfl) (by decide) ?_
    refine lv_aload_n hx hb dX6_propertyOf_56 rfl (lv_at hl 0 rfl) ?_
    refine lv_aload_n hx hb dX6_propertyOf_57 rfl (lv_at hl 1 rfl) ?_
    refine lv_iload_n hx hb dX6_propertyOf_58 rfl (lv_at hl 2 rfl) ?_
    obtain ⟨r8, G9, h10, hf⟩ := bd2_some hf
    refine s_callVi (As := [.ref (ad 2), .int a1]) (rest := []) F I (cC_SD_isStable G E Dd P L pf a1 r8 G9 h10) kX6_97 ⟨rfl, rfl⟩ ⟨Nat.le_trans (Nat.le_of_ble_eq_true rfl) hRf, Nat.le_trans (Nat.le_of_ble_eq_true rfl) hRl⟩ 16 6 rfl rfl rfl rfl rfl hl.1 (Nat.le_of_ble_eq_true rfl) ⟨Nat.zero_le _, Nat.zero_le _⟩ dX6_propertyOf_59 ?_
    intro H_11 lo_11 I_11
    refine lv_if_eq (tgt := 69) hx hb dX6_propertyOf_62 (by decide) (fun c12 => ?_) (fun c12 => ?_)
    · replace hf := (if_pos c12).symm.trans hf
      refine lv_iconst (v := (0 : Int32)) hx hb dX6_propertyOf_69 (by decide) ?_
      cases hf
      exact ret H_11 lo_11 _ ls I_11 dX6_propertyOf_70
    · replace hf := (if_neg c12).symm.trans hf
      refine lv_iconst (v := (1 : Int32)) hx hb dX6_propertyOf_65 (by decide) ?_
      refine lv_goto (tgt := 70) hx hb dX6_propertyOf_66 (by decide) ?_
      cases hf
      exact ret H_11 lo_11 _ ls I_11 dX6_propertyOf_70
  replace hf := (if_neg c7).symm.trans hf
  by_cases c13 : a2 = (3 : Int32)
  · replace hf := (if_pos c13).symm.trans hf
    refine lv_tableIn (off := 70) (tgt := 71) hx hb dX6_propertyOf_1 (by rw [c13]; decide) (by rw [c13]; decide) (by rw [c13]; rfl) (by decide) ?_
    refine lv_aload_n hx hb dX6_propertyOf_71 rfl (lv_at hl 0 rfl) ?_
    refine lv_iload_n hx hb dX6_propertyOf_72 rfl (lv_at hl 2 rfl) ?_
    obtain ⟨r14, h15, hf⟩ := bd_some hf
    refine s_callVi (As := [.int a1]) (rest := []) F I (cC_SD_dominanceOf G E Dd P L pf a1 r14 h15) kX6_101 ⟨rfl, rfl⟩ ⟨Nat.le_trans (Nat.le_of_ble_eq_true rfl) hRf, Nat.le_trans (Nat.le_of_ble_eq_true rfl) hRl⟩ 16 6 rfl rfl rfl rfl rfl hl.1 (Nat.le_of_ble_eq_true rfl) ⟨Nat.zero_le _, Nat.zero_le _⟩ dX6_propertyOf_73 ?_
    intro H_16 lo_16 I_16
    cases hf
    exact ret H_16 lo_16 _ ls I_16 dX6_propertyOf_76
  replace hf := (if_neg c13).symm.trans hf
  by_cases c17 : a2 = (4 : Int32)
  · replace hf := (if_pos c17).symm.trans hf
    refine lv_tableIn (off := 76) (tgt := 77) hx hb dX6_propertyOf_1 (by rw [c17]; decide) (by rw [c17]; decide) (by rw [c17]; rfl) (by decide) ?_
    refine lv_aload_n hx hb dX6_propertyOf_77 rfl (lv_at hl 0 rfl) ?_
    obtain ⟨G18, h19, hf⟩ := bd_some hf
    refine s_callVv (As := []) (rest := []) F I (cC_SD_findLayers G E Dd P L pf G18 h19) kX6_104 ⟨rfl, rfl⟩ ⟨Nat.le_trans (Nat.le_of_ble_eq_true rfl) hRf, Nat.le_trans (Nat.le_of_ble_eq_true rfl) hRl⟩ 16 6 rfl rfl rfl rfl rfl hl.1 (Nat.le_of_ble_eq_true rfl) ⟨Nat.zero_le _, Nat.zero_le _⟩ dX6_propertyOf_78 ?_
    intro H_20 lo_20 I_20
    refine lv_aload_n hx hb dX6_propertyOf_81 rfl (lv_at hl 0 rfl) ?_
    refine kgtX6_35_16 F I_20 dX6_propertyOf_82 ?_
    refine lv_iload_n hx hb dX6_propertyOf_85 rfl (lv_at hl 2 rfl) ?_
    refine lv_bipush (v := (7 : Int32)) hx hb dX6_propertyOf_86 (by decide) ?_
    refine lv_iand hx hb dX6_propertyOf_88 ?_
    obtain ⟨g21, hf⟩ := ri_some hf
    refine kal21 F I_20 g21 dX6_propertyOf_89 ?_
    cases hf
    exact ret H_20 lo_20 _ ls I_20 dX6_propertyOf_90
  replace hf := (if_neg c17).symm.trans hf
  refine lv_tableOut (tgt := 91) hx hb dX6_propertyOf_1 (tsw4 c1 c3 c7 c13 c17) (by decide) ?_
  refine lv_aload_n hx hb dX6_propertyOf_91 rfl (lv_at hl 0 rfl) ?_
  refine kgtX6_51_16 F I dX6_propertyOf_92 ?_
  refine lv_aload_n hx hb dX6_propertyOf_95 rfl (lv_at hl 0 rfl) ?_
  refine kgtX6_22_16 F I dX6_propertyOf_96 ?_
  refine lv_aload_n hx hb dX6_propertyOf_99 rfl (lv_at hl 0 rfl) ?_
  refine kgtX6_9_16 F I dX6_propertyOf_100 ?_
  obtain ⟨G22, h23, hf⟩ := bd_some hf
  refine s_callVv (As := [.ref (ad 22), .int (G 21 0)]) (rest := []) F I (cC_BO_find_22 G E Dd P L pf (G 21 0) G22 h23) kX6_107 ⟨rfl, rfl⟩ ⟨Nat.le_trans (Nat.le_of_ble_eq_true rfl) hRf, Nat.le_trans (Nat.le_of_ble_eq_true rfl) hRl⟩ 24 0 rfl rfl rfl rfl rfl hl.1 (Nat.le_of_ble_eq_true rfl) ⟨Nat.zero_le _, Nat.zero_le _⟩ dX6_propertyOf_103 ?_
  intro H_24 lo_24 I_24
  refine lv_aload_n hx hb dX6_propertyOf_106 rfl (lv_at hl 0 rfl) ?_
  refine kgtX6_51_16 F I_24 dX6_propertyOf_107 ?_
  refine lv_iload_n hx hb dX6_propertyOf_110 rfl (lv_at hl 2 rfl) ?_
  obtain ⟨r25, h26, hf⟩ := bd_some hf
  refine s_callVi (As := [.int a1]) (rest := []) F I_24 (cC_BO_placeOf G22 E Dd P L pf a1 r25 h26) kX6_111 ⟨rfl, rfl⟩ ⟨Nat.le_trans (Nat.le_of_ble_eq_true rfl) hRf, Nat.le_trans (Nat.le_of_ble_eq_true rfl) hRl⟩ 24 0 rfl rfl rfl rfl rfl hl.1 (Nat.le_of_ble_eq_true rfl) ⟨Nat.zero_le _, Nat.zero_le _⟩ dX6_propertyOf_111 ?_
  intro H_27 lo_27 I_27
  cases hf
  exact ret H_27 lo_27 _ ls I_27 dX6_propertyOf_114
def C_LE_isRing_22 (G : Nat → Nat → Int32) (a0 : Int32) (a1 : Int32) (a2 : Int32) : Option (Int32) :=
bd (C_LE_isAhead_22 G a0 a1) fun r1 =>
if r1 = 0 then
(some (0 : Int32))
else
(bd (C_LE_isAhead_22 G a1 a2) fun r4 =>
if r4 = 0 then
(some (0 : Int32))
else
(bd (C_LE_isAhead_22 G a2 a0) fun r7 =>
if r7 = 0 then
(some (0 : Int32))
else
(some (1 : Int32))))
set_option maxRecDepth 100000 in
set_option maxHeartbeats 4000000 in
theorem cC_LE_isRing_22 (G : Nat → Nat → Int32) (E : Nat → Nat → Int64) (Dd : Nat → Nat → UInt64) (P : Nat → Option Nat) (L : List Nat) (pf : Nat → va_E) (a0 : Int32) (a1 : Int32) (a2 : Int32) (rv : Int32)  (hf : C_LE_isRing_22 G a0 a1 a2 = some rv) : sMi D (cT cI cJ cD cS) (cW ad cI cJ cD cS) l yX3_isRing (ws1 yX3_isRing cX3_isRing 4 (some .boolean)) ({ frames := 2, cells := 0, slots := 0, locals := 43 }) [.ref (ad 22), .int a0, .int a1, .int a2] (G, E, Dd, P, L, pf) (rv, (G, E, Dd, P, L, pf)) := by
  unfold C_LE_isRing_22 at hf
  refine sMz_of (by decide) (Nat.le_of_ble_eq_true rfl) ?_
  intro p e R s m args below meth c A Q ls H lo F hRf hRl I hl ret
  obtain ⟨hx, hb, hml, hown, hG⟩ := id F
  replace hl : lv_has ls 4 [(0, .ref (ad 22)), (1, .int a0), (2, .int a1), (3, .int a2)] := hl
  refine lv_aload_n hx hb dX3_isRing_0 rfl (lv_at hl 0 rfl) ?_
  refine lv_iload_n hx hb dX3_isRing_1 rfl (lv_at hl 1 rfl) ?_
  refine lv_iload_n hx hb dX3_isRing_2 rfl (lv_at hl 2 rfl) ?_
  obtain ⟨r1, h2, hf⟩ := bd_some hf
  refine s_callVi (As := [.int a0, .int a1]) (rest := []) F I (cC_LE_isAhead_22 G E Dd P L pf a0 a1 r1 h2) kX3_61 ⟨rfl, rfl⟩ ⟨Nat.le_trans (Nat.le_of_ble_eq_true rfl) hRf, Nat.le_trans (Nat.le_of_ble_eq_true rfl) hRl⟩ 22 3 rfl rfl rfl rfl rfl hl.1 (Nat.le_of_ble_eq_true rfl) ⟨Nat.zero_le _, Nat.zero_le _⟩ dX3_isRing_3 ?_
  intro H_3 lo_3 I_3
  refine lv_if_eq (tgt := 31) hx hb dX3_isRing_6 (by decide) (fun c12 => ?_) (fun c12 => ?_)
  · replace hf := (if_pos c12).symm.trans hf
    refine lv_iconst (v := (0 : Int32)) hx hb dX3_isRing_31 (by decide) ?_
    cases hf
    exact ret H_3 lo_3 _ ls I_3 (Or.inl rfl) dX3_isRing_32
  · replace hf := (if_neg c12).symm.trans hf
    refine lv_aload_n hx hb dX3_isRing_9 rfl (lv_at hl 0 rfl) ?_
    refine lv_iload_n hx hb dX3_isRing_10 rfl (lv_at hl 2 rfl) ?_
    refine lv_iload_n hx hb dX3_isRing_11 rfl (lv_at hl 3 rfl) ?_
    obtain ⟨r4, h5, hf⟩ := bd_some hf
    refine s_callVi (As := [.int a1, .int a2]) (rest := []) F I_3 (cC_LE_isAhead_22 G E Dd P L pf a1 a2 r4 h5) kX3_61 ⟨rfl, rfl⟩ ⟨Nat.le_trans (Nat.le_of_ble_eq_true rfl) hRf, Nat.le_trans (Nat.le_of_ble_eq_true rfl) hRl⟩ 22 3 rfl rfl rfl rfl rfl hl.1 (Nat.le_of_ble_eq_true rfl) ⟨Nat.zero_le _, Nat.zero_le _⟩ dX3_isRing_12 ?_
    intro H_6 lo_6 I_6
    refine lv_if_eq (tgt := 31) hx hb dX3_isRing_15 (by decide) (fun c11 => ?_) (fun c11 => ?_)
    · replace hf := (if_pos c11).symm.trans hf
      refine lv_iconst (v := (0 : Int32)) hx hb dX3_isRing_31 (by decide) ?_
      cases hf
      exact ret H_6 lo_6 _ ls I_6 (Or.inl rfl) dX3_isRing_32
    · replace hf := (if_neg c11).symm.trans hf
      refine lv_aload_n hx hb dX3_isRing_18 rfl (lv_at hl 0 rfl) ?_
      refine lv_iload_n hx hb dX3_isRing_19 rfl (lv_at hl 3 rfl) ?_
      refine lv_iload_n hx hb dX3_isRing_20 rfl (lv_at hl 1 rfl) ?_
      obtain ⟨r7, h8, hf⟩ := bd_some hf
      refine s_callVi (As := [.int a2, .int a0]) (rest := []) F I_6 (cC_LE_isAhead_22 G E Dd P L pf a2 a0 r7 h8) kX3_61 ⟨rfl, rfl⟩ ⟨Nat.le_trans (Nat.le_of_ble_eq_true rfl) hRf, Nat.le_trans (Nat.le_of_ble_eq_true rfl) hRl⟩ 22 3 rfl rfl rfl rfl rfl hl.1 (Nat.le_of_ble_eq_true rfl) ⟨Nat.zero_le _, Nat.zero_le _⟩ dX3_isRing_21 ?_
      intro H_9 lo_9 I_9
      refine lv_if_eq (tgt := 31) hx hb dX3_isRing_24 (by decide) (fun c10 => ?_) (fun c10 => ?_)
      · replace hf := (if_pos c10).symm.trans hf
        refine lv_iconst (v := (0 : Int32)) hx hb dX3_isRing_31 (by decide) ?_
        cases hf
        exact ret H_9 lo_9 _ ls I_9 (Or.inl rfl) dX3_isRing_32
      · replace hf := (if_neg c10).symm.trans hf
        refine lv_iconst (v := (1 : Int32)) hx hb dX3_isRing_27 (by decide) ?_
        refine lv_goto (tgt := 32) hx hb dX3_isRing_28 (by decide) ?_
        cases hf
        exact ret H_9 lo_9 _ ls I_9 (Or.inr rfl) dX3_isRing_32
def C_LE_countRings_22_s3 (a0 : Int32) (x4 : Int32) (x13 : Int32) (G : Nat → Nat → Int32) (x23 : Int32) (x24 : Int32) : Option ((Int32 × Int32) ⊕ (Int32)) :=
if a0 ≤ x24 then
(some (.inr x23))
else
(bd (C_LE_isRing_22 G x4 x13 x24) fun r32 =>
bd (if r32 = 0 then
(bd (C_LE_isRing_22 G x24 x13 x4) fun r44 =>
if r44 = 0 then
(some x23)
else
(nm (x23 + (1 : Int32) : Int32) fun x47 =>
some x47))
else
(nm (x23 + (1 : Int32) : Int32) fun x42 =>
some x42)) fun x36 =>
nm (x24 + (1 : Int32) : Int32) fun x39 =>
some (.inl (x36, x39)))
def C_LE_countRings_22_s2 (a0 : Int32) (x4 : Int32) (G : Nat → Nat → Int32) (x12 : Int32) (x13 : Int32) : Option ((Int32 × Int32) ⊕ (Int32)) :=
if a0 ≤ x13 then
(some (.inr x12))
else
(nm (x13 + (1 : Int32) : Int32) fun x21 =>
bd (lp (fun q => C_LE_countRings_22_s3 a0 x4 x13 G q.1 q.2) FU (x12, x21)) fun r25 =>
nm (x13 + (1 : Int32) : Int32) fun x28 =>
some (.inl (r25, x28)))
def C_LE_countRings_22_s1 (a0 : Int32) (G : Nat → Nat → Int32) (x3 : Int32) (x4 : Int32) : Option ((Int32 × Int32) ⊕ (Int32)) :=
if a0 ≤ x4 then
(some (.inr x3))
else
(nm (x4 + (1 : Int32) : Int32) fun x10 =>
bd (lp (fun q => C_LE_countRings_22_s2 a0 x4 G q.1 q.2) FU (x3, x10)) fun r14 =>
nm (x4 + (1 : Int32) : Int32) fun x17 =>
some (.inl (r14, x17)))
def C_LE_countRings_22 (G : Nat → Nat → Int32) (a0 : Int32) : Option (Int32) :=
bd (lp (fun q => C_LE_countRings_22_s1 a0 G q.1 q.2) FU ((0 : Int32), (0 : Int32))) fun r5 =>
some r5
set_option maxRecDepth 100000 in
set_option maxHeartbeats 4000000 in
theorem cC_LE_countRings_22 (G : Nat → Nat → Int32) (E : Nat → Nat → Int64) (Dd : Nat → Nat → UInt64) (P : Nat → Option Nat) (L : List Nat) (pf : Nat → va_E) (a0 : Int32) (rv : Int32)  (hf : C_LE_countRings_22 G a0 = some rv) : sMi D (cT cI cJ cD cS) (cW ad cI cJ cD cS) l yX3_countRings (ws1 yX3_countRings cX3_countRings 6 (some .int)) ({ frames := 3, cells := 0, slots := 0, locals := 66 }) [.ref (ad 22), .int a0] (G, E, Dd, P, L, pf) (rv, (G, E, Dd, P, L, pf)) := by
  unfold C_LE_countRings_22 at hf
  refine sMi_of (by decide) (Nat.le_of_ble_eq_true rfl) ?_
  intro p e R s m args below meth c A Q ls H lo F hRf hRl I hl ret
  obtain ⟨hx, hb, hml, hown, hG⟩ := id F
  replace hl : lv_has ls 6 [(0, .ref (ad 22)), (1, .int a0)] := hl
  refine lv_iconst (v := (0 : Int32)) hx hb dX3_countRings_0 (by decide) ?_
  refine lv_istore_n (lv' := [(2, .int (0 : Int32)), (0, .ref (ad 22)), (1, .int a0)]) hx hb dX3_countRings_1 rfl hl (by decide) rfl (fun ls_1 hl_1 => ?_)
  refine lv_iconst (v := (0 : Int32)) hx hb dX3_countRings_2 (by decide) ?_
  refine lv_istore_n (lv' := [(3, .int (0 : Int32)), (2, .int (0 : Int32)), (0, .ref (ad 22)), (1, .int a0)]) hx hb dX3_countRings_3 rfl hl_1 (by decide) rfl (fun ls_2 hl_2 => ?_)
  obtain ⟨r5, hq1, hf⟩ := bd_some hf
  have K1 : ∀ (H : Heap) (locs : List Loc), sInv D (cT cI cJ cD cS) (cW ad cI cJ cD cS) A s H locs (G, E, Dd, P, L, pf) → ∀ (ls : Array Slot), lv_has ls 6 [(2, .int r5)] → W p l e R s m args below meth c H locs 0 0 Q (F0 m 77 ls []) := by
    intro H_6 lo_6 I_6 ls_7 hl_7
    refine lv_iload_n hx hb dX3_countRings_77 rfl (lv_at hl_7 0 rfl) ?_
    cases hf
    exact ret H_6 lo_6 _ ls_7 I_6 dX3_countRings_78
  have L1 : ∀ (n : Nat) (x3 : Int32) (x4 : Int32), lp (fun q => C_LE_countRings_22_s1 a0 G q.1 q.2) n (x3, x4) = some r5 → ∀ (H : Heap) (locs : List Loc), sInv D (cT cI cJ cD cS) (cW ad cI cJ cD cS) A s H locs (G, E, Dd, P, L, pf) → ∀ (ls : Array Slot), lv_has ls 6 [(0, .ref (ad 22)), (1, .int a0), (2, .int x3), (3, .int x4)] → W p l e R s m args below meth c H locs 0 0 Q (F0 m 4 ls []) := by
    intro n
    induction n with
    | zero => intro x3 x4 hq; exact (lp_0 hq).elim
    | succ n ih1 =>
      intro x3 x4 hq H_8 lo_8 I_8 ls_9 hl_9
      obtain ⟨y1, hf, hK1⟩ := lp_go hq
      replace hf : C_LE_countRings_22_s1 a0 G x3 x4 = some y1 := hf
      unfold C_LE_countRings_22_s1 at hf
      refine lv_iload_n hx hb dX3_countRings_4 rfl (lv_at hl_9 3 rfl) ?_
      refine lv_iload_n hx hb dX3_countRings_5 rfl (lv_at hl_9 1 rfl) ?_
      refine lv_icmp_ge (tgt := 77) hx hb dX3_countRings_6 (by decide) (fun c53 => ?_) (fun c53 => ?_)
      · replace hf := (if_pos c53).symm.trans hf
        cases hf
        cases (show x3 = r5 from hK1)
        exact K1 H_8 lo_8 I_8 ls_9 (lv_sub hl_9 [2] rfl)
      · replace hf := (if_neg c53).symm.trans hf
        refine lv_iload_n hx hb dX3_countRings_9 rfl (lv_at hl_9 3 rfl) ?_
        refine lv_iconst (v := (1 : Int32)) hx hb dX3_countRings_10 (by decide) ?_
        refine lv_iadd hx hb dX3_countRings_11 ?_
        refine lv_topi (fun x10 ex10 => ?_)
        replace hf := nm_some ex10 hf
        refine lv_istore (lv' := [(4, .int x10), (0, .ref (ad 22)), (1, .int a0), (2, .int x3), (3, .int x4)]) hx hb dX3_countRings_12 hl_9 (by decide) rfl (fun ls_11 hl_11 => ?_)
        obtain ⟨r14, hq2, hf⟩ := bd_some hf
        have K2 : ∀ (H : Heap) (locs : List Loc), sInv D (cT cI cJ cD cS) (cW ad cI cJ cD cS) A s H locs (G, E, Dd, P, L, pf) → ∀ (ls : Array Slot), lv_has ls 6 [(0, .ref (ad 22)), (1, .int a0), (2, .int r14), (3, .int x4)] → W p l e R s m args below meth c H locs 0 0 Q (F0 m 71 ls []) := by
          intro H_15 lo_15 I_15 ls_16 hl_16
          obtain ⟨x17, ex17⟩ : ∃ y : Int32, y = x4 + (1 : Int32) := ⟨_, rfl⟩
          replace hf := nm_some ex17 hf
          refine lv_iinc (v := x17) (lv' := [(3, .int x17), (0, .ref (ad 22)), (1, .int a0), (2, .int r14)]) hx hb dX3_countRings_71 hl_16 (k := 3) rfl (by rw [ex17]; rfl) (by decide) rfl (fun ls_18 hl_18 => ?_)
          refine lv_goto (tgt := 4) hx hb dX3_countRings_74 (by decide) ?_
          cases hf
          exact ih1 _ _ hK1 H_15 lo_15 I_15 ls_18 (lv_sub hl_18 [1, 2, 3, 0] rfl)
        have L2 : ∀ (n : Nat) (x12 : Int32) (x13 : Int32), lp (fun q => C_LE_countRings_22_s2 a0 x4 G q.1 q.2) n (x12, x13) = some r14 → ∀ (H : Heap) (locs : List Loc), sInv D (cT cI cJ cD cS) (cW ad cI cJ cD cS) A s H locs (G, E, Dd, P, L, pf) → ∀ (ls : Array Slot), lv_has ls 6 [(0, .ref (ad 22)), (1, .int a0), (2, .int x12), (3, .int x4), (4, .int x13)] → W p l e R s m args below meth c H locs 0 0 Q (F0 m 14 ls []) := by
          intro n
          induction n with
          | zero => intro x12 x13 hq; exact (lp_0 hq).elim
          | succ n ih2 =>
            intro x12 x13 hq H_19 lo_19 I_19 ls_20 hl_20
            obtain ⟨y2, hf, hK2⟩ := lp_go hq
            replace hf : C_LE_countRings_22_s2 a0 x4 G x12 x13 = some y2 := hf
            unfold C_LE_countRings_22_s2 at hf
            refine lv_iload hx hb dX3_countRings_14 (lv_at hl_20 4 rfl) ?_
            refine lv_iload_n hx hb dX3_countRings_16 rfl (lv_at hl_20 1 rfl) ?_
            refine lv_icmp_ge (tgt := 71) hx hb dX3_countRings_17 (by decide) (fun c52 => ?_) (fun c52 => ?_)
            · replace hf := (if_pos c52).symm.trans hf
              cases hf
              cases (show x12 = r14 from hK2)
              exact K2 H_19 lo_19 I_19 ls_20 (lv_sub hl_20 [0, 1, 2, 3] rfl)
            · replace hf := (if_neg c52).symm.trans hf
              refine lv_iload hx hb dX3_countRings_20 (lv_at hl_20 4 rfl) ?_
              refine lv_iconst (v := (1 : Int32)) hx hb dX3_countRings_22 (by decide) ?_
              refine lv_iadd hx hb dX3_countRings_23 ?_
              refine lv_topi (fun x21 ex21 => ?_)
              replace hf := nm_some ex21 hf
              refine lv_istore (lv' := [(5, .int x21), (0, .ref (ad 22)), (1, .int a0), (2, .int x12), (3, .int x4), (4, .int x13)]) hx hb dX3_countRings_24 hl_20 (by decide) rfl (fun ls_22 hl_22 => ?_)
              obtain ⟨r25, hq3, hf⟩ := bd_some hf
              have K3 : ∀ (H : Heap) (locs : List Loc), sInv D (cT cI cJ cD cS) (cW ad cI cJ cD cS) A s H locs (G, E, Dd, P, L, pf) → ∀ (ls : Array Slot), lv_has ls 6 [(0, .ref (ad 22)), (1, .int a0), (2, .int r25), (3, .int x4), (4, .int x13)] → W p l e R s m args below meth c H locs 0 0 Q (F0 m 65 ls []) := by
                intro H_26 lo_26 I_26 ls_27 hl_27
                obtain ⟨x28, ex28⟩ : ∃ y : Int32, y = x13 + (1 : Int32) := ⟨_, rfl⟩
                replace hf := nm_some ex28 hf
                refine lv_iinc (v := x28) (lv' := [(4, .int x28), (0, .ref (ad 22)), (1, .int a0), (2, .int r25), (3, .int x4)]) hx hb dX3_countRings_65 hl_27 (k := 4) rfl (by rw [ex28]; rfl) (by decide) rfl (fun ls_29 hl_29 => ?_)
                refine lv_goto (tgt := 14) hx hb dX3_countRings_68 (by decide) ?_
                cases hf
                exact ih2 _ _ hK2 H_26 lo_26 I_26 ls_29 (lv_sub hl_29 [1, 2, 3, 4, 0] rfl)
              have L3 : ∀ (n : Nat) (x23 : Int32) (x24 : Int32), lp (fun q => C_LE_countRings_22_s3 a0 x4 x13 G q.1 q.2) n (x23, x24) = some r25 → ∀ (H : Heap) (locs : List Loc), sInv D (cT cI cJ cD cS) (cW ad cI cJ cD cS) A s H locs (G, E, Dd, P, L, pf) → ∀ (ls : Array Slot), lv_has ls 6 [(0, .ref (ad 22)), (1, .int a0), (2, .int x23), (3, .int x4), (4, .int x13), (5, .int x24)] → W p l e R s m args below meth c H locs 0 0 Q (F0 m 26 ls []) := by
                intro n
                induction n with
                | zero => intro x23 x24 hq; exact (lp_0 hq).elim
                | succ n ih3 =>
                  intro x23 x24 hq H_30 lo_30 I_30 ls_31 hl_31
                  obtain ⟨y3, hf, hK3⟩ := lp_go hq
                  replace hf : C_LE_countRings_22_s3 a0 x4 x13 G x23 x24 = some y3 := hf
                  unfold C_LE_countRings_22_s3 at hf
                  refine lv_iload hx hb dX3_countRings_26 (lv_at hl_31 5 rfl) ?_
                  refine lv_iload_n hx hb dX3_countRings_28 rfl (lv_at hl_31 1 rfl) ?_
                  refine lv_icmp_ge (tgt := 65) hx hb dX3_countRings_29 (by decide) (fun c51 => ?_) (fun c51 => ?_)
                  · replace hf := (if_pos c51).symm.trans hf
                    cases hf
                    cases (show x23 = r25 from hK3)
                    exact K3 H_30 lo_30 I_30 ls_31 (lv_sub hl_31 [0, 1, 2, 3, 4] rfl)
                  · replace hf := (if_neg c51).symm.trans hf
                    refine lv_aload_n hx hb dX3_countRings_32 rfl (lv_at hl_31 0 rfl) ?_
                    refine lv_iload_n hx hb dX3_countRings_33 rfl (lv_at hl_31 3 rfl) ?_
                    refine lv_iload hx hb dX3_countRings_34 (lv_at hl_31 4 rfl) ?_
                    refine lv_iload hx hb dX3_countRings_36 (lv_at hl_31 5 rfl) ?_
                    obtain ⟨r32, h33, hf⟩ := bd_some hf
                    refine s_callVi (As := [.int x4, .int x13, .int x24]) (rest := []) F I_30 (cC_LE_isRing_22 G E Dd P L pf x4 x13 x24 r32 h33) kX3_57 ⟨rfl, rfl⟩ ⟨Nat.le_trans (Nat.le_of_ble_eq_true rfl) hRf, Nat.le_trans (Nat.le_of_ble_eq_true rfl) hRl⟩ 22 3 rfl rfl rfl rfl rfl hl_31.1 (Nat.le_of_ble_eq_true rfl) ⟨Nat.zero_le _, Nat.zero_le _⟩ dX3_countRings_38 ?_
                    intro H_34 lo_34 I_34
                    obtain ⟨x36, hv41, hf⟩ := bd_some hf
                    have J35 : ∀ (H : Heap) (locs : List Loc), sInv D (cT cI cJ cD cS) (cW ad cI cJ cD cS) A s H locs (G, E, Dd, P, L, pf) → ∀ (ls : Array Slot), lv_has ls 6 [(0, .ref (ad 22)), (1, .int a0), (2, .int x36), (3, .int x4), (4, .int x13), (5, .int x24)] → W p l e R s m args below meth c H locs 0 0 Q (F0 m 59 ls []) := by
                      intro H_37 lo_37 I_37 ls_38 hl_38
                      obtain ⟨x39, ex39⟩ : ∃ y : Int32, y = x24 + (1 : Int32) := ⟨_, rfl⟩
                      replace hf := nm_some ex39 hf
                      refine lv_iinc (v := x39) (lv' := [(5, .int x39), (0, .ref (ad 22)), (1, .int a0), (2, .int x36), (3, .int x4), (4, .int x13)]) hx hb dX3_countRings_59 hl_38 (k := 5) rfl (by rw [ex39]; rfl) (by decide) rfl (fun ls_40 hl_40 => ?_)
                      refine lv_goto (tgt := 26) hx hb dX3_countRings_62 (by decide) ?_
                      cases hf
                      exact ih3 _ _ hK3 H_37 lo_37 I_37 ls_40 (lv_sub hl_40 [1, 2, 3, 4, 5, 0] rfl)
                    replace hf := hv41
                    refine lv_if_ne (tgt := 56) hx hb dX3_countRings_41 (by decide) (fun c50 => ?_) (fun c50 => ?_)
                    · replace hf := (if_neg c50).symm.trans hf
                      obtain ⟨x42, ex42⟩ : ∃ y : Int32, y = x23 + (1 : Int32) := ⟨_, rfl⟩
                      replace hf := nm_some ex42 hf
                      refine lv_iinc (v := x42) (lv' := [(2, .int x42), (0, .ref (ad 22)), (1, .int a0), (3, .int x4), (4, .int x13), (5, .int x24)]) hx hb dX3_countRings_56 hl_31 (k := 2) rfl (by rw [ex42]; rfl) (by decide) rfl (fun ls_43 hl_43 => ?_)
                      cases hf
                      exact J35 H_34 lo_34 I_34 ls_43 (lv_sub hl_43 [1, 2, 0, 3, 4, 5] rfl)
                    · replace hf := (if_pos c50).symm.trans hf
                      refine lv_aload_n hx hb dX3_countRings_44 rfl (lv_at hl_31 0 rfl) ?_
                      refine lv_iload hx hb dX3_countRings_45 (lv_at hl_31 5 rfl) ?_
                      refine lv_iload hx hb dX3_countRings_47 (lv_at hl_31 4 rfl) ?_
                      refine lv_iload_n hx hb dX3_countRings_49 rfl (lv_at hl_31 3 rfl) ?_
                      obtain ⟨r44, h45, hf⟩ := bd_some hf
                      refine s_callVi (As := [.int x24, .int x13, .int x4]) (rest := []) F I_34 (cC_LE_isRing_22 G E Dd P L pf x24 x13 x4 r44 h45) kX3_57 ⟨rfl, rfl⟩ ⟨Nat.le_trans (Nat.le_of_ble_eq_true rfl) hRf, Nat.le_trans (Nat.le_of_ble_eq_true rfl) hRl⟩ 22 3 rfl rfl rfl rfl rfl hl_31.1 (Nat.le_of_ble_eq_true rfl) ⟨Nat.zero_le _, Nat.zero_le _⟩ dX3_countRings_50 ?_
                      intro H_46 lo_46 I_46
                      refine lv_if_eq (tgt := 59) hx hb dX3_countRings_53 (by decide) (fun c49 => ?_) (fun c49 => ?_)
                      · replace hf := (if_pos c49).symm.trans hf
                        cases hf
                        exact J35 H_46 lo_46 I_46 ls_31 (lv_sub hl_31 [0, 1, 2, 3, 4, 5] rfl)
                      · replace hf := (if_neg c49).symm.trans hf
                        obtain ⟨x47, ex47⟩ : ∃ y : Int32, y = x23 + (1 : Int32) := ⟨_, rfl⟩
                        replace hf := nm_some ex47 hf
                        refine lv_iinc (v := x47) (lv' := [(2, .int x47), (0, .ref (ad 22)), (1, .int a0), (3, .int x4), (4, .int x13), (5, .int x24)]) hx hb dX3_countRings_56 hl_31 (k := 2) rfl (by rw [ex47]; rfl) (by decide) rfl (fun ls_48 hl_48 => ?_)
                        cases hf
                        exact J35 H_46 lo_46 I_46 ls_48 (lv_sub hl_48 [1, 2, 0, 3, 4, 5] rfl)
              exact L3 FU _ _ hq3 H_19 lo_19 I_19 ls_22 (lv_sub hl_22 [1, 2, 3, 4, 5, 0] rfl)
        exact L2 FU _ _ hq2 H_8 lo_8 I_8 ls_11 (lv_sub hl_11 [1, 2, 3, 4, 0] rfl)
  exact L1 FU _ _ hq1 H lo I ls_2 (lv_sub hl_2 [2, 3, 1, 0] rfl)
def C_SD_countStable_s1  (x3 : Int32) (x4 : Int32) (G5 : Nat → Nat → Int32) : Option ((Int32 × Int32 × (Nat → Nat → Int32)) ⊕ (Int32 × (Nat → Nat → Int32))) :=
if G5 21 0 ≤ x4 then
(some (.inr (x3, G5)))
else
(bd2 (C_SD_isStable G5 x4) fun r12 G13 =>
bd (if r12 = 0 then
(some x3)
else
(nm (x3 + (1 : Int32) : Int32) fun x23 =>
some x23)) fun x17 =>
nm (x4 + (1 : Int32) : Int32) fun x20 =>
some (.inl (x17, x20, G13)))
def C_SD_countStable (G : Nat → Nat → Int32) : Option (Int32 × (Nat → Nat → Int32)) :=
bd2 (lp (fun q => C_SD_countStable_s1 q.1 q.2.1 q.2.2) FU ((0 : Int32), (0 : Int32), G)) fun r6 G7 =>
some (r6, G7)
set_option maxRecDepth 100000 in
set_option maxHeartbeats 4000000 in
theorem cC_SD_countStable (G : Nat → Nat → Int32) (E : Nat → Nat → Int64) (Dd : Nat → Nat → UInt64) (P : Nat → Option Nat) (L : List Nat) (pf : Nat → va_E)  (rv : Int32) (newG : Nat → Nat → Int32) (hf : C_SD_countStable G = some (rv, newG)) : sMi D (cT cI cJ cD cS) (cW ad cI cJ cD cS) l yX6_countStable (ws1 yX6_countStable cX6_countStable 4 (some .int)) ({ frames := 3, cells := 0, slots := 0, locals := 69 }) [.ref (ad 16), .ref (ad 2)] (G, E, Dd, P, L, pf) (rv, (newG, E, Dd, P, L, pf)) := by
  unfold C_SD_countStable at hf
  refine sMi_of (by decide) (Nat.le_of_ble_eq_true rfl) ?_
  intro p e R s m args below meth c A Q ls H lo F hRf hRl I hl ret
  obtain ⟨hx, hb, hml, hown, hG⟩ := id F
  replace hl : lv_has ls 4 [(0, .ref (ad 16)), (1, .ref (ad 2))] := hl
  refine lv_iconst (v := (0 : Int32)) hx hb dX6_countStable_0 (by decide) ?_
  refine lv_istore_n (lv' := [(2, .int (0 : Int32)), (0, .ref (ad 16)), (1, .ref (ad 2))]) hx hb dX6_countStable_1 rfl hl (by decide) rfl (fun ls_1 hl_1 => ?_)
  refine lv_iconst (v := (0 : Int32)) hx hb dX6_countStable_2 (by decide) ?_
  refine lv_istore_n (lv' := [(3, .int (0 : Int32)), (2, .int (0 : Int32)), (0, .ref (ad 16)), (1, .ref (ad 2))]) hx hb dX6_countStable_3 rfl hl_1 (by decide) rfl (fun ls_2 hl_2 => ?_)
  obtain ⟨r6, G7, hq1, hf⟩ := bd2_some hf
  have K1 : ∀ (H : Heap) (locs : List Loc), sInv D (cT cI cJ cD cS) (cW ad cI cJ cD cS) A s H locs (G7, E, Dd, P, L, pf) → ∀ (ls : Array Slot), lv_has ls 4 [(2, .int r6)] → W p l e R s m args below meth c H locs 0 0 Q (F0 m 30 ls []) := by
    intro H_8 lo_8 I_8 ls_9 hl_9
    refine lv_iload_n hx hb dX6_countStable_30 rfl (lv_at hl_9 0 rfl) ?_
    cases hf
    exact ret H_8 lo_8 _ ls_9 I_8 dX6_countStable_31
  have L1 : ∀ (n : Nat) (x3 : Int32) (x4 : Int32) (G5 : Nat → Nat → Int32), lp (fun q => C_SD_countStable_s1 q.1 q.2.1 q.2.2) n (x3, x4, G5) = some (r6, G7) → ∀ (H : Heap) (locs : List Loc), sInv D (cT cI cJ cD cS) (cW ad cI cJ cD cS) A s H locs (G5, E, Dd, P, L, pf) → ∀ (ls : Array Slot), lv_has ls 4 [(0, .ref (ad 16)), (1, .ref (ad 2)), (2, .int x3), (3, .int x4)] → W p l e R s m args below meth c H locs 0 0 Q (F0 m 4 ls []) := by
    intro n
    induction n with
    | zero => intro x3 x4 G5 hq; exact (lp_0 hq).elim
    | succ n ih1 =>
      intro x3 x4 G5 hq H_10 lo_10 I_10 ls_11 hl_11
      obtain ⟨y1, hf, hK1⟩ := lp_go hq
      replace hf : C_SD_countStable_s1 x3 x4 G5 = some y1 := hf
      unfold C_SD_countStable_s1 at hf
      refine lv_iload_n hx hb dX6_countStable_4 rfl (lv_at hl_11 3 rfl) ?_
      refine lv_aload_n hx hb dX6_countStable_5 rfl (lv_at hl_11 0 rfl) ?_
      refine kgtX6_9_16 F I_10 dX6_countStable_6 ?_
      refine lv_icmp_ge (tgt := 30) hx hb dX6_countStable_9 (by decide) (fun c26 => ?_) (fun c26 => ?_)
      · replace hf := (if_pos c26).symm.trans hf
        cases hf
        cases (show (x3, G5) = (r6, G7) from hK1)
        exact K1 H_10 lo_10 I_10 ls_11 (lv_sub hl_11 [2] rfl)
      · replace hf := (if_neg c26).symm.trans hf
        refine lv_aload_n hx hb dX6_countStable_12 rfl (lv_at hl_11 0 rfl) ?_
        refine lv_aload_n hx hb dX6_countStable_13 rfl (lv_at hl_11 1 rfl) ?_
        refine lv_iload_n hx hb dX6_countStable_14 rfl (lv_at hl_11 3 rfl) ?_
        obtain ⟨r12, G13, h14, hf⟩ := bd2_some hf
        refine s_callVi (As := [.ref (ad 2), .int x4]) (rest := []) F I_10 (cC_SD_isStable G5 E Dd P L pf x4 r12 G13 h14) kX6_97 ⟨rfl, rfl⟩ ⟨Nat.le_trans (Nat.le_of_ble_eq_true rfl) hRf, Nat.le_trans (Nat.le_of_ble_eq_true rfl) hRl⟩ 16 6 rfl rfl rfl rfl rfl hl_11.1 (Nat.le_of_ble_eq_true rfl) ⟨Nat.zero_le _, Nat.zero_le _⟩ dX6_countStable_15 ?_
        intro H_15 lo_15 I_15
        obtain ⟨x17, hv22, hf⟩ := bd_some hf
        have J16 : ∀ (H : Heap) (locs : List Loc), sInv D (cT cI cJ cD cS) (cW ad cI cJ cD cS) A s H locs (G13, E, Dd, P, L, pf) → ∀ (ls : Array Slot), lv_has ls 4 [(0, .ref (ad 16)), (1, .ref (ad 2)), (2, .int x17), (3, .int x4)] → W p l e R s m args below meth c H locs 0 0 Q (F0 m 24 ls []) := by
          intro H_18 lo_18 I_18 ls_19 hl_19
          obtain ⟨x20, ex20⟩ : ∃ y : Int32, y = x4 + (1 : Int32) := ⟨_, rfl⟩
          replace hf := nm_some ex20 hf
          refine lv_iinc (v := x20) (lv' := [(3, .int x20), (0, .ref (ad 16)), (1, .ref (ad 2)), (2, .int x17)]) hx hb dX6_countStable_24 hl_19 (k := 3) rfl (by rw [ex20]; rfl) (by decide) rfl (fun ls_21 hl_21 => ?_)
          refine lv_goto (tgt := 4) hx hb dX6_countStable_27 (by decide) ?_
          cases hf
          exact ih1 _ _ _ hK1 H_18 lo_18 I_18 ls_21 (lv_sub hl_21 [1, 2, 3, 0] rfl)
        replace hf := hv22
        refine lv_if_eq (tgt := 24) hx hb dX6_countStable_18 (by decide) (fun c25 => ?_) (fun c25 => ?_)
        · replace hf := (if_pos c25).symm.trans hf
          cases hf
          exact J16 H_15 lo_15 I_15 ls_11 (lv_sub hl_11 [0, 1, 2, 3] rfl)
        · replace hf := (if_neg c25).symm.trans hf
          obtain ⟨x23, ex23⟩ : ∃ y : Int32, y = x3 + (1 : Int32) := ⟨_, rfl⟩
          replace hf := nm_some ex23 hf
          refine lv_iinc (v := x23) (lv' := [(2, .int x23), (0, .ref (ad 16)), (1, .ref (ad 2)), (3, .int x4)]) hx hb dX6_countStable_21 hl_11 (k := 2) rfl (by rw [ex23]; rfl) (by decide) rfl (fun ls_24 hl_24 => ?_)
          cases hf
          exact J16 H_15 lo_15 I_15 ls_24 (lv_sub hl_24 [1, 2, 0, 3] rfl)
  exact L1 FU _ _ _ hq1 H lo I ls_2 (lv_sub hl_2 [2, 3, 1, 0] rfl)
def C_SD_numberOf (G : Nat → Nat → Int32) (a1 : Int32) : Option (Int32 × (Nat → Nat → Int32)) :=
if a1 = (0 : Int32) then
(bd (C_BO_find_22 G (G 21 0)) fun G2 =>
some (G2 32 0, G2))
else if a1 = (1 : Int32) then
(bd (C_BO_find_22 G (G 21 0)) fun G6 =>
some (G6 33 0, G6))
else if a1 = (2 : Int32) then
(bd (C_SD_findLayers G) fun G10 =>
some (G10 27 0, G10))
else if a1 = (3 : Int32) then
(bd (C_SD_findLayers G) fun G14 =>
some (G14 28 0, G14))
else if a1 = (4 : Int32) then
(bd (C_LE_countRings_22 G (G 21 0)) fun r18 =>
some (r18, G))
else (bd2 (C_SD_countStable G) fun r21 G22 =>
some (r21, G22))
set_option maxRecDepth 100000 in
set_option maxHeartbeats 4000000 in
theorem cC_SD_numberOf (G : Nat → Nat → Int32) (E : Nat → Nat → Int64) (Dd : Nat → Nat → UInt64) (P : Nat → Option Nat) (L : List Nat) (pf : Nat → va_E) (a1 : Int32) (rv : Int32) (newG : Nat → Nat → Int32) (hf : C_SD_numberOf G a1 = some (rv, newG)) : sMi D (cT cI cJ cD cS) (cW ad cI cJ cD cS) l yX6_numberOf (ws1 yX6_numberOf cX6_numberOf 3 (some .int)) ({ frames := 4, cells := 0, slots := 0, locals := 96 }) [.ref (ad 16), .ref (ad 2), .int a1] (G, E, Dd, P, L, pf) (rv, (newG, E, Dd, P, L, pf)) := by
  unfold C_SD_numberOf at hf
  refine sMi_of (by decide) (Nat.le_of_ble_eq_true rfl) ?_
  intro p e R s m args below meth c A Q ls H lo F hRf hRl I hl ret
  obtain ⟨hx, hb, hml, hown, hG⟩ := id F
  replace hl : lv_has ls 3 [(0, .ref (ad 16)), (1, .ref (ad 2)), (2, .int a1)] := hl
  refine lv_iload_n hx hb dX6_numberOf_0 rfl (lv_at hl 2 rfl) ?_
  by_cases c1 : a1 = (0 : Int32)
  · replace hf := (if_pos c1).symm.trans hf
    refine lv_tableIn (off := 35) (tgt := 36) hx hb dX6_numberOf_1 (by rw [c1]; decide) (by rw [c1]; decide) (by rw [c1]; rfl) (by decide) ?_
    refine lv_aload_n hx hb dX6_numberOf_36 rfl (lv_at hl 0 rfl) ?_
    refine kgtX6_51_16 F I dX6_numberOf_37 ?_
    refine lv_aload_n hx hb dX6_numberOf_40 rfl (lv_at hl 0 rfl) ?_
    refine kgtX6_22_16 F I dX6_numberOf_41 ?_
    refine lv_aload_n hx hb dX6_numberOf_44 rfl (lv_at hl 0 rfl) ?_
    refine kgtX6_9_16 F I dX6_numberOf_45 ?_
    obtain ⟨G2, h3, hf⟩ := bd_some hf
    refine s_callVv (As := [.ref (ad 22), .int (G 21 0)]) (rest := []) F I (cC_BO_find_22 G E Dd P L pf (G 21 0) G2 h3) kX6_107 ⟨rfl, rfl⟩ ⟨Nat.le_trans (Nat.le_of_ble_eq_true rfl) hRf, Nat.le_trans (Nat.le_of_ble_eq_true rfl) hRl⟩ 24 0 rfl rfl rfl rfl rfl hl.1 (Nat.le_of_ble_eq_true rfl) ⟨Nat.zero_le _, Nat.zero_le _⟩ dX6_numberOf_48 ?_
    intro H_4 lo_4 I_4
    refine lv_aload_n hx hb dX6_numberOf_51 rfl (lv_at hl 0 rfl) ?_
    refine kgtX6_51_16 F I_4 dX6_numberOf_52 ?_
    refine kgtX6_114_24 F I_4 dX6_numberOf_55 ?_
    cases hf
    exact ret H_4 lo_4 _ ls I_4 dX6_numberOf_58
  replace hf := (if_neg c1).symm.trans hf
  by_cases c5 : a1 = (1 : Int32)
  · replace hf := (if_pos c5).symm.trans hf
    refine lv_tableIn (off := 58) (tgt := 59) hx hb dX6_numberOf_1 (by rw [c5]; decide) (by rw [c5]; decide) (by rw [c5]; rfl) (by decide) ?_
    refine lv_aload_n hx hb dX6_numberOf_59 rfl (lv_at hl 0 rfl) ?_
    refine kgtX6_51_16 F I dX6_numberOf_60 ?_
    refine lv_aload_n hx hb dX6_numberOf_63 rfl (lv_at hl 0 rfl) ?_
    refine kgtX6_22_16 F I dX6_numberOf_64 ?_
    refine lv_aload_n hx hb dX6_numberOf_67 rfl (lv_at hl 0 rfl) ?_
    refine kgtX6_9_16 F I dX6_numberOf_68 ?_
    obtain ⟨G6, h7, hf⟩ := bd_some hf
    refine s_callVv (As := [.ref (ad 22), .int (G 21 0)]) (rest := []) F I (cC_BO_find_22 G E Dd P L pf (G 21 0) G6 h7) kX6_107 ⟨rfl, rfl⟩ ⟨Nat.le_trans (Nat.le_of_ble_eq_true rfl) hRf, Nat.le_trans (Nat.le_of_ble_eq_true rfl) hRl⟩ 24 0 rfl rfl rfl rfl rfl hl.1 (Nat.le_of_ble_eq_true rfl) ⟨Nat.zero_le _, Nat.zero_le _⟩ dX6_numberOf_71 ?_
    intro H_8 lo_8 I_8
    refine lv_aload_n hx hb dX6_numberOf_74 rfl (lv_at hl 0 rfl) ?_
    refine kgtX6_51_16 F I_8 dX6_numberOf_75 ?_
    refine kgtX6_117_24 F I_8 dX6_numberOf_78 ?_
    cases hf
    exact ret H_8 lo_8 _ ls I_8 dX6_numberOf_81
  replace hf := (if_neg c5).symm.trans hf
  by_cases c9 : a1 = (2 : Int32)
  · replace hf := (if_pos c9).symm.trans hf
    refine lv_tableIn (off := 81) (tgt := 82) hx hb dX6_numberOf_1 (by rw [c9]; decide) (by rw [c9]; decide) (by rw [c9]; rfl) (by decide) ?_
    refine lv_aload_n hx hb dX6_numberOf_82 rfl (lv_at hl 0 rfl) ?_
    obtain ⟨G10, h11, hf⟩ := bd_some hf
    refine s_callVv (As := []) (rest := []) F I (cC_SD_findLayers G E Dd P L pf G10 h11) kX6_104 ⟨rfl, rfl⟩ ⟨Nat.le_trans (Nat.le_of_ble_eq_true rfl) hRf, Nat.le_trans (Nat.le_of_ble_eq_true rfl) hRl⟩ 16 6 rfl rfl rfl rfl rfl hl.1 (Nat.le_of_ble_eq_true rfl) ⟨Nat.zero_le _, Nat.zero_le _⟩ dX6_numberOf_83 ?_
    intro H_12 lo_12 I_12
    refine lv_aload_n hx hb dX6_numberOf_86 rfl (lv_at hl 0 rfl) ?_
    refine kgtX6_38_16 F I_12 dX6_numberOf_87 ?_
    cases hf
    exact ret H_12 lo_12 _ ls I_12 dX6_numberOf_90
  replace hf := (if_neg c9).symm.trans hf
  by_cases c13 : a1 = (3 : Int32)
  · replace hf := (if_pos c13).symm.trans hf
    refine lv_tableIn (off := 90) (tgt := 91) hx hb dX6_numberOf_1 (by rw [c13]; decide) (by rw [c13]; decide) (by rw [c13]; rfl) (by decide) ?_
    refine lv_aload_n hx hb dX6_numberOf_91 rfl (lv_at hl 0 rfl) ?_
    obtain ⟨G14, h15, hf⟩ := bd_some hf
    refine s_callVv (As := []) (rest := []) F I (cC_SD_findLayers G E Dd P L pf G14 h15) kX6_104 ⟨rfl, rfl⟩ ⟨Nat.le_trans (Nat.le_of_ble_eq_true rfl) hRf, Nat.le_trans (Nat.le_of_ble_eq_true rfl) hRl⟩ 16 6 rfl rfl rfl rfl rfl hl.1 (Nat.le_of_ble_eq_true rfl) ⟨Nat.zero_le _, Nat.zero_le _⟩ dX6_numberOf_92 ?_
    intro H_16 lo_16 I_16
    refine lv_aload_n hx hb dX6_numberOf_95 rfl (lv_at hl 0 rfl) ?_
    refine kgtX6_41_16 F I_16 dX6_numberOf_96 ?_
    cases hf
    exact ret H_16 lo_16 _ ls I_16 dX6_numberOf_99
  replace hf := (if_neg c13).symm.trans hf
  by_cases c17 : a1 = (4 : Int32)
  · replace hf := (if_pos c17).symm.trans hf
    refine lv_tableIn (off := 99) (tgt := 100) hx hb dX6_numberOf_1 (by rw [c17]; decide) (by rw [c17]; decide) (by rw [c17]; rfl) (by decide) ?_
    refine lv_aload_n hx hb dX6_numberOf_100 rfl (lv_at hl 0 rfl) ?_
    refine kgtX6_22_16 F I dX6_numberOf_101 ?_
    refine lv_aload_n hx hb dX6_numberOf_104 rfl (lv_at hl 0 rfl) ?_
    refine kgtX6_9_16 F I dX6_numberOf_105 ?_
    obtain ⟨r18, h19, hf⟩ := bd_some hf
    refine s_callVi (As := [.int (G 21 0)]) (rest := []) F I (cC_LE_countRings_22 G E Dd P L pf (G 21 0) r18 h19) kX6_120 ⟨rfl, rfl⟩ ⟨Nat.le_trans (Nat.le_of_ble_eq_true rfl) hRf, Nat.le_trans (Nat.le_of_ble_eq_true rfl) hRl⟩ 22 3 rfl rfl rfl rfl rfl hl.1 (Nat.le_of_ble_eq_true rfl) ⟨Nat.zero_le _, Nat.zero_le _⟩ dX6_numberOf_108 ?_
    intro H_20 lo_20 I_20
    cases hf
    exact ret H_20 lo_20 _ ls I_20 dX6_numberOf_111
  replace hf := (if_neg c17).symm.trans hf
  refine lv_tableOut (tgt := 112) hx hb dX6_numberOf_1 (tsw4 c1 c5 c9 c13 c17) (by decide) ?_
  refine lv_aload_n hx hb dX6_numberOf_112 rfl (lv_at hl 0 rfl) ?_
  refine lv_aload_n hx hb dX6_numberOf_113 rfl (lv_at hl 1 rfl) ?_
  obtain ⟨r21, G22, h23, hf⟩ := bd2_some hf
  refine s_callVi (As := [.ref (ad 2)]) (rest := []) F I (cC_SD_countStable G E Dd P L pf r21 G22 h23) kX6_123 ⟨rfl, rfl⟩ ⟨Nat.le_trans (Nat.le_of_ble_eq_true rfl) hRf, Nat.le_trans (Nat.le_of_ble_eq_true rfl) hRl⟩ 16 6 rfl rfl rfl rfl rfl hl.1 (Nat.le_of_ble_eq_true rfl) ⟨Nat.zero_le _, Nat.zero_le _⟩ dX6_numberOf_114 ?_
  intro H_24 lo_24 I_24
  cases hf
  exact ret H_24 lo_24 _ ls I_24 dX6_numberOf_117
def C_SD_sampleAt (G : Nat → Nat → Int32) (a0 : Int32) : Option (Int32 × (Nat → Nat → Int32)) :=
bd (C_BO_find_22 G (G 21 0)) fun G1 =>
bd (C_BO_sampleAt G1 a0) fun r4 =>
some (r4, G1)
set_option maxRecDepth 100000 in
set_option maxHeartbeats 4000000 in
theorem cC_SD_sampleAt (G : Nat → Nat → Int32) (E : Nat → Nat → Int64) (Dd : Nat → Nat → UInt64) (P : Nat → Option Nat) (L : List Nat) (pf : Nat → va_E) (a0 : Int32) (rv : Int32) (newG : Nat → Nat → Int32) (hf : C_SD_sampleAt G a0 = some (rv, newG)) : sMi D (cT cI cJ cD cS) (cW ad cI cJ cD cS) l yX6_sampleAt (ws1 yX6_sampleAt cX6_sampleAt 2 (some .int)) ({ frames := 4, cells := 0, slots := 0, locals := 94 }) [.ref (ad 16), .int a0] (G, E, Dd, P, L, pf) (rv, (newG, E, Dd, P, L, pf)) := by
  unfold C_SD_sampleAt at hf
  refine sMi_of (by decide) (Nat.le_of_ble_eq_true rfl) ?_
  intro p e R s m args below meth c A Q ls H lo F hRf hRl I hl ret
  obtain ⟨hx, hb, hml, hown, hG⟩ := id F
  replace hl : lv_has ls 2 [(0, .ref (ad 16)), (1, .int a0)] := hl
  refine lv_aload_n hx hb dX6_sampleAt_0 rfl (lv_at hl 0 rfl) ?_
  refine kgtX6_51_16 F I dX6_sampleAt_1 ?_
  refine lv_aload_n hx hb dX6_sampleAt_4 rfl (lv_at hl 0 rfl) ?_
  refine kgtX6_22_16 F I dX6_sampleAt_5 ?_
  refine lv_aload_n hx hb dX6_sampleAt_8 rfl (lv_at hl 0 rfl) ?_
  refine kgtX6_9_16 F I dX6_sampleAt_9 ?_
  obtain ⟨G1, h2, hf⟩ := bd_some hf
  refine s_callVv (As := [.ref (ad 22), .int (G 21 0)]) (rest := []) F I (cC_BO_find_22 G E Dd P L pf (G 21 0) G1 h2) kX6_107 ⟨rfl, rfl⟩ ⟨Nat.le_trans (Nat.le_of_ble_eq_true rfl) hRf, Nat.le_trans (Nat.le_of_ble_eq_true rfl) hRl⟩ 24 0 rfl rfl rfl rfl rfl hl.1 (Nat.le_of_ble_eq_true rfl) ⟨Nat.zero_le _, Nat.zero_le _⟩ dX6_sampleAt_12 ?_
  intro H_3 lo_3 I_3
  refine lv_aload_n hx hb dX6_sampleAt_15 rfl (lv_at hl 0 rfl) ?_
  refine kgtX6_51_16 F I_3 dX6_sampleAt_16 ?_
  refine lv_iload_n hx hb dX6_sampleAt_19 rfl (lv_at hl 1 rfl) ?_
  obtain ⟨r4, h5, hf⟩ := bd_some hf
  refine s_callVi (As := [.int a0]) (rest := []) F I_3 (cC_BO_sampleAt G1 E Dd P L pf a0 r4 h5) kX6_127 ⟨rfl, rfl⟩ ⟨Nat.le_trans (Nat.le_of_ble_eq_true rfl) hRf, Nat.le_trans (Nat.le_of_ble_eq_true rfl) hRl⟩ 24 0 rfl rfl rfl rfl rfl hl.1 (Nat.le_of_ble_eq_true rfl) ⟨Nat.zero_le _, Nat.zero_le _⟩ dX6_sampleAt_20 ?_
  intro H_6 lo_6 I_6
  cases hf
  exact ret H_6 lo_6 _ ls I_6 dX6_sampleAt_23
def C_JA_fill_i_10_s1 (a1 : Int32) (x3 : Int32) (G4 : Nat → Nat → Int32) : Option ((Int32 × (Nat → Nat → Int32)) ⊕ ((Nat → Nat → Int32))) :=
if (64 : Int32) ≤ x3 then
(some (.inr G4))
else
(ri 64 x3 <|
nm (wr G4 16 x3 a1) fun G11 =>
nm (x3 + (1 : Int32) : Int32) fun x13 =>
some (.inl (x13, G11)))
def C_JA_fill_i_10 (G : Nat → Nat → Int32) (a1 : Int32) : Option ((Nat → Nat → Int32)) :=
bd (lp (fun q => C_JA_fill_i_10_s1 a1 q.1 q.2) FU ((0 : Int32), G)) fun G5 =>
some G5
set_option maxRecDepth 100000 in
set_option maxHeartbeats 4000000 in
theorem cC_JA_fill_i_10 (G : Nat → Nat → Int32) (E : Nat → Nat → Int64) (Dd : Nat → Nat → UInt64) (P : Nat → Option Nat) (L : List Nat) (pf : Nat → va_E) (a1 : Int32)  (newG : Nat → Nat → Int32) (hf : C_JA_fill_i_10 G a1 = some newG) : sMv D (cT cI cJ cD cS) (cW ad cI cJ cD cS) l yJ7_fill_53178 (ws1 yJ7_fill_53178 cJ7_fill_53178 4 none) ({ frames := 0, cells := 0, slots := 0, locals := 0 }) [.ref (ad 10), .int a1] (G, E, Dd, P, L, pf) (newG, E, Dd, P, L, pf) := by
  unfold C_JA_fill_i_10 at hf
  refine sMv_of (by decide) (Nat.le_of_ble_eq_true rfl) ?_
  intro p e R s m args below meth c A Q ls H lo F hRf hRl I hl ret
  obtain ⟨hx, hb, hml, hown, hG⟩ := id F
  replace hl : lv_has ls 4 [(0, .ref (ad 10)), (1, .int a1)] := hl
  refine lv_iconst (v := (0 : Int32)) hx hb dJ7_fill_53178_0 (by decide) ?_
  refine lv_istore_n (lv' := [(2, .int (0 : Int32)), (0, .ref (ad 10)), (1, .int a1)]) hx hb dJ7_fill_53178_1 rfl hl (by decide) rfl (fun ls_1 hl_1 => ?_)
  refine lv_aload_n hx hb dJ7_fill_53178_2 rfl (lv_at hl_1 1 rfl) ?_
  refine kln10 F I dJ7_fill_53178_3 ?_
  refine lv_istore_n (lv' := [(3, .int (64 : Int32)), (2, .int (0 : Int32)), (0, .ref (ad 10)), (1, .int a1)]) hx hb dJ7_fill_53178_4 rfl hl_1 (by decide) rfl (fun ls_2 hl_2 => ?_)
  obtain ⟨G5, hq1, hf⟩ := bd_some hf
  have K1 : ∀ (H : Heap) (locs : List Loc), sInv D (cT cI cJ cD cS) (cW ad cI cJ cD cS) A s H locs (G5, E, Dd, P, L, pf) → ∀ (ls : Array Slot), lv_has ls 4 [] → W p l e R s m args below meth c H locs 0 0 Q (F0 m 20 ls []) := by
    intro H_6 lo_6 I_6 ls_7 hl_7
    cases hf
    exact ret H_6 lo_6 _ ls_7 I_6 dJ7_fill_53178_20
  have L1 : ∀ (n : Nat) (x3 : Int32) (G4 : Nat → Nat → Int32), lp (fun q => C_JA_fill_i_10_s1 a1 q.1 q.2) n (x3, G4) = some G5 → ∀ (H : Heap) (locs : List Loc), sInv D (cT cI cJ cD cS) (cW ad cI cJ cD cS) A s H locs (G4, E, Dd, P, L, pf) → ∀ (ls : Array Slot), lv_has ls 4 [(0, .ref (ad 10)), (1, .int a1), (2, .int x3), (3, .int (64 : Int32))] → W p l e R s m args below meth c H locs 0 0 Q (F0 m 5 ls []) := by
    intro n
    induction n with
    | zero => intro x3 G4 hq; exact (lp_0 hq).elim
    | succ n ih1 =>
      intro x3 G4 hq H_8 lo_8 I_8 ls_9 hl_9
      obtain ⟨y1, hf, hK1⟩ := lp_go hq
      replace hf : C_JA_fill_i_10_s1 a1 x3 G4 = some y1 := hf
      unfold C_JA_fill_i_10_s1 at hf
      refine lv_iload_n hx hb dJ7_fill_53178_5 rfl (lv_at hl_9 2 rfl) ?_
      refine lv_iload_n hx hb dJ7_fill_53178_6 rfl (lv_at hl_9 3 rfl) ?_
      refine lv_icmp_ge (tgt := 20) hx hb dJ7_fill_53178_7 (by decide) (fun c15 => ?_) (fun c15 => ?_)
      · replace hf := (if_pos c15).symm.trans hf
        cases hf
        cases (show G4 = G5 from hK1)
        exact K1 H_8 lo_8 I_8 ls_9 (lv_sub hl_9 [] rfl)
      · replace hf := (if_neg c15).symm.trans hf
        refine lv_aload_n hx hb dJ7_fill_53178_10 rfl (lv_at hl_9 0 rfl) ?_
        refine lv_iload_n hx hb dJ7_fill_53178_11 rfl (lv_at hl_9 2 rfl) ?_
        refine lv_iload_n hx hb dJ7_fill_53178_12 rfl (lv_at hl_9 1 rfl) ?_
        obtain ⟨g10, hf⟩ := ri_some hf
        refine kas10 F I_8 g10 dJ7_fill_53178_13 ?_
        intro H_12 lo_12 G11 eG11 I_12
        replace hf := nm_some eG11 hf
        obtain ⟨x13, ex13⟩ : ∃ y : Int32, y = x3 + (1 : Int32) := ⟨_, rfl⟩
        replace hf := nm_some ex13 hf
        refine lv_iinc (v := x13) (lv' := [(2, .int x13), (0, .ref (ad 10)), (1, .int a1), (3, .int (64 : Int32))]) hx hb dJ7_fill_53178_14 hl_9 (k := 2) rfl (by rw [ex13]; rfl) (by decide) rfl (fun ls_14 hl_14 => ?_)
        refine lv_goto (tgt := 5) hx hb dJ7_fill_53178_17 (by decide) ?_
        cases hf
        exact ih1 _ _ hK1 H_12 lo_12 I_12 ls_14 (lv_sub hl_14 [1, 2, 0, 3] rfl)
  exact L1 FU _ _ hq1 H lo I ls_2 (lv_sub hl_2 [2, 3, 1, 0] rfl)
def C_JA_fill_i_11_s1 (a1 : Int32) (x3 : Int32) (G4 : Nat → Nat → Int32) : Option ((Int32 × (Nat → Nat → Int32)) ⊕ ((Nat → Nat → Int32))) :=
if (64 : Int32) ≤ x3 then
(some (.inr G4))
else
(ri 64 x3 <|
nm (wr G4 17 x3 a1) fun G11 =>
nm (x3 + (1 : Int32) : Int32) fun x13 =>
some (.inl (x13, G11)))
def C_JA_fill_i_11 (G : Nat → Nat → Int32) (a1 : Int32) : Option ((Nat → Nat → Int32)) :=
bd (lp (fun q => C_JA_fill_i_11_s1 a1 q.1 q.2) FU ((0 : Int32), G)) fun G5 =>
some G5
set_option maxRecDepth 100000 in
set_option maxHeartbeats 4000000 in
theorem cC_JA_fill_i_11 (G : Nat → Nat → Int32) (E : Nat → Nat → Int64) (Dd : Nat → Nat → UInt64) (P : Nat → Option Nat) (L : List Nat) (pf : Nat → va_E) (a1 : Int32)  (newG : Nat → Nat → Int32) (hf : C_JA_fill_i_11 G a1 = some newG) : sMv D (cT cI cJ cD cS) (cW ad cI cJ cD cS) l yJ7_fill_53178 (ws1 yJ7_fill_53178 cJ7_fill_53178 4 none) ({ frames := 0, cells := 0, slots := 0, locals := 0 }) [.ref (ad 11), .int a1] (G, E, Dd, P, L, pf) (newG, E, Dd, P, L, pf) := by
  unfold C_JA_fill_i_11 at hf
  refine sMv_of (by decide) (Nat.le_of_ble_eq_true rfl) ?_
  intro p e R s m args below meth c A Q ls H lo F hRf hRl I hl ret
  obtain ⟨hx, hb, hml, hown, hG⟩ := id F
  replace hl : lv_has ls 4 [(0, .ref (ad 11)), (1, .int a1)] := hl
  refine lv_iconst (v := (0 : Int32)) hx hb dJ7_fill_53178_0 (by decide) ?_
  refine lv_istore_n (lv' := [(2, .int (0 : Int32)), (0, .ref (ad 11)), (1, .int a1)]) hx hb dJ7_fill_53178_1 rfl hl (by decide) rfl (fun ls_1 hl_1 => ?_)
  refine lv_aload_n hx hb dJ7_fill_53178_2 rfl (lv_at hl_1 1 rfl) ?_
  refine kln11 F I dJ7_fill_53178_3 ?_
  refine lv_istore_n (lv' := [(3, .int (64 : Int32)), (2, .int (0 : Int32)), (0, .ref (ad 11)), (1, .int a1)]) hx hb dJ7_fill_53178_4 rfl hl_1 (by decide) rfl (fun ls_2 hl_2 => ?_)
  obtain ⟨G5, hq1, hf⟩ := bd_some hf
  have K1 : ∀ (H : Heap) (locs : List Loc), sInv D (cT cI cJ cD cS) (cW ad cI cJ cD cS) A s H locs (G5, E, Dd, P, L, pf) → ∀ (ls : Array Slot), lv_has ls 4 [] → W p l e R s m args below meth c H locs 0 0 Q (F0 m 20 ls []) := by
    intro H_6 lo_6 I_6 ls_7 hl_7
    cases hf
    exact ret H_6 lo_6 _ ls_7 I_6 dJ7_fill_53178_20
  have L1 : ∀ (n : Nat) (x3 : Int32) (G4 : Nat → Nat → Int32), lp (fun q => C_JA_fill_i_11_s1 a1 q.1 q.2) n (x3, G4) = some G5 → ∀ (H : Heap) (locs : List Loc), sInv D (cT cI cJ cD cS) (cW ad cI cJ cD cS) A s H locs (G4, E, Dd, P, L, pf) → ∀ (ls : Array Slot), lv_has ls 4 [(0, .ref (ad 11)), (1, .int a1), (2, .int x3), (3, .int (64 : Int32))] → W p l e R s m args below meth c H locs 0 0 Q (F0 m 5 ls []) := by
    intro n
    induction n with
    | zero => intro x3 G4 hq; exact (lp_0 hq).elim
    | succ n ih1 =>
      intro x3 G4 hq H_8 lo_8 I_8 ls_9 hl_9
      obtain ⟨y1, hf, hK1⟩ := lp_go hq
      replace hf : C_JA_fill_i_11_s1 a1 x3 G4 = some y1 := hf
      unfold C_JA_fill_i_11_s1 at hf
      refine lv_iload_n hx hb dJ7_fill_53178_5 rfl (lv_at hl_9 2 rfl) ?_
      refine lv_iload_n hx hb dJ7_fill_53178_6 rfl (lv_at hl_9 3 rfl) ?_
      refine lv_icmp_ge (tgt := 20) hx hb dJ7_fill_53178_7 (by decide) (fun c15 => ?_) (fun c15 => ?_)
      · replace hf := (if_pos c15).symm.trans hf
        cases hf
        cases (show G4 = G5 from hK1)
        exact K1 H_8 lo_8 I_8 ls_9 (lv_sub hl_9 [] rfl)
      · replace hf := (if_neg c15).symm.trans hf
        refine lv_aload_n hx hb dJ7_fill_53178_10 rfl (lv_at hl_9 0 rfl) ?_
        refine lv_iload_n hx hb dJ7_fill_53178_11 rfl (lv_at hl_9 2 rfl) ?_
        refine lv_iload_n hx hb dJ7_fill_53178_12 rfl (lv_at hl_9 1 rfl) ?_
        obtain ⟨g10, hf⟩ := ri_some hf
        refine kas11 F I_8 g10 dJ7_fill_53178_13 ?_
        intro H_12 lo_12 G11 eG11 I_12
        replace hf := nm_some eG11 hf
        obtain ⟨x13, ex13⟩ : ∃ y : Int32, y = x3 + (1 : Int32) := ⟨_, rfl⟩
        replace hf := nm_some ex13 hf
        refine lv_iinc (v := x13) (lv' := [(2, .int x13), (0, .ref (ad 11)), (1, .int a1), (3, .int (64 : Int32))]) hx hb dJ7_fill_53178_14 hl_9 (k := 2) rfl (by rw [ex13]; rfl) (by decide) rfl (fun ls_14 hl_14 => ?_)
        refine lv_goto (tgt := 5) hx hb dJ7_fill_53178_17 (by decide) ?_
        cases hf
        exact ih1 _ _ hK1 H_12 lo_12 I_12 ls_14 (lv_sub hl_14 [1, 2, 0, 3] rfl)
  exact L1 FU _ _ hq1 H lo I ls_2 (lv_sub hl_2 [2, 3, 1, 0] rfl)
end Meth
