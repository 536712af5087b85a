section Meth
variable {D : va_G} {l : Launch} {ad : Nat → Nat} {cI cJ cD cS : ClassId}
def C_JI_numberOfTrailingZeros_ (a0 : Int32) : Option (Int32) :=
nm ((a0 ^^^ (-1 : Int32)) &&& (a0 - (1 : Int32)) : Int32) fun x1 =>
if 0 < x1 then
(bd2 (if x1 ≤ (65536 : Int32) then
(some (x1, (1 : Int32)))
else
(nm ((1 : Int32) + (16 : Int32) : Int32) fun x27 =>
nm ((x1.toUInt32 >>> ((16 : Int32).toUInt32 &&& Int32.toUInt32 31)).toInt32 : Int32) fun x28 =>
some (x28, x27))) fun x3 x4 =>
bd2 (if x3 ≤ (256 : Int32) then
(some (x3, x4))
else
(nm (x4 + (8 : Int32) : Int32) fun x23 =>
nm ((x3.toUInt32 >>> ((8 : Int32).toUInt32 &&& Int32.toUInt32 31)).toInt32 : Int32) fun x24 =>
some (x24, x23))) fun x6 x7 =>
bd2 (if x6 ≤ (16 : Int32) then
(some (x6, x7))
else
(nm (x7 + (4 : Int32) : Int32) fun x19 =>
nm ((x6.toUInt32 >>> ((4 : Int32).toUInt32 &&& Int32.toUInt32 31)).toInt32 : Int32) fun x20 =>
some (x20, x19))) fun x9 x10 =>
bd2 (if x9 ≤ (4 : Int32) then
(some (x9, x10))
else
(nm (x10 + (2 : Int32) : Int32) fun x15 =>
nm ((x9.toUInt32 >>> ((2 : Int32).toUInt32 &&& Int32.toUInt32 31)).toInt32 : Int32) fun x16 =>
some (x16, x15))) fun x12 x13 =>
some (x13 + ((x12.toUInt32 >>> ((1 : Int32).toUInt32 &&& Int32.toUInt32 31)).toInt32)))
else
(some (x1 &&& (32 : Int32)))
set_option maxRecDepth 100000 in
set_option maxHeartbeats 4000000 in
theorem cC_JI_numberOfTrailingZeros_ (G : Nat → Nat → Int32) (E : Nat → Nat → Int64) (Dd : Nat → Nat → UInt64) (P : Nat → Option Nat) (L : List Nat) (pf : Nat → va_E) (a0 : Int32) (rv : Int32)  (hf : C_JI_numberOfTrailingZeros_ a0 = some rv) : sMi D (cT cI cJ cD cS) (cW ad cI cJ cD cS) l yJ6_numberOfTrailingZeros_0f7a4 (ws1 yJ6_numberOfTrailingZeros_0f7a4 cJ6_numberOfTrailingZeros_0f7a4 2 (some .int)) ({ frames := 0, cells := 0, slots := 0, locals := 0 }) [.int a0] (G, E, Dd, P, L, pf) (rv, (G, E, Dd, P, L, pf)) := by
  unfold C_JI_numberOfTrailingZeros_ at hf
  refine sMi_of (by decide) (Nat.le_of_ble_eq_true rfl) ?_
  intro p e R s m args below meth c A Q ls H locs F hRf hRl I hl ret
  obtain ⟨hx, hb, hml, hown, hG⟩ := id F
  replace hl : lv_has ls 2 [(0, .int a0)] := hl
  refine lv_iload_n hx hb dJ6_numberOfTrailingZeros_0f7a4_0 rfl (lv_at hl 0 rfl) ?_
  refine lv_iconst (v := (-1 : Int32)) hx hb dJ6_numberOfTrailingZeros_0f7a4_1 (by decide) ?_
  refine lv_ixor hx hb dJ6_numberOfTrailingZeros_0f7a4_2 ?_
  refine lv_iload_n hx hb dJ6_numberOfTrailingZeros_0f7a4_3 rfl (lv_at hl 0 rfl) ?_
  refine lv_iconst (v := (1 : Int32)) hx hb dJ6_numberOfTrailingZeros_0f7a4_4 (by decide) ?_
  refine lv_isub hx hb dJ6_numberOfTrailingZeros_0f7a4_5 ?_
  refine lv_iand hx hb dJ6_numberOfTrailingZeros_0f7a4_6 ?_
  refine lv_topi (fun x1 ex1 => ?_)
  replace hf := nm_some ex1 hf
  refine lv_istore_n (lv' := [(0, .int x1)]) hx hb dJ6_numberOfTrailingZeros_0f7a4_7 rfl hl (by decide) rfl (fun ls hl => ?_)
  refine lv_iload_n hx hb dJ6_numberOfTrailingZeros_0f7a4_8 rfl (lv_at hl 0 rfl) ?_
  refine lv_if_gt (tgt := 17) hx hb dJ6_numberOfTrailingZeros_0f7a4_9 (by decide) (fun c30 => ?_) (fun c30 => ?_)
  · replace hf := (if_pos c30).symm.trans hf
    refine lv_iconst (v := (1 : Int32)) hx hb dJ6_numberOfTrailingZeros_0f7a4_17 (by decide) ?_
    refine lv_istore_n (lv' := [(1, .int (1 : Int32)), (0, .int x1)]) hx hb dJ6_numberOfTrailingZeros_0f7a4_18 rfl hl (by decide) rfl (fun ls hl => ?_)
    refine lv_iload_n hx hb dJ6_numberOfTrailingZeros_0f7a4_19 rfl (lv_at hl 1 rfl) ?_
    refine lv_ldcw (v := (65536 : Int32)) hx hb hown (hG _ q700) dJ6_numberOfTrailingZeros_0f7a4_20 ?_
    obtain ⟨x3, x4, hv26, hf⟩ := bd2_some hf
    have J2 : ∀ (H : Heap) (locs : List Loc), sInv D (cT cI cJ cD cS) (cW ad cI cJ cD cS) A s H locs (G, E, Dd, P, L, pf) → ∀ (ls : Array Slot), lv_has ls 2 [(0, .int x3), (1, .int x4)] → W p l e R s m args below meth c H locs 0 0 Q (F0 m 34 ls []) := by
      intro H locs I ls hl
      refine lv_iload_n hx hb dJ6_numberOfTrailingZeros_0f7a4_34 rfl (lv_at hl 0 rfl) ?_
      refine lv_sipush (v := (256 : Int32)) hx hb dJ6_numberOfTrailingZeros_0f7a4_35 (by decide) ?_
      obtain ⟨x6, x7, hv22, hf⟩ := bd2_some hf
      have J5 : ∀ (H : Heap) (locs : List Loc), sInv D (cT cI cJ cD cS) (cW ad cI cJ cD cS) A s H locs (G, E, Dd, P, L, pf) → ∀ (ls : Array Slot), lv_has ls 2 [(0, .int x6), (1, .int x7)] → W p l e R s m args below meth c H locs 0 0 Q (F0 m 49 ls []) := by
        intro H locs I ls hl
        refine lv_iload_n hx hb dJ6_numberOfTrailingZeros_0f7a4_49 rfl (lv_at hl 0 rfl) ?_
        refine lv_bipush (v := (16 : Int32)) hx hb dJ6_numberOfTrailingZeros_0f7a4_50 (by decide) ?_
        obtain ⟨x9, x10, hv18, hf⟩ := bd2_some hf
        have J8 : ∀ (H : Heap) (locs : List Loc), sInv D (cT cI cJ cD cS) (cW ad cI cJ cD cS) A s H locs (G, E, Dd, P, L, pf) → ∀ (ls : Array Slot), lv_has ls 2 [(0, .int x9), (1, .int x10)] → W p l e R s m args below meth c H locs 0 0 Q (F0 m 62 ls []) := by
          intro H locs I ls hl
          refine lv_iload_n hx hb dJ6_numberOfTrailingZeros_0f7a4_62 rfl (lv_at hl 0 rfl) ?_
          refine lv_iconst (v := (4 : Int32)) hx hb dJ6_numberOfTrailingZeros_0f7a4_63 (by decide) ?_
          obtain ⟨x12, x13, hv14, hf⟩ := bd2_some hf
          have J11 : ∀ (H : Heap) (locs : List Loc), sInv D (cT cI cJ cD cS) (cW ad cI cJ cD cS) A s H locs (G, E, Dd, P, L, pf) → ∀ (ls : Array Slot), lv_has ls 2 [(0, .int x12), (1, .int x13)] → W p l e R s m args below meth c H locs 0 0 Q (F0 m 74 ls []) := by
            intro H locs I ls hl
            refine lv_iload_n hx hb dJ6_numberOfTrailingZeros_0f7a4_74 rfl (lv_at hl 1 rfl) ?_
            refine lv_iload_n hx hb dJ6_numberOfTrailingZeros_0f7a4_75 rfl (lv_at hl 0 rfl) ?_
            refine lv_iconst (v := (1 : Int32)) hx hb dJ6_numberOfTrailingZeros_0f7a4_76 (by decide) ?_
            refine lv_iushr hx hb dJ6_numberOfTrailingZeros_0f7a4_77 rfl ?_
            refine lv_iadd hx hb dJ6_numberOfTrailingZeros_0f7a4_78 ?_
            cases hf
            exact ret H locs _ ls I dJ6_numberOfTrailingZeros_0f7a4_79
          replace hf := hv14
          refine lv_icmp_le (tgt := 74) hx hb dJ6_numberOfTrailingZeros_0f7a4_64 (by decide) (fun c17 => ?_) (fun c17 => ?_)
          · replace hf := (if_pos c17).symm.trans hf
            cases hf
            exact J11 H locs I ls (lv_sub hl [0, 1] rfl)
          · replace hf := (if_neg c17).symm.trans hf
            obtain ⟨x15, ex15⟩ : ∃ y : Int32, y = x10 + (2 : Int32) := ⟨_, rfl⟩
            replace hf := nm_some ex15 hf
            refine lv_iinc (v := x15) (lv' := [(1, .int x15), (0, .int x9)]) hx hb dJ6_numberOfTrailingZeros_0f7a4_67 hl (k := 1) rfl (by rw [ex15]; rfl) (by decide) rfl (fun ls hl => ?_)
            refine lv_iload_n hx hb dJ6_numberOfTrailingZeros_0f7a4_70 rfl (lv_at hl 1 rfl) ?_
            refine lv_iconst (v := (2 : Int32)) hx hb dJ6_numberOfTrailingZeros_0f7a4_71 (by decide) ?_
            refine lv_iushr hx hb dJ6_numberOfTrailingZeros_0f7a4_72 rfl ?_
            refine lv_topi (fun x16 ex16 => ?_)
            replace hf := nm_some ex16 hf
            refine lv_istore_n (lv' := [(0, .int x16), (1, .int x15)]) hx hb dJ6_numberOfTrailingZeros_0f7a4_73 rfl hl (by decide) rfl (fun ls hl => ?_)
            cases hf
            exact J11 H locs I ls (lv_sub hl [0, 1] rfl)
        replace hf := hv18
        refine lv_icmp_le (tgt := 62) hx hb dJ6_numberOfTrailingZeros_0f7a4_52 (by decide) (fun c21 => ?_) (fun c21 => ?_)
        · replace hf := (if_pos c21).symm.trans hf
          cases hf
          exact J8 H locs I ls (lv_sub hl [0, 1] rfl)
        · replace hf := (if_neg c21).symm.trans hf
          obtain ⟨x19, ex19⟩ : ∃ y : Int32, y = x7 + (4 : Int32) := ⟨_, rfl⟩
          replace hf := nm_some ex19 hf
          refine lv_iinc (v := x19) (lv' := [(1, .int x19), (0, .int x6)]) hx hb dJ6_numberOfTrailingZeros_0f7a4_55 hl (k := 1) rfl (by rw [ex19]; rfl) (by decide) rfl (fun ls hl => ?_)
          refine lv_iload_n hx hb dJ6_numberOfTrailingZeros_0f7a4_58 rfl (lv_at hl 1 rfl) ?_
          refine lv_iconst (v := (4 : Int32)) hx hb dJ6_numberOfTrailingZeros_0f7a4_59 (by decide) ?_
          refine lv_iushr hx hb dJ6_numberOfTrailingZeros_0f7a4_60 rfl ?_
          refine lv_topi (fun x20 ex20 => ?_)
          replace hf := nm_some ex20 hf
          refine lv_istore_n (lv' := [(0, .int x20), (1, .int x19)]) hx hb dJ6_numberOfTrailingZeros_0f7a4_61 rfl hl (by decide) rfl (fun ls hl => ?_)
          cases hf
          exact J8 H locs I ls (lv_sub hl [0, 1] rfl)
      replace hf := hv22
      refine lv_icmp_le (tgt := 49) hx hb dJ6_numberOfTrailingZeros_0f7a4_38 (by decide) (fun c25 => ?_) (fun c25 => ?_)
      · replace hf := (if_pos c25).symm.trans hf
        cases hf
        exact J5 H locs I ls (lv_sub hl [0, 1] rfl)
      · replace hf := (if_neg c25).symm.trans hf
        obtain ⟨x23, ex23⟩ : ∃ y : Int32, y = x4 + (8 : Int32) := ⟨_, rfl⟩
        replace hf := nm_some ex23 hf
        refine lv_iinc (v := x23) (lv' := [(1, .int x23), (0, .int x3)]) hx hb dJ6_numberOfTrailingZeros_0f7a4_41 hl (k := 1) rfl (by rw [ex23]; rfl) (by decide) rfl (fun ls hl => ?_)
        refine lv_iload_n hx hb dJ6_numberOfTrailingZeros_0f7a4_44 rfl (lv_at hl 1 rfl) ?_
        refine lv_bipush (v := (8 : Int32)) hx hb dJ6_numberOfTrailingZeros_0f7a4_45 (by decide) ?_
        refine lv_iushr hx hb dJ6_numberOfTrailingZeros_0f7a4_47 rfl ?_
        refine lv_topi (fun x24 ex24 => ?_)
        replace hf := nm_some ex24 hf
        refine lv_istore_n (lv' := [(0, .int x24), (1, .int x23)]) hx hb dJ6_numberOfTrailingZeros_0f7a4_48 rfl hl (by decide) rfl (fun ls hl => ?_)
        cases hf
        exact J5 H locs I ls (lv_sub hl [0, 1] rfl)
    replace hf := hv26
    refine lv_icmp_le (tgt := 34) hx hb dJ6_numberOfTrailingZeros_0f7a4_23 (by decide) (fun c29 => ?_) (fun c29 => ?_)
    · replace hf := (if_pos c29).symm.trans hf
      cases hf
      exact J2 H locs I ls (lv_sub hl [1, 0] rfl)
    · replace hf := (if_neg c29).symm.trans hf
      obtain ⟨x27, ex27⟩ : ∃ y : Int32, y = (1 : Int32) + (16 : Int32) := ⟨_, rfl⟩
      replace hf := nm_some ex27 hf
      refine lv_iinc (v := x27) (lv' := [(1, .int x27), (0, .int x1)]) hx hb dJ6_numberOfTrailingZeros_0f7a4_26 hl (k := 0) rfl (by rw [ex27]; rfl) (by decide) rfl (fun ls hl => ?_)
      refine lv_iload_n hx hb dJ6_numberOfTrailingZeros_0f7a4_29 rfl (lv_at hl 1 rfl) ?_
      refine lv_bipush (v := (16 : Int32)) hx hb dJ6_numberOfTrailingZeros_0f7a4_30 (by decide) ?_
      refine lv_iushr hx hb dJ6_numberOfTrailingZeros_0f7a4_32 rfl ?_
      refine lv_topi (fun x28 ex28 => ?_)
      replace hf := nm_some ex28 hf
      refine lv_istore_n (lv' := [(0, .int x28), (1, .int x27)]) hx hb dJ6_numberOfTrailingZeros_0f7a4_33 rfl hl (by decide) rfl (fun ls hl => ?_)
      cases hf
      exact J2 H locs I ls (lv_sub hl [0, 1] rfl)
  · replace hf := (if_neg c30).symm.trans hf
    refine lv_iload_n hx hb dJ6_numberOfTrailingZeros_0f7a4_12 rfl (lv_at hl 0 rfl) ?_
    refine lv_bipush (v := (32 : Int32)) hx hb dJ6_numberOfTrailingZeros_0f7a4_13 (by decide) ?_
    refine lv_iand hx hb dJ6_numberOfTrailingZeros_0f7a4_15 ?_
    cases hf
    exact ret H locs _ ls I dJ6_numberOfTrailingZeros_0f7a4_16
def C_LT_cell (a0 : Int32) (a1 : Int32) : Int32 :=
(((a0 &&& (7 : Int32)) <<< ((3 : Int32) &&& 31)) ||| (a1 &&& (7 : Int32)))
set_option maxRecDepth 100000 in
set_option maxHeartbeats 4000000 in
theorem cC_LT_cell (G : Nat → Nat → Int32) (E : Nat → Nat → Int64) (Dd : Nat → Nat → UInt64) (P : Nat → Option Nat) (L : List Nat) (pf : Nat → va_E) (a0 : Int32) (a1 : Int32) (rv : Int32)  (hv : rv = C_LT_cell a0 a1) : sMi D (cT cI cJ cD cS) (cW ad cI cJ cD cS) l yX11_cell (ws1 yX11_cell cX11_cell 2 (some .int)) ({ frames := 0, cells := 0, slots := 0, locals := 0 }) [.int a0, .int a1] (G, E, Dd, P, L, pf) (rv, (G, E, Dd, P, L, pf)) := by
  have hf : (some (((a0 &&& (7 : Int32)) <<< ((3 : Int32) &&& 31)) ||| (a1 &&& (7 : Int32)))) = some rv := by rw [hv]; rfl
  refine sMi_of (by decide) (Nat.le_of_ble_eq_true rfl) ?_
  intro p e R s m args below meth c A Q ls H locs F hRf hRl I hl ret
  obtain ⟨hx, hb, hml, hown, hG⟩ := id F
  replace hl : lv_has ls 2 [(0, .int a0), (1, .int a1)] := hl
  refine lv_iload_n hx hb dX11_cell_0 rfl (lv_at hl 0 rfl) ?_
  refine lv_bipush (v := (7 : Int32)) hx hb dX11_cell_1 (by decide) ?_
  refine lv_iand hx hb dX11_cell_3 ?_
  refine lv_iconst (v := (3 : Int32)) hx hb dX11_cell_4 (by decide) ?_
  refine lv_ishl hx hb dX11_cell_5 ?_
  refine lv_iload_n hx hb dX11_cell_6 rfl (lv_at hl 1 rfl) ?_
  refine lv_bipush (v := (7 : Int32)) hx hb dX11_cell_7 (by decide) ?_
  refine lv_iand hx hb dX11_cell_9 ?_
  refine lv_ior hx hb dX11_cell_10 ?_
  cases hf
  exact ret H locs _ ls I dX11_cell_11
def C_LE_lead_22 (G : Nat → Nat → Int32) (a0 : Int32) (a1 : Int32) : Option (Int32) :=
nm (C_LT_cell a0 a1) fun r1 =>
ri 64 r1 <|
some (G 20 r1.toNatClampNeg)
set_option maxRecDepth 100000 in
set_option maxHeartbeats 4000000 in
theorem cC_LE_lead_22 (G : Nat → Nat → Int32) (E : Nat → Nat → Int64) (Dd : Nat → Nat → UInt64) (P : Nat → Option Nat) (L : List Nat) (pf : Nat → va_E) (a0 : Int32) (a1 : Int32) (rv : Int32)  (hf : C_LE_lead_22 G a0 a1 = some rv) : sMi D (cT cI cJ cD cS) (cW ad cI cJ cD cS) l yX3_lead (ws1 yX3_lead cX3_lead 3 (some .int)) ({ frames := 1, cells := 0, slots := 0, locals := 21 }) [.ref (ad 22), .int a0, .int a1] (G, E, Dd, P, L, pf) (rv, (G, E, Dd, P, L, pf)) := by
  unfold C_LE_lead_22 at hf
  refine sMi_of (by decide) (Nat.le_of_ble_eq_true rfl) ?_
  intro p e R s m args below meth c A Q ls H locs F hRf hRl I hl ret
  obtain ⟨hx, hb, hml, hown, hG⟩ := id F
  replace hl : lv_has ls 3 [(0, .ref (ad 22)), (1, .int a0), (2, .int a1)] := hl
  refine lv_aload_n hx hb dX3_lead_0 rfl (lv_at hl 0 rfl) ?_
  refine kgtX3_9_22 F I dX3_lead_1 ?_
  refine lv_iload_n hx hb dX3_lead_4 rfl (lv_at hl 1 rfl) ?_
  refine lv_iload_n hx hb dX3_lead_5 rfl (lv_at hl 2 rfl) ?_
  obtain ⟨r1, h2⟩ : ∃ z, z = C_LT_cell a0 a1 := ⟨_, rfl⟩
  replace hf := nm_some h2 hf
  refine s_callSNi (As := [.int a0, .int a1]) (rest := [.ref (ad 23)]) F I (cC_LT_cell G E Dd P L pf a0 a1 r1 h2) kX3_50 ⟨rfl, rfl⟩ ⟨Nat.le_trans (Nat.le_of_ble_eq_true rfl) hRf, Nat.le_trans (Nat.le_of_ble_eq_true rfl) hRl⟩ rfl rfl hl.1 (Nat.le_of_ble_eq_true rfl) ⟨Nat.zero_le _, Nat.zero_le _⟩ dX3_lead_6 ?_
  intro H locs I
  obtain ⟨g3, hf⟩ := ri_some hf
  refine kal23 F I g3 dX3_lead_9 ?_
  cases hf
  exact ret H locs _ ls I dX3_lead_10
def C_BO_takeCosts_22_s2 (x1 : Int32) (x4 : Int32) (x9 : Int32) (G10 : Nat → Nat → Int32) : Option ((Int32 × (Nat → Nat → Int32)) ⊕ ((Nat → Nat → Int32))) :=
if (16 : Int32) ≤ x9 then
(some (.inr G10))
else
(bd (C_JI_numberOfTrailingZeros_ x9) fun r13 =>
nm (x4 + (x9 &&& (x9 - (1 : Int32))) : Int32) fun x15 =>
ri 128 x15 <|
bd (C_LE_lead_22 G10 r13 x1) fun r17 =>
ri 128 (x4 + x9) <|
nm (wr G10 37 (x4 + x9) ((G10 37 x15.toNatClampNeg) + (if (0 : Int32) < r17 then r17 else (0 : Int32)))) fun G20 =>
ri 128 x15 <|
bd (C_LE_lead_22 G20 (r13 + (4 : Int32)) x1) fun r22 =>
ri 128 (x4 + x9) <|
nm (wr G20 38 (x4 + x9) ((G20 38 x15.toNatClampNeg) + (if (0 : Int32) < r22 then r22 else (0 : Int32)))) fun G25 =>
nm (x9 + (1 : Int32) : Int32) fun x26 =>
some (.inl (x26, G25)))
def C_BO_takeCosts_22_s1  (x1 : Int32) (G2 : Nat → Nat → Int32) : Option ((Int32 × (Nat → Nat → Int32)) ⊕ ((Nat → Nat → Int32))) :=
if G2 31 0 ≤ x1 then
(some (.inr G2))
else
(nm (x1 * (16 : Int32) : Int32) fun x4 =>
ri 128 x4 <|
nm (wr G2 37 x4 (0 : Int32)) fun G6 =>
ri 128 x4 <|
nm (wr G6 38 x4 (0 : Int32)) fun G8 =>
bd (lp (fun q => C_BO_takeCosts_22_s2 x1 x4 q.1 q.2) FU ((1 : Int32), G8)) fun G11 =>
nm (x1 + (1 : Int32) : Int32) fun x12 =>
some (.inl (x12, G11)))
def C_BO_takeCosts_22 (G : Nat → Nat → Int32) : Option ((Nat → Nat → Int32)) :=
bd (lp (fun q => C_BO_takeCosts_22_s1 q.1 q.2) FU ((0 : Int32), G)) fun G3 =>
some G3
set_option maxRecDepth 100000 in
set_option maxHeartbeats 4000000 in
theorem cC_BO_takeCosts_22 (G : Nat → Nat → Int32) (E : Nat → Nat → Int64) (Dd : Nat → Nat → UInt64) (P : Nat → Option Nat) (L : List Nat) (pf : Nat → va_E)   (newG : Nat → Nat → Int32) (hf : C_BO_takeCosts_22 G = some newG) : sMv D (cT cI cJ cD cS) (cW ad cI cJ cD cS) l yX0_takeCosts (ws1 yX0_takeCosts cX0_takeCosts 7 none) ({ frames := 2, cells := 0, slots := 0, locals := 43 }) [.ref (ad 24), .ref (ad 22)] (G, E, Dd, P, L, pf) (newG, E, Dd, P, L, pf) := by
  unfold C_BO_takeCosts_22 at hf
  refine sMv_of (by decide) (Nat.le_of_ble_eq_true rfl) ?_
  intro p e R s m args below meth c A Q ls H locs F hRf hRl I hl ret
  obtain ⟨hx, hb, hml, hown, hG⟩ := id F
  replace hl : lv_has ls 7 [(0, .ref (ad 24)), (1, .ref (ad 22))] := hl
  refine lv_iconst (v := (0 : Int32)) hx hb dX0_takeCosts_0 (by decide) ?_
  refine lv_istore_n (lv' := [(2, .int (0 : Int32)), (0, .ref (ad 24)), (1, .ref (ad 22))]) hx hb dX0_takeCosts_1 rfl hl (by decide) rfl (fun ls hl => ?_)
  obtain ⟨G3, hq1, hf⟩ := bd_some hf
  have K1 : ∀ (H : Heap) (locs : List Loc), sInv D (cT cI cJ cD cS) (cW ad cI cJ cD cS) A s H locs (G3, E, Dd, P, L, pf) → ∀ (ls : Array Slot), lv_has ls 7 [] → W p l e R s m args below meth c H locs 0 0 Q (F0 m 127 ls []) := by
    intro H locs I ls hl
    cases hf
    exact ret H locs _ ls I dX0_takeCosts_127
  have L1 : ∀ (n : Nat) (x1 : Int32) (G2 : Nat → Nat → Int32), lp (fun q => C_BO_takeCosts_22_s1 q.1 q.2) n (x1, G2) = some G3 → ∀ (H : Heap) (locs : List Loc), sInv D (cT cI cJ cD cS) (cW ad cI cJ cD cS) A s H locs (G2, E, Dd, P, L, pf) → ∀ (ls : Array Slot), lv_has ls 7 [(0, .ref (ad 24)), (1, .ref (ad 22)), (2, .int x1)] → W p l e R s m args below meth c H locs 0 0 Q (F0 m 2 ls []) := by
    intro n
    induction n with
    | zero => intro x1 G2 hq; exact (lp_0 hq).elim
    | succ n ih1 =>
      intro x1 G2 hq H locs I ls hl
      obtain ⟨y1, hf, hK1⟩ := lp_go hq
      replace hf : C_BO_takeCosts_22_s1 x1 G2 = some y1 := hf
      unfold C_BO_takeCosts_22_s1 at hf
      refine lv_iload_n hx hb dX0_takeCosts_2 rfl (lv_at hl 2 rfl) ?_
      refine lv_aload_n hx hb dX0_takeCosts_3 rfl (lv_at hl 0 rfl) ?_
      refine kgtX0_15_24 F I dX0_takeCosts_4 ?_
      refine lv_icmp_ge (tgt := 127) hx hb dX0_takeCosts_7 (by decide) (fun c28 => ?_) (fun c28 => ?_)
      · replace hf := (if_pos c28).symm.trans hf
        cases hf
        cases (show G2 = G3 from hK1)
        exact K1 H locs I ls (lv_sub hl [] rfl)
      · replace hf := (if_neg c28).symm.trans hf
        refine lv_iload_n hx hb dX0_takeCosts_10 rfl (lv_at hl 2 rfl) ?_
        refine lv_bipush (v := (16 : Int32)) hx hb dX0_takeCosts_11 (by decide) ?_
        refine lv_imul hx hb dX0_takeCosts_13 ?_
        refine lv_topi (fun x4 ex4 => ?_)
        replace hf := nm_some ex4 hf
        refine lv_istore_n (lv' := [(3, .int x4), (0, .ref (ad 24)), (1, .ref (ad 22)), (2, .int x1)]) hx hb dX0_takeCosts_14 rfl hl (by decide) rfl (fun ls hl => ?_)
        refine lv_aload_n hx hb dX0_takeCosts_15 rfl (lv_at hl 1 rfl) ?_
        refine kgtX0_35_24 F I dX0_takeCosts_16 ?_
        refine lv_iload_n hx hb dX0_takeCosts_19 rfl (lv_at hl 0 rfl) ?_
        refine lv_iconst (v := (0 : Int32)) hx hb dX0_takeCosts_20 (by decide) ?_
        obtain ⟨g5, hf⟩ := ri_some hf
        refine kas28 F I g5 dX0_takeCosts_21 ?_
        intro H locs G6 eG6 I
        replace hf := nm_some eG6 hf
        refine lv_aload_n hx hb dX0_takeCosts_22 rfl (lv_at hl 1 rfl) ?_
        refine kgtX0_38_24 F I dX0_takeCosts_23 ?_
        refine lv_iload_n hx hb dX0_takeCosts_26 rfl (lv_at hl 0 rfl) ?_
        refine lv_iconst (v := (0 : Int32)) hx hb dX0_takeCosts_27 (by decide) ?_
        obtain ⟨g7, hf⟩ := ri_some hf
        refine kas29 F I g7 dX0_takeCosts_28 ?_
        intro H locs G8 eG8 I
        replace hf := nm_some eG8 hf
        refine lv_iconst (v := (1 : Int32)) hx hb dX0_takeCosts_29 (by decide) ?_
        refine lv_istore (lv' := [(4, .int (1 : Int32)), (3, .int x4), (0, .ref (ad 24)), (1, .ref (ad 22)), (2, .int x1)]) hx hb dX0_takeCosts_30 hl (by decide) rfl (fun ls hl => ?_)
        obtain ⟨G11, hq2, hf⟩ := bd_some hf
        have K2 : ∀ (H : Heap) (locs : List Loc), sInv D (cT cI cJ cD cS) (cW ad cI cJ cD cS) A s H locs (G11, E, Dd, P, L, pf) → ∀ (ls : Array Slot), lv_has ls 7 [(0, .ref (ad 24)), (1, .ref (ad 22)), (2, .int x1)] → W p l e R s m args below meth c H locs 0 0 Q (F0 m 121 ls []) := by
          intro H locs I ls hl
          obtain ⟨x12, ex12⟩ : ∃ y : Int32, y = x1 + (1 : Int32) := ⟨_, rfl⟩
          replace hf := nm_some ex12 hf
          refine lv_iinc (v := x12) (lv' := [(2, .int x12), (0, .ref (ad 24)), (1, .ref (ad 22))]) hx hb dX0_takeCosts_121 hl (k := 2) rfl (by rw [ex12]; rfl) (by decide) rfl (fun ls hl => ?_)
          refine lv_goto (tgt := 2) hx hb dX0_takeCosts_124 (by decide) ?_
          cases hf
          exact ih1 _ _ hK1 H locs I ls (lv_sub hl [1, 2, 0] rfl)
        have L2 : ∀ (n : Nat) (x9 : Int32) (G10 : Nat → Nat → Int32), lp (fun q => C_BO_takeCosts_22_s2 x1 x4 q.1 q.2) n (x9, G10) = some G11 → ∀ (H : Heap) (locs : List Loc), sInv D (cT cI cJ cD cS) (cW ad cI cJ cD cS) A s H locs (G10, E, Dd, P, L, pf) → ∀ (ls : Array Slot), lv_has ls 7 [(0, .ref (ad 24)), (1, .ref (ad 22)), (2, .int x1), (3, .int x4), (4, .int x9)] → W p l e R s m args below meth c H locs 0 0 Q (F0 m 32 ls []) := by
          intro n
          induction n with
          | zero => intro x9 G10 hq; exact (lp_0 hq).elim
          | succ n ih2 =>
            intro x9 G10 hq H locs I ls hl
            obtain ⟨y2, hf, hK2⟩ := lp_go hq
            replace hf : C_BO_takeCosts_22_s2 x1 x4 x9 G10 = some y2 := hf
            unfold C_BO_takeCosts_22_s2 at hf
            refine lv_iload hx hb dX0_takeCosts_32 (lv_at hl 4 rfl) ?_
            refine lv_bipush (v := (16 : Int32)) hx hb dX0_takeCosts_34 (by decide) ?_
            refine lv_icmp_ge (tgt := 121) hx hb dX0_takeCosts_36 (by decide) (fun c27 => ?_) (fun c27 => ?_)
            · replace hf := (if_pos c27).symm.trans hf
              cases hf
              cases (show G10 = G11 from hK2)
              exact K2 H locs I ls (lv_sub hl [0, 1, 2] rfl)
            · replace hf := (if_neg c27).symm.trans hf
              refine lv_iload hx hb dX0_takeCosts_39 (lv_at hl 4 rfl) ?_
              obtain ⟨r13, h14, hf⟩ := bd_some hf
              refine s_callSi (As := [.int x9]) (rest := []) F I (cC_JI_numberOfTrailingZeros_ G10 E Dd P L pf x9 r13 h14) kX0_58 ⟨rfl, rfl⟩ ⟨Nat.le_trans (Nat.le_of_ble_eq_true rfl) hRf, Nat.le_trans (Nat.le_of_ble_eq_true rfl) hRl⟩ rfl rfl hl.1 (Nat.le_of_ble_eq_true rfl) ⟨Nat.zero_le _, Nat.zero_le _⟩ dX0_takeCosts_41 ?_
              intro H locs I
              refine lv_istore (lv' := [(5, .int r13), (0, .ref (ad 24)), (1, .ref (ad 22)), (2, .int x1), (3, .int x4), (4, .int x9)]) hx hb dX0_takeCosts_44 hl (by decide) rfl (fun ls hl => ?_)
              refine lv_iload_n hx hb dX0_takeCosts_46 rfl (lv_at hl 4 rfl) ?_
              refine lv_iload hx hb dX0_takeCosts_47 (lv_at hl 5 rfl) ?_
              refine lv_iload hx hb dX0_takeCosts_49 (lv_at hl 5 rfl) ?_
              refine lv_iconst (v := (1 : Int32)) hx hb dX0_takeCosts_51 (by decide) ?_
              refine lv_isub hx hb dX0_takeCosts_52 ?_
              refine lv_iand hx hb dX0_takeCosts_53 ?_
              refine lv_iadd hx hb dX0_takeCosts_54 ?_
              refine lv_topi (fun x15 ex15 => ?_)
              replace hf := nm_some ex15 hf
              refine lv_istore (lv' := [(6, .int x15), (5, .int r13), (0, .ref (ad 24)), (1, .ref (ad 22)), (2, .int x1), (3, .int x4), (4, .int x9)]) hx hb dX0_takeCosts_55 hl (by decide) rfl (fun ls hl => ?_)
              refine lv_aload_n hx hb dX0_takeCosts_57 rfl (lv_at hl 2 rfl) ?_
              refine kgtX0_35_24 F I dX0_takeCosts_58 ?_
              refine lv_iload_n hx hb dX0_takeCosts_61 rfl (lv_at hl 5 rfl) ?_
              refine lv_iload hx hb dX0_takeCosts_62 (lv_at hl 6 rfl) ?_
              refine lv_iadd hx hb dX0_takeCosts_64 ?_
              refine lv_aload_n hx hb dX0_takeCosts_65 rfl (lv_at hl 2 rfl) ?_
              refine kgtX0_35_24 F I dX0_takeCosts_66 ?_
              refine lv_iload hx hb dX0_takeCosts_69 (lv_at hl 0 rfl) ?_
              obtain ⟨g16, hf⟩ := ri_some hf
              refine kal28 F I g16 dX0_takeCosts_71 ?_
              refine lv_iconst (v := (0 : Int32)) hx hb dX0_takeCosts_72 (by decide) ?_
              refine lv_aload_n hx hb dX0_takeCosts_73 rfl (lv_at hl 3 rfl) ?_
              refine lv_iload hx hb dX0_takeCosts_74 (lv_at hl 1 rfl) ?_
              refine lv_iload_n hx hb dX0_takeCosts_76 rfl (lv_at hl 4 rfl) ?_
              obtain ⟨r17, h18, hf⟩ := bd_some hf
              refine s_callVi (As := [.int r13, .int x1]) (rest := [.int (0 : Int32), .int (G10 37 x15.toNatClampNeg), .int (x4 + x9), .ref (ad 28)]) F I (cC_LE_lead_22 G10 E Dd P L pf r13 x1 r17 h18) kX0_64 ⟨rfl, rfl⟩ ⟨Nat.le_trans (Nat.le_of_ble_eq_true rfl) hRf, Nat.le_trans (Nat.le_of_ble_eq_true rfl) hRl⟩ 22 3 rfl rfl rfl rfl rfl hl.1 (Nat.le_of_ble_eq_true rfl) ⟨Nat.zero_le _, Nat.zero_le _⟩ dX0_takeCosts_77 ?_
              intro H locs I
              refine va_mmax hx hb (hml.trans hl.1.symm) hown (hG _ q705) (hG _ q467) (hG _ q126) (hG _ q468) (Nat.le_trans (Nat.le_of_ble_eq_true rfl) hRf) (Nat.le_trans (Nat.le_of_ble_eq_true rfl) hRl) (Nat.zero_le _) (Nat.zero_le _) dX0_takeCosts_80 ?_
              refine lv_iadd hx hb dX0_takeCosts_83 ?_
              obtain ⟨g19, hf⟩ := ri_some hf
              refine kas28 F I g19 dX0_takeCosts_84 ?_
              intro H locs G20 eG20 I
              replace hf := nm_some eG20 hf
              refine lv_aload_n hx hb dX0_takeCosts_85 rfl (lv_at hl 2 rfl) ?_
              refine kgtX0_38_24 F I dX0_takeCosts_86 ?_
              refine lv_iload_n hx hb dX0_takeCosts_89 rfl (lv_at hl 5 rfl) ?_
              refine lv_iload hx hb dX0_takeCosts_90 (lv_at hl 6 rfl) ?_
              refine lv_iadd hx hb dX0_takeCosts_92 ?_
              refine lv_aload_n hx hb dX0_takeCosts_93 rfl (lv_at hl 2 rfl) ?_
              refine kgtX0_38_24 F I dX0_takeCosts_94 ?_
              refine lv_iload hx hb dX0_takeCosts_97 (lv_at hl 0 rfl) ?_
              obtain ⟨g21, hf⟩ := ri_some hf
              refine kal29 F I g21 dX0_takeCosts_99 ?_
              refine lv_iconst (v := (0 : Int32)) hx hb dX0_takeCosts_100 (by decide) ?_
              refine lv_aload_n hx hb dX0_takeCosts_101 rfl (lv_at hl 3 rfl) ?_
              refine lv_iload hx hb dX0_takeCosts_102 (lv_at hl 1 rfl) ?_
              refine lv_iconst (v := (4 : Int32)) hx hb dX0_takeCosts_104 (by decide) ?_
              refine lv_iadd hx hb dX0_takeCosts_105 ?_
              refine lv_iload_n hx hb dX0_takeCosts_106 rfl (lv_at hl 4 rfl) ?_
              obtain ⟨r22, h23, hf⟩ := bd_some hf
              refine s_callVi (As := [.int (r13 + (4 : Int32)), .int x1]) (rest := [.int (0 : Int32), .int (G20 38 x15.toNatClampNeg), .int (x4 + x9), .ref (ad 29)]) F I (cC_LE_lead_22 G20 E Dd P L pf (r13 + (4 : Int32)) x1 r22 h23) kX0_64 ⟨rfl, rfl⟩ ⟨Nat.le_trans (Nat.le_of_ble_eq_true rfl) hRf, Nat.le_trans (Nat.le_of_ble_eq_true rfl) hRl⟩ 22 3 rfl rfl rfl rfl rfl hl.1 (Nat.le_of_ble_eq_true rfl) ⟨Nat.zero_le _, Nat.zero_le _⟩ dX0_takeCosts_107 ?_
              intro H locs I
              refine va_mmax hx hb (hml.trans hl.1.symm) hown (hG _ q705) (hG _ q467) (hG _ q126) (hG _ q468) (Nat.le_trans (Nat.le_of_ble_eq_true rfl) hRf) (Nat.le_trans (Nat.le_of_ble_eq_true rfl) hRl) (Nat.zero_le _) (Nat.zero_le _) dX0_takeCosts_110 ?_
              refine lv_iadd hx hb dX0_takeCosts_113 ?_
              obtain ⟨g24, hf⟩ := ri_some hf
              refine kas29 F I g24 dX0_takeCosts_114 ?_
              intro H locs G25 eG25 I
              replace hf := nm_some eG25 hf
              obtain ⟨x26, ex26⟩ : ∃ y : Int32, y = x9 + (1 : Int32) := ⟨_, rfl⟩
              replace hf := nm_some ex26 hf
              refine lv_iinc (v := x26) (lv' := [(4, .int x26), (6, .int x15), (5, .int r13), (0, .ref (ad 24)), (1, .ref (ad 22)), (2, .int x1), (3, .int x4)]) hx hb dX0_takeCosts_115 hl (k := 6) rfl (by rw [ex26]; rfl) (by decide) rfl (fun ls hl => ?_)
              refine lv_goto (tgt := 32) hx hb dX0_takeCosts_118 (by decide) ?_
              cases hf
              exact ih2 _ _ hK2 H locs I ls (lv_sub hl [3, 4, 5, 6, 0] rfl)
        exact L2 FU _ _ hq2 H locs I ls (lv_sub hl [2, 3, 4, 1, 0] rfl)
  exact L1 FU _ _ hq1 H locs I ls (lv_sub hl [1, 2, 0] rfl)
def C_BO_setWithout (a0 : Int32) (a1 : Int32) : Int32 :=
((a0 &&& (((1 : Int32) <<< (a1 &&& 31)) ^^^ (-1 : Int32))) &&& (255 : Int32))
set_option maxRecDepth 100000 in
set_option maxHeartbeats 4000000 in
theorem cC_BO_setWithout (G : Nat → Nat → Int32) (E : Nat → Nat → Int64) (Dd : Nat → Nat → UInt64) (P : Nat → Option Nat) (L : List Nat) (pf : Nat → va_E) (a0 : Int32) (a1 : Int32) (rv : Int32)  (hv : rv = C_BO_setWithout a0 a1) : sMi D (cT cI cJ cD cS) (cW ad cI cJ cD cS) l yX0_setWithout (ws1 yX0_setWithout cX0_setWithout 2 (some .int)) ({ frames := 0, cells := 0, slots := 0, locals := 0 }) [.int a0, .int a1] (G, E, Dd, P, L, pf) (rv, (G, E, Dd, P, L, pf)) := by
  have hf : (some ((a0 &&& (((1 : Int32) <<< (a1 &&& 31)) ^^^ (-1 : Int32))) &&& (255 : Int32))) = some rv := by rw [hv]; rfl
  refine sMi_of (by decide) (Nat.le_of_ble_eq_true rfl) ?_
  intro p e R s m args below meth c A Q ls H locs F hRf hRl I hl ret
  obtain ⟨hx, hb, hml, hown, hG⟩ := id F
  replace hl : lv_has ls 2 [(0, .int a0), (1, .int a1)] := hl
  refine lv_iload_n hx hb dX0_setWithout_0 rfl (lv_at hl 0 rfl) ?_
  refine lv_iconst (v := (1 : Int32)) hx hb dX0_setWithout_1 (by decide) ?_
  refine lv_iload_n hx hb dX0_setWithout_2 rfl (lv_at hl 1 rfl) ?_
  refine lv_ishl hx hb dX0_setWithout_3 ?_
  refine lv_iconst (v := (-1 : Int32)) hx hb dX0_setWithout_4 (by decide) ?_
  refine lv_ixor hx hb dX0_setWithout_5 ?_
  refine lv_iand hx hb dX0_setWithout_6 ?_
  refine lv_sipush (v := (255 : Int32)) hx hb dX0_setWithout_7 (by decide) ?_
  refine lv_iand hx hb dX0_setWithout_10 ?_
  cases hf
  exact ret H locs _ ls I dX0_setWithout_11
def C_LT_contains (a0 : Int32) (a1 : Int32) : Option (Int32) :=
if (a0 >>> (a1 &&& 31)) &&& (1 : Int32) = 0 then
(some (0 : Int32))
else
(some (1 : Int32))
set_option maxRecDepth 100000 in
set_option maxHeartbeats 4000000 in
theorem cC_LT_contains (G : Nat → Nat → Int32) (E : Nat → Nat → Int64) (Dd : Nat → Nat → UInt64) (P : Nat → Option Nat) (L : List Nat) (pf : Nat → va_E) (a0 : Int32) (a1 : Int32) (rv : Int32)  (hf : C_LT_contains a0 a1 = some rv) : sMi D (cT cI cJ cD cS) (cW ad cI cJ cD cS) l yX11_contains (ws1 yX11_contains cX11_contains 2 (some .boolean)) ({ frames := 0, cells := 0, slots := 0, locals := 0 }) [.int a0, .int a1] (G, E, Dd, P, L, pf) (rv, (G, E, Dd, P, L, pf)) := by
  unfold C_LT_contains at hf
  refine sMz_of (by decide) (Nat.le_of_ble_eq_true rfl) ?_
  intro p e R s m args below meth c A Q ls H locs F hRf hRl I hl ret
  obtain ⟨hx, hb, hml, hown, hG⟩ := id F
  replace hl : lv_has ls 2 [(0, .int a0), (1, .int a1)] := hl
  refine lv_iload_n hx hb dX11_contains_0 rfl (lv_at hl 0 rfl) ?_
  refine lv_iload_n hx hb dX11_contains_1 rfl (lv_at hl 1 rfl) ?_
  refine lv_ishr hx hb dX11_contains_2 ?_
  refine lv_iconst (v := (1 : Int32)) hx hb dX11_contains_3 (by decide) ?_
  refine lv_iand hx hb dX11_contains_4 ?_
  refine lv_if_eq (tgt := 12) hx hb dX11_contains_5 (by decide) (fun c1 => ?_) (fun c1 => ?_)
  · replace hf := (if_pos c1).symm.trans hf
    refine lv_iconst (v := (0 : Int32)) hx hb dX11_contains_12 (by decide) ?_
    cases hf
    exact ret H locs _ ls I (Or.inl rfl) dX11_contains_13
  · replace hf := (if_neg c1).symm.trans hf
    refine lv_iconst (v := (1 : Int32)) hx hb dX11_contains_8 (by decide) ?_
    refine lv_goto (tgt := 13) hx hb dX11_contains_9 (by decide) ?_
    cases hf
    exact ret H locs _ ls I (Or.inr rfl) dX11_contains_13
def C_BO_costBefore (G : Nat → Nat → Int32) (a0 : Int32) (a1 : Int32) : Option (Int32) :=
nm ((a0 &&& (7 : Int32)) * (16 : Int32) : Int32) fun x1 =>
ri 128 (x1 + (a1 &&& (15 : Int32))) <|
ri 128 (x1 + ((a1 >>> ((4 : Int32) &&& 31)) &&& (15 : Int32))) <|
some ((G 37 (x1 + (a1 &&& (15 : Int32))).toNatClampNeg) + (G 38 (x1 + ((a1 >>> ((4 : Int32) &&& 31)) &&& (15 : Int32))).toNatClampNeg))
set_option maxRecDepth 100000 in
set_option maxHeartbeats 4000000 in
theorem cC_BO_costBefore (G : Nat → Nat → Int32) (E : Nat → Nat → Int64) (Dd : Nat → Nat → UInt64) (P : Nat → Option Nat) (L : List Nat) (pf : Nat → va_E) (a0 : Int32) (a1 : Int32) (rv : Int32)  (hf : C_BO_costBefore G a0 a1 = some rv) : sMi D (cT cI cJ cD cS) (cW ad cI cJ cD cS) l yX0_costBefore (ws1 yX0_costBefore cX0_costBefore 4 (some .int)) ({ frames := 0, cells := 0, slots := 0, locals := 0 }) [.ref (ad 24), .int a0, .int a1] (G, E, Dd, P, L, pf) (rv, (G, E, Dd, P, L, pf)) := by
  unfold C_BO_costBefore at hf
  refine sMi_of (by decide) (Nat.le_of_ble_eq_true rfl) ?_
  intro p e R s m args below meth c A Q ls H locs F hRf hRl I hl ret
  obtain ⟨hx, hb, hml, hown, hG⟩ := id F
  replace hl : lv_has ls 4 [(0, .ref (ad 24)), (1, .int a0), (2, .int a1)] := hl
  refine lv_iload_n hx hb dX0_costBefore_0 rfl (lv_at hl 1 rfl) ?_
  refine lv_bipush (v := (7 : Int32)) hx hb dX0_costBefore_1 (by decide) ?_
  refine lv_iand hx hb dX0_costBefore_3 ?_
  refine lv_bipush (v := (16 : Int32)) hx hb dX0_costBefore_4 (by decide) ?_
  refine lv_imul hx hb dX0_costBefore_6 ?_
  refine lv_topi (fun x1 ex1 => ?_)
  replace hf := nm_some ex1 hf
  refine lv_istore_n (lv' := [(3, .int x1), (0, .ref (ad 24)), (1, .int a0), (2, .int a1)]) hx hb dX0_costBefore_7 rfl hl (by decide) rfl (fun ls hl => ?_)
  refine lv_aload_n hx hb dX0_costBefore_8 rfl (lv_at hl 1 rfl) ?_
  refine kgtX0_35_24 F I dX0_costBefore_9 ?_
  refine lv_iload_n hx hb dX0_costBefore_12 rfl (lv_at hl 0 rfl) ?_
  refine lv_iload_n hx hb dX0_costBefore_13 rfl (lv_at hl 3 rfl) ?_
  refine lv_bipush (v := (15 : Int32)) hx hb dX0_costBefore_14 (by decide) ?_
  refine lv_iand hx hb dX0_costBefore_16 ?_
  refine lv_iadd hx hb dX0_costBefore_17 ?_
  obtain ⟨g2, hf⟩ := ri_some hf
  refine kal28 F I g2 dX0_costBefore_18 ?_
  refine lv_aload_n hx hb dX0_costBefore_19 rfl (lv_at hl 1 rfl) ?_
  refine kgtX0_38_24 F I dX0_costBefore_20 ?_
  refine lv_iload_n hx hb dX0_costBefore_23 rfl (lv_at hl 0 rfl) ?_
  refine lv_iload_n hx hb dX0_costBefore_24 rfl (lv_at hl 3 rfl) ?_
  refine lv_iconst (v := (4 : Int32)) hx hb dX0_costBefore_25 (by decide) ?_
  refine lv_ishr hx hb dX0_costBefore_26 ?_
  refine lv_bipush (v := (15 : Int32)) hx hb dX0_costBefore_27 (by decide) ?_
  refine lv_iand hx hb dX0_costBefore_29 ?_
  refine lv_iadd hx hb dX0_costBefore_30 ?_
  obtain ⟨g3, hf⟩ := ri_some hf
  refine kal29 F I g3 dX0_costBefore_31 ?_
  refine lv_iadd hx hb dX0_costBefore_32 ?_
  cases hf
  exact ret H locs _ ls I dX0_costBefore_33
def C_BO_foremostOf_s1 (a0 : Int32) (G : Nat → Nat → Int32) (x1 : Int32) : Option ((Int32) ⊕ (Int32)) :=
if G 31 0 ≤ x1 then
(some (.inr (0 : Int32)))
else
(nm (C_BO_setWithout a0 x1) fun r2 =>
bd (C_LT_contains a0 x1) fun r4 =>
if r4 = 0 then
(nm (x1 + (1 : Int32) : Int32) fun x6 =>
some (.inl x6))
else
(ri 256 r2 <|
bd (C_BO_costBefore G x1 r2) fun r8 =>
ri 256 (a0 &&& (255 : Int32)) <|
if (G 35 r2.toNatClampNeg) + r8 = G 35 (a0 &&& (255 : Int32)).toNatClampNeg then
(some (.inr x1))
else
(nm (x1 + (1 : Int32) : Int32) fun x11 =>
some (.inl x11))))
def C_BO_foremostOf (G : Nat → Nat → Int32) (a0 : Int32) : Option (Int32) :=
lp (fun q => C_BO_foremostOf_s1 a0 G q) FU (0 : Int32)
set_option maxRecDepth 100000 in
set_option maxHeartbeats 4000000 in
theorem cC_BO_foremostOf (G : Nat → Nat → Int32) (E : Nat → Nat → Int64) (Dd : Nat → Nat → UInt64) (P : Nat → Option Nat) (L : List Nat) (pf : Nat → va_E) (a0 : Int32) (rv : Int32)  (hf : C_BO_foremostOf G a0 = some rv) : sMi D (cT cI cJ cD cS) (cW ad cI cJ cD cS) l yX0_foremostOf (ws1 yX0_foremostOf cX0_foremostOf 4 (some .int)) ({ frames := 1, cells := 0, slots := 0, locals := 23 }) [.ref (ad 24), .int a0] (G, E, Dd, P, L, pf) (rv, (G, E, Dd, P, L, pf)) := by
  unfold C_BO_foremostOf at hf
  refine sMi_of (by decide) (Nat.le_of_ble_eq_true rfl) ?_
  intro p e R s m args below meth c A Q ls H locs F hRf hRl I hl ret
  obtain ⟨hx, hb, hml, hown, hG⟩ := id F
  replace hl : lv_has ls 4 [(0, .ref (ad 24)), (1, .int a0)] := hl
  refine lv_iconst (v := (0 : Int32)) hx hb dX0_foremostOf_0 (by decide) ?_
  refine lv_istore_n (lv' := [(2, .int (0 : Int32)), (0, .ref (ad 24)), (1, .int a0)]) hx hb dX0_foremostOf_1 rfl hl (by decide) rfl (fun ls hl => ?_)
  have hq1 : lp (fun q => C_BO_foremostOf_s1 a0 G q) FU (0 : Int32) = some rv := hf
  have L1 : ∀ (n : Nat) (x1 : Int32), lp (fun q => C_BO_foremostOf_s1 a0 G q) n x1 = some rv → ∀ (H : Heap) (locs : List Loc), sInv D (cT cI cJ cD cS) (cW ad cI cJ cD cS) A s H locs (G, E, Dd, P, L, pf) → ∀ (ls : Array Slot), lv_has ls 4 [(0, .ref (ad 24)), (1, .int a0), (2, .int x1)] → W p l e R s m args below meth c H locs 0 0 Q (F0 m 2 ls []) := by
    intro n
    induction n with
    | zero => intro x1 hq; exact (lp_0 hq).elim
    | succ n ih1 =>
      intro x1 hq H locs I ls hl
      obtain ⟨y1, hf, hK1⟩ := lp_go hq
      replace hf : C_BO_foremostOf_s1 a0 G x1 = some y1 := hf
      unfold C_BO_foremostOf_s1 at hf
      refine lv_iload_n hx hb dX0_foremostOf_2 rfl (lv_at hl 2 rfl) ?_
      refine lv_aload_n hx hb dX0_foremostOf_3 rfl (lv_at hl 0 rfl) ?_
      refine kgtX0_15_24 F I dX0_foremostOf_4 ?_
      refine lv_icmp_ge (tgt := 58) hx hb dX0_foremostOf_7 (by decide) (fun c14 => ?_) (fun c14 => ?_)
      · replace hf := (if_pos c14).symm.trans hf
        refine lv_iconst (v := (0 : Int32)) hx hb dX0_foremostOf_58 (by decide) ?_
        cases hf
        have hf := congrArg some (show _ = _ from hK1)
        cases hf
        exact ret H locs _ ls I dX0_foremostOf_59
      · replace hf := (if_neg c14).symm.trans hf
        refine lv_iload_n hx hb dX0_foremostOf_10 rfl (lv_at hl 1 rfl) ?_
        refine lv_iload_n hx hb dX0_foremostOf_11 rfl (lv_at hl 2 rfl) ?_
        obtain ⟨r2, h3⟩ : ∃ z, z = C_BO_setWithout a0 x1 := ⟨_, rfl⟩
        replace hf := nm_some h3 hf
        refine s_callSi (As := [.int a0, .int x1]) (rest := []) F I (cC_BO_setWithout G E Dd P L pf a0 x1 r2 h3) kX0_77 ⟨rfl, rfl⟩ ⟨Nat.le_trans (Nat.le_of_ble_eq_true rfl) hRf, Nat.le_trans (Nat.le_of_ble_eq_true rfl) hRl⟩ rfl rfl hl.1 (Nat.le_of_ble_eq_true rfl) ⟨Nat.zero_le _, Nat.zero_le _⟩ dX0_foremostOf_12 ?_
        intro H locs I
        refine lv_istore_n (lv' := [(3, .int r2), (0, .ref (ad 24)), (1, .int a0), (2, .int x1)]) hx hb dX0_foremostOf_15 rfl hl (by decide) rfl (fun ls hl => ?_)
        refine lv_iload_n hx hb dX0_foremostOf_16 rfl (lv_at hl 2 rfl) ?_
        refine lv_iload_n hx hb dX0_foremostOf_17 rfl (lv_at hl 3 rfl) ?_
        obtain ⟨r4, h5, hf⟩ := bd_some hf
        refine s_callSNi (As := [.int a0, .int x1]) (rest := []) F I (cC_LT_contains G E Dd P L pf a0 x1 r4 h5) kX0_73 ⟨rfl, rfl⟩ ⟨Nat.le_trans (Nat.le_of_ble_eq_true rfl) hRf, Nat.le_trans (Nat.le_of_ble_eq_true rfl) hRl⟩ rfl rfl hl.1 (Nat.le_of_ble_eq_true rfl) ⟨Nat.zero_le _, Nat.zero_le _⟩ dX0_foremostOf_18 ?_
        intro H locs I
        refine lv_if_eq (tgt := 52) hx hb dX0_foremostOf_21 (by decide) (fun c13 => ?_) (fun c13 => ?_)
        · replace hf := (if_pos c13).symm.trans hf
          obtain ⟨x6, ex6⟩ : ∃ y : Int32, y = x1 + (1 : Int32) := ⟨_, rfl⟩
          replace hf := nm_some ex6 hf
          refine lv_iinc (v := x6) (lv' := [(2, .int x6), (3, .int r2), (0, .ref (ad 24)), (1, .int a0)]) hx hb dX0_foremostOf_52 hl (k := 3) rfl (by rw [ex6]; rfl) (by decide) rfl (fun ls hl => ?_)
          refine lv_goto (tgt := 2) hx hb dX0_foremostOf_55 (by decide) ?_
          cases hf
          exact ih1 _ hK1 H locs I ls (lv_sub hl [2, 3, 0] rfl)
        · replace hf := (if_neg c13).symm.trans hf
          refine lv_aload_n hx hb dX0_foremostOf_24 rfl (lv_at hl 1 rfl) ?_
          refine kgtX0_29_24 F I dX0_foremostOf_25 ?_
          refine lv_iload_n hx hb dX0_foremostOf_28 rfl (lv_at hl 0 rfl) ?_
          obtain ⟨g7, hf⟩ := ri_some hf
          refine kal26 F I g7 dX0_foremostOf_29 ?_
          refine lv_aload_n hx hb dX0_foremostOf_30 rfl (lv_at hl 1 rfl) ?_
          refine lv_iload_n hx hb dX0_foremostOf_31 rfl (lv_at hl 3 rfl) ?_
          refine lv_iload_n hx hb dX0_foremostOf_32 rfl (lv_at hl 0 rfl) ?_
          obtain ⟨r8, h9, hf⟩ := bd_some hf
          refine s_callVi (As := [.int x1, .int r2]) (rest := [.int (G 35 r2.toNatClampNeg)]) F I (cC_BO_costBefore G E Dd P L pf x1 r2 r8 h9) kX0_80 ⟨rfl, rfl⟩ ⟨Nat.le_trans (Nat.le_of_ble_eq_true rfl) hRf, Nat.le_trans (Nat.le_of_ble_eq_true rfl) hRl⟩ 24 0 rfl rfl rfl rfl rfl hl.1 (Nat.le_of_ble_eq_true rfl) ⟨Nat.zero_le _, Nat.zero_le _⟩ dX0_foremostOf_33 ?_
          intro H locs I
          refine lv_iadd hx hb dX0_foremostOf_36 ?_
          refine lv_aload_n hx hb dX0_foremostOf_37 rfl (lv_at hl 1 rfl) ?_
          refine kgtX0_29_24 F I dX0_foremostOf_38 ?_
          refine lv_iload_n hx hb dX0_foremostOf_41 rfl (lv_at hl 2 rfl) ?_
          refine lv_sipush (v := (255 : Int32)) hx hb dX0_foremostOf_42 (by decide) ?_
          refine lv_iand hx hb dX0_foremostOf_45 ?_
          obtain ⟨g10, hf⟩ := ri_some hf
          refine kal26 F I g10 dX0_foremostOf_46 ?_
          refine lv_icmp_ne (tgt := 52) hx hb dX0_foremostOf_47 (by decide) (fun c12 => ?_) (fun c12 => ?_)
          · replace hf := (if_neg c12).symm.trans hf
            obtain ⟨x11, ex11⟩ : ∃ y : Int32, y = x1 + (1 : Int32) := ⟨_, rfl⟩
            replace hf := nm_some ex11 hf
            refine lv_iinc (v := x11) (lv' := [(2, .int x11), (3, .int r2), (0, .ref (ad 24)), (1, .int a0)]) hx hb dX0_foremostOf_52 hl (k := 3) rfl (by rw [ex11]; rfl) (by decide) rfl (fun ls hl => ?_)
            refine lv_goto (tgt := 2) hx hb dX0_foremostOf_55 (by decide) ?_
            cases hf
            exact ih1 _ hK1 H locs I ls (lv_sub hl [2, 3, 0] rfl)
          · replace hf := (if_pos c12).symm.trans hf
            refine lv_iload_n hx hb dX0_foremostOf_50 rfl (lv_at hl 3 rfl) ?_
            cases hf
            have hf := congrArg some (show _ = _ from hK1)
            cases hf
            exact ret H locs _ ls I dX0_foremostOf_51
  exact L1 FU _ hq1 H locs I ls (lv_sub hl [1, 2, 0] rfl)
def C_BO_readOff_s1  (x2 : Int32) (x3 : Int32) (G4 : Nat → Nat → Int32) : Option ((Int32 × Int32 × (Nat → Nat → Int32)) ⊕ ((Nat → Nat → Int32))) :=
if G4 31 0 ≤ x3 then
(some (.inr G4))
else
(bd (C_BO_foremostOf G4 x2) fun r6 =>
ri 8 x3 <|
nm (wr G4 34 x3 r6) fun G9 =>
nm (C_BO_setWithout x2 r6) fun r10 =>
nm (x3 + (1 : Int32) : Int32) fun x12 =>
some (.inl (r10, x12, G9)))
def C_BO_readOff (G : Nat → Nat → Int32) (a0 : Int32) : Option ((Nat → Nat → Int32)) :=
nm (a0 &&& (255 : Int32) : Int32) fun x1 =>
bd (lp (fun q => C_BO_readOff_s1 q.1 q.2.1 q.2.2) FU (x1, (0 : Int32), G)) fun G5 =>
some G5
set_option maxRecDepth 100000 in
set_option maxHeartbeats 4000000 in
theorem cC_BO_readOff (G : Nat → Nat → Int32) (E : Nat → Nat → Int64) (Dd : Nat → Nat → UInt64) (P : Nat → Option Nat) (L : List Nat) (pf : Nat → va_E) (a0 : Int32)  (newG : Nat → Nat → Int32) (hf : C_BO_readOff G a0 = some newG) : sMv D (cT cI cJ cD cS) (cW ad cI cJ cD cS) l yX0_readOff (ws1 yX0_readOff cX0_readOff 5 none) ({ frames := 2, cells := 0, slots := 0, locals := 46 }) [.ref (ad 24), .int a0] (G, E, Dd, P, L, pf) (newG, E, Dd, P, L, pf) := by
  unfold C_BO_readOff at hf
  refine sMv_of (by decide) (Nat.le_of_ble_eq_true rfl) ?_
  intro p e R s m args below meth c A Q ls H locs F hRf hRl I hl ret
  obtain ⟨hx, hb, hml, hown, hG⟩ := id F
  replace hl : lv_has ls 5 [(0, .ref (ad 24)), (1, .int a0)] := hl
  refine lv_iload_n hx hb dX0_readOff_0 rfl (lv_at hl 1 rfl) ?_
  refine lv_sipush (v := (255 : Int32)) hx hb dX0_readOff_1 (by decide) ?_
  refine lv_iand hx hb dX0_readOff_4 ?_
  refine lv_topi (fun x1 ex1 => ?_)
  replace hf := nm_some ex1 hf
  refine lv_istore_n (lv' := [(2, .int x1), (0, .ref (ad 24)), (1, .int a0)]) hx hb dX0_readOff_5 rfl hl (by decide) rfl (fun ls hl => ?_)
  refine lv_iconst (v := (0 : Int32)) hx hb dX0_readOff_6 (by decide) ?_
  refine lv_istore_n (lv' := [(3, .int (0 : Int32)), (2, .int x1), (0, .ref (ad 24)), (1, .int a0)]) hx hb dX0_readOff_7 rfl hl (by decide) rfl (fun ls hl => ?_)
  obtain ⟨G5, hq1, hf⟩ := bd_some hf
  have K1 : ∀ (H : Heap) (locs : List Loc), sInv D (cT cI cJ cD cS) (cW ad cI cJ cD cS) A s H locs (G5, E, Dd, P, L, pf) → ∀ (ls : Array Slot), lv_has ls 5 [] → W p l e R s m args below meth c H locs 0 0 Q (F0 m 44 ls []) := by
    intro H locs I ls hl
    cases hf
    exact ret H locs _ ls I dX0_readOff_44
  have L1 : ∀ (n : Nat) (x2 : Int32) (x3 : Int32) (G4 : Nat → Nat → Int32), lp (fun q => C_BO_readOff_s1 q.1 q.2.1 q.2.2) n (x2, x3, G4) = some G5 → ∀ (H : Heap) (locs : List Loc), sInv D (cT cI cJ cD cS) (cW ad cI cJ cD cS) A s H locs (G4, E, Dd, P, L, pf) → ∀ (ls : Array Slot), lv_has ls 5 [(0, .ref (ad 24)), (2, .int x2), (3, .int x3)] → W p l e R s m args below meth c H locs 0 0 Q (F0 m 8 ls []) := by
    intro n
    induction n with
    | zero => intro x2 x3 G4 hq; exact (lp_0 hq).elim
    | succ n ih1 =>
      intro x2 x3 G4 hq H locs I ls hl
      obtain ⟨y1, hf, hK1⟩ := lp_go hq
      replace hf : C_BO_readOff_s1 x2 x3 G4 = some y1 := hf
      unfold C_BO_readOff_s1 at hf
      refine lv_iload_n hx hb dX0_readOff_8 rfl (lv_at hl 2 rfl) ?_
      refine lv_aload_n hx hb dX0_readOff_9 rfl (lv_at hl 0 rfl) ?_
      refine kgtX0_15_24 F I dX0_readOff_10 ?_
      refine lv_icmp_ge (tgt := 44) hx hb dX0_readOff_13 (by decide) (fun c13 => ?_) (fun c13 => ?_)
      · replace hf := (if_pos c13).symm.trans hf
        cases hf
        cases (show G4 = G5 from hK1)
        exact K1 H locs I ls (lv_sub hl [] rfl)
      · replace hf := (if_neg c13).symm.trans hf
        refine lv_aload_n hx hb dX0_readOff_16 rfl (lv_at hl 0 rfl) ?_
        refine lv_iload_n hx hb dX0_readOff_17 rfl (lv_at hl 1 rfl) ?_
        obtain ⟨r6, h7, hf⟩ := bd_some hf
        refine s_callVi (As := [.int x2]) (rest := []) F I (cC_BO_foremostOf G4 E Dd P L pf x2 r6 h7) kX0_83 ⟨rfl, rfl⟩ ⟨Nat.le_trans (Nat.le_of_ble_eq_true rfl) hRf, Nat.le_trans (Nat.le_of_ble_eq_true rfl) hRl⟩ 24 0 rfl rfl rfl rfl rfl hl.1 (Nat.le_of_ble_eq_true rfl) ⟨Nat.zero_le _, Nat.zero_le _⟩ dX0_readOff_18 ?_
        intro H locs I
        refine lv_istore (lv' := [(4, .int r6), (0, .ref (ad 24)), (2, .int x2), (3, .int x3)]) hx hb dX0_readOff_21 hl (by decide) rfl (fun ls hl => ?_)
        refine lv_aload_n hx hb dX0_readOff_23 rfl (lv_at hl 1 rfl) ?_
        refine kgtX0_25_24 F I dX0_readOff_24 ?_
        refine lv_iload_n hx hb dX0_readOff_27 rfl (lv_at hl 3 rfl) ?_
        refine lv_iload hx hb dX0_readOff_28 (lv_at hl 0 rfl) ?_
        obtain ⟨g8, hf⟩ := ri_some hf
        refine kas25 F I g8 dX0_readOff_30 ?_
        intro H locs G9 eG9 I
        replace hf := nm_some eG9 hf
        refine lv_iload_n hx hb dX0_readOff_31 rfl (lv_at hl 2 rfl) ?_
        refine lv_iload hx hb dX0_readOff_32 (lv_at hl 0 rfl) ?_
        obtain ⟨r10, h11⟩ : ∃ z, z = C_BO_setWithout x2 r6 := ⟨_, rfl⟩
        replace hf := nm_some h11 hf
        refine s_callSi (As := [.int x2, .int r6]) (rest := []) F I (cC_BO_setWithout G9 E Dd P L pf x2 r6 r10 h11) kX0_77 ⟨rfl, rfl⟩ ⟨Nat.le_trans (Nat.le_of_ble_eq_true rfl) hRf, Nat.le_trans (Nat.le_of_ble_eq_true rfl) hRl⟩ rfl rfl hl.1 (Nat.le_of_ble_eq_true rfl) ⟨Nat.zero_le _, Nat.zero_le _⟩ dX0_readOff_34 ?_
        intro H locs I
        refine lv_istore_n (lv' := [(2, .int r10), (4, .int r6), (0, .ref (ad 24)), (3, .int x3)]) hx hb dX0_readOff_37 rfl hl (by decide) rfl (fun ls hl => ?_)
        obtain ⟨x12, ex12⟩ : ∃ y : Int32, y = x3 + (1 : Int32) := ⟨_, rfl⟩
        replace hf := nm_some ex12 hf
        refine lv_iinc (v := x12) (lv' := [(3, .int x12), (2, .int r10), (4, .int r6), (0, .ref (ad 24))]) hx hb dX0_readOff_38 hl (k := 3) rfl (by rw [ex12]; rfl) (by decide) rfl (fun ls hl => ?_)
        refine lv_goto (tgt := 8) hx hb dX0_readOff_41 (by decide) ?_
        cases hf
        exact ih1 _ _ _ hK1 H locs I ls (lv_sub hl [3, 1, 0] rfl)
  exact L1 FU _ _ _ hq1 H locs I ls (lv_sub hl [2, 1, 0] rfl)
def C_BO_solve_s1 (a0 : Int32) (G : Nat → Nat → Int32) (x1 : Int32) (x2 : Int32) (x3 : Int32) : Option ((Int32 × Int32 × Int32) ⊕ (Int32 × Int32)) :=
if G 31 0 ≤ x3 then
(some (.inr (x1, x2)))
else
(bd (C_LT_contains a0 x3) fun r10 =>
bd2 (if r10 = 0 then
(some (x1, x2))
else
(nm (C_BO_setWithout a0 x3) fun r17 =>
ri 256 r17 <|
bd (C_BO_costBefore G x3 r17) fun r20 =>
nm ((G 35 r17.toNatClampNeg) + r20 : Int32) fun x22 =>
bd2 (if x1 ≤ x22 then
(some (x1, x2))
else
(some (x22, (0 : Int32)))) fun x24 x25 =>
if x22 = x24 then
(ri 256 r17 <|
nm (x25 + (G 36 r17.toNatClampNeg) : Int32) fun x27 =>
some (x24, x27))
else
(some (x24, x25)))) fun x13 x14 =>
nm (x3 + (1 : Int32) : Int32) fun x15 =>
some (.inl (x13, x14, x15)))
def C_BO_solve (G : Nat → Nat → Int32) (a0 : Int32) : Option ((Nat → Nat → Int32)) :=
bd2 (lp (fun q => C_BO_solve_s1 a0 G q.1 q.2.1 q.2.2) FU ((2147483647 : Int32), (0 : Int32), (0 : Int32))) fun r4 r5 =>
ri 256 (a0 &&& (255 : Int32)) <|
nm (wr G 35 (a0 &&& (255 : Int32)) r4) fun G7 =>
ri 256 (a0 &&& (255 : Int32)) <|
nm (wr G7 36 (a0 &&& (255 : Int32)) r5) fun G9 =>
some G9
set_option maxRecDepth 100000 in
set_option maxHeartbeats 4000000 in
theorem cC_BO_solve (G : Nat → Nat → Int32) (E : Nat → Nat → Int64) (Dd : Nat → Nat → UInt64) (P : Nat → Option Nat) (L : List Nat) (pf : Nat → va_E) (a0 : Int32)  (newG : Nat → Nat → Int32) (hf : C_BO_solve G a0 = some newG) : sMv D (cT cI cJ cD cS) (cW ad cI cJ cD cS) l yX0_solve (ws1 yX0_solve cX0_solve 7 none) ({ frames := 1, cells := 0, slots := 0, locals := 23 }) [.ref (ad 24), .int a0] (G, E, Dd, P, L, pf) (newG, E, Dd, P, L, pf) := by
  unfold C_BO_solve at hf
  refine sMv_of (by decide) (Nat.le_of_ble_eq_true rfl) ?_
  intro p e R s m args below meth c A Q ls H locs F hRf hRl I hl ret
  obtain ⟨hx, hb, hml, hown, hG⟩ := id F
  replace hl : lv_has ls 7 [(0, .ref (ad 24)), (1, .int a0)] := hl
  refine lv_ldc (v := (2147483647 : Int32)) hx hb hown (hG _ q710) dX0_solve_0 ?_
  refine lv_istore_n (lv' := [(2, .int (2147483647 : Int32)), (0, .ref (ad 24)), (1, .int a0)]) hx hb dX0_solve_2 rfl hl (by decide) rfl (fun ls hl => ?_)
  refine lv_iconst (v := (0 : Int32)) hx hb dX0_solve_3 (by decide) ?_
  refine lv_istore_n (lv' := [(3, .int (0 : Int32)), (2, .int (2147483647 : Int32)), (0, .ref (ad 24)), (1, .int a0)]) hx hb dX0_solve_4 rfl hl (by decide) rfl (fun ls hl => ?_)
  refine lv_iconst (v := (0 : Int32)) hx hb dX0_solve_5 (by decide) ?_
  refine lv_istore (lv' := [(4, .int (0 : Int32)), (3, .int (0 : Int32)), (2, .int (2147483647 : Int32)), (0, .ref (ad 24)), (1, .int a0)]) hx hb dX0_solve_6 hl (by decide) rfl (fun ls hl => ?_)
  obtain ⟨r4, r5, hq1, hf⟩ := bd2_some hf
  have K1 : ∀ (H : Heap) (locs : List Loc), sInv D (cT cI cJ cD cS) (cW ad cI cJ cD cS) A s H locs (G, E, Dd, P, L, pf) → ∀ (ls : Array Slot), lv_has ls 7 [(0, .ref (ad 24)), (1, .int a0), (2, .int r4), (3, .int r5)] → W p l e R s m args below meth c H locs 0 0 Q (F0 m 85 ls []) := by
    intro H locs I ls hl
    refine lv_aload_n hx hb dX0_solve_85 rfl (lv_at hl 0 rfl) ?_
    refine kgtX0_29_24 F I dX0_solve_86 ?_
    refine lv_iload_n hx hb dX0_solve_89 rfl (lv_at hl 1 rfl) ?_
    refine lv_sipush (v := (255 : Int32)) hx hb dX0_solve_90 (by decide) ?_
    refine lv_iand hx hb dX0_solve_93 ?_
    refine lv_iload_n hx hb dX0_solve_94 rfl (lv_at hl 2 rfl) ?_
    obtain ⟨g6, hf⟩ := ri_some hf
    refine kas26 F I g6 dX0_solve_95 ?_
    intro H locs G7 eG7 I
    replace hf := nm_some eG7 hf
    refine lv_aload_n hx hb dX0_solve_96 rfl (lv_at hl 0 rfl) ?_
    refine kgtX0_32_24 F I dX0_solve_97 ?_
    refine lv_iload_n hx hb dX0_solve_100 rfl (lv_at hl 1 rfl) ?_
    refine lv_sipush (v := (255 : Int32)) hx hb dX0_solve_101 (by decide) ?_
    refine lv_iand hx hb dX0_solve_104 ?_
    refine lv_iload_n hx hb dX0_solve_105 rfl (lv_at hl 3 rfl) ?_
    obtain ⟨g8, hf⟩ := ri_some hf
    refine kas27 F I g8 dX0_solve_106 ?_
    intro H locs G9 eG9 I
    replace hf := nm_some eG9 hf
    cases hf
    exact ret H locs _ ls I dX0_solve_107
  have L1 : ∀ (n : Nat) (x1 : Int32) (x2 : Int32) (x3 : Int32), lp (fun q => C_BO_solve_s1 a0 G q.1 q.2.1 q.2.2) n (x1, x2, x3) = some (r4, r5) → ∀ (H : Heap) (locs : List Loc), sInv D (cT cI cJ cD cS) (cW ad cI cJ cD cS) A s H locs (G, E, Dd, P, L, pf) → ∀ (ls : Array Slot), lv_has ls 7 [(0, .ref (ad 24)), (1, .int a0), (2, .int x1), (3, .int x2), (4, .int x3)] → W p l e R s m args below meth c H locs 0 0 Q (F0 m 8 ls []) := by
    intro n
    induction n with
    | zero => intro x1 x2 x3 hq; exact (lp_0 hq).elim
    | succ n ih1 =>
      intro x1 x2 x3 hq H locs I ls hl
      obtain ⟨y1, hf, hK1⟩ := lp_go hq
      replace hf : C_BO_solve_s1 a0 G x1 x2 x3 = some y1 := hf
      unfold C_BO_solve_s1 at hf
      refine lv_iload hx hb dX0_solve_8 (lv_at hl 4 rfl) ?_
      refine lv_aload_n hx hb dX0_solve_10 rfl (lv_at hl 0 rfl) ?_
      refine kgtX0_15_24 F I dX0_solve_11 ?_
      refine lv_icmp_ge (tgt := 85) hx hb dX0_solve_14 (by decide) (fun c32 => ?_) (fun c32 => ?_)
      · replace hf := (if_pos c32).symm.trans hf
        cases hf
        cases (show (x1, x2) = (r4, r5) from hK1)
        exact K1 H locs I ls (lv_sub hl [0, 1, 2, 3] rfl)
      · replace hf := (if_neg c32).symm.trans hf
        refine lv_iload_n hx hb dX0_solve_17 rfl (lv_at hl 1 rfl) ?_
        refine lv_iload hx hb dX0_solve_18 (lv_at hl 4 rfl) ?_
        obtain ⟨r10, h11, hf⟩ := bd_some hf
        refine s_callSNi (As := [.int a0, .int x3]) (rest := []) F I (cC_LT_contains G E Dd P L pf a0 x3 r10 h11) kX0_73 ⟨rfl, rfl⟩ ⟨Nat.le_trans (Nat.le_of_ble_eq_true rfl) hRf, Nat.le_trans (Nat.le_of_ble_eq_true rfl) hRl⟩ rfl rfl hl.1 (Nat.le_of_ble_eq_true rfl) ⟨Nat.zero_le _, Nat.zero_le _⟩ dX0_solve_20 ?_
        intro H locs I
        obtain ⟨x13, x14, hv16, hf⟩ := bd2_some hf
        have J12 : ∀ (H : Heap) (locs : List Loc), sInv D (cT cI cJ cD cS) (cW ad cI cJ cD cS) A s H locs (G, E, Dd, P, L, pf) → ∀ (ls : Array Slot), lv_has ls 7 [(0, .ref (ad 24)), (1, .int a0), (2, .int x13), (3, .int x14), (4, .int x3)] → W p l e R s m args below meth c H locs 0 0 Q (F0 m 79 ls []) := by
          intro H locs I ls hl
          obtain ⟨x15, ex15⟩ : ∃ y : Int32, y = x3 + (1 : Int32) := ⟨_, rfl⟩
          replace hf := nm_some ex15 hf
          refine lv_iinc (v := x15) (lv' := [(4, .int x15), (0, .ref (ad 24)), (1, .int a0), (2, .int x13), (3, .int x14)]) hx hb dX0_solve_79 hl (k := 4) rfl (by rw [ex15]; rfl) (by decide) rfl (fun ls hl => ?_)
          refine lv_goto (tgt := 8) hx hb dX0_solve_82 (by decide) ?_
          cases hf
          exact ih1 _ _ _ hK1 H locs I ls (lv_sub hl [1, 2, 3, 4, 0] rfl)
        replace hf := hv16
        refine lv_if_eq (tgt := 79) hx hb dX0_solve_23 (by decide) (fun c31 => ?_) (fun c31 => ?_)
        · replace hf := (if_pos c31).symm.trans hf
          cases hf
          exact J12 H locs I ls (lv_sub hl [0, 1, 2, 3, 4] rfl)
        · replace hf := (if_neg c31).symm.trans hf
          refine lv_iload_n hx hb dX0_solve_26 rfl (lv_at hl 1 rfl) ?_
          refine lv_iload hx hb dX0_solve_27 (lv_at hl 4 rfl) ?_
          obtain ⟨r17, h18⟩ : ∃ z, z = C_BO_setWithout a0 x3 := ⟨_, rfl⟩
          replace hf := nm_some h18 hf
          refine s_callSi (As := [.int a0, .int x3]) (rest := []) F I (cC_BO_setWithout G E Dd P L pf a0 x3 r17 h18) kX0_77 ⟨rfl, rfl⟩ ⟨Nat.le_trans (Nat.le_of_ble_eq_true rfl) hRf, Nat.le_trans (Nat.le_of_ble_eq_true rfl) hRl⟩ rfl rfl hl.1 (Nat.le_of_ble_eq_true rfl) ⟨Nat.zero_le _, Nat.zero_le _⟩ dX0_solve_29 ?_
          intro H locs I
          refine lv_istore (lv' := [(5, .int r17), (0, .ref (ad 24)), (1, .int a0), (2, .int x1), (3, .int x2), (4, .int x3)]) hx hb dX0_solve_32 hl (by decide) rfl (fun ls hl => ?_)
          refine lv_aload_n hx hb dX0_solve_34 rfl (lv_at hl 1 rfl) ?_
          refine kgtX0_29_24 F I dX0_solve_35 ?_
          refine lv_iload hx hb dX0_solve_38 (lv_at hl 0 rfl) ?_
          obtain ⟨g19, hf⟩ := ri_some hf
          refine kal26 F I g19 dX0_solve_40 ?_
          refine lv_aload_n hx hb dX0_solve_41 rfl (lv_at hl 1 rfl) ?_
          refine lv_iload hx hb dX0_solve_42 (lv_at hl 5 rfl) ?_
          refine lv_iload hx hb dX0_solve_44 (lv_at hl 0 rfl) ?_
          obtain ⟨r20, h21, hf⟩ := bd_some hf
          refine s_callVi (As := [.int x3, .int r17]) (rest := [.int (G 35 r17.toNatClampNeg)]) F I (cC_BO_costBefore G E Dd P L pf x3 r17 r20 h21) kX0_80 ⟨rfl, rfl⟩ ⟨Nat.le_trans (Nat.le_of_ble_eq_true rfl) hRf, Nat.le_trans (Nat.le_of_ble_eq_true rfl) hRl⟩ 24 0 rfl rfl rfl rfl rfl hl.1 (Nat.le_of_ble_eq_true rfl) ⟨Nat.zero_le _, Nat.zero_le _⟩ dX0_solve_46 ?_
          intro H locs I
          refine lv_iadd hx hb dX0_solve_49 ?_
          refine lv_topi (fun x22 ex22 => ?_)
          replace hf := nm_some ex22 hf
          refine lv_istore (lv' := [(6, .int x22), (5, .int r17), (0, .ref (ad 24)), (1, .int a0), (2, .int x1), (3, .int x2), (4, .int x3)]) hx hb dX0_solve_50 hl (by decide) rfl (fun ls hl => ?_)
          refine lv_iload hx hb dX0_solve_52 (lv_at hl 0 rfl) ?_
          refine lv_iload_n hx hb dX0_solve_54 rfl (lv_at hl 4 rfl) ?_
          obtain ⟨x24, x25, hv29, hf⟩ := bd2_some hf
          have J23 : ∀ (H : Heap) (locs : List Loc), sInv D (cT cI cJ cD cS) (cW ad cI cJ cD cS) A s H locs (G, E, Dd, P, L, pf) → ∀ (ls : Array Slot), lv_has ls 7 [(0, .ref (ad 24)), (1, .int a0), (2, .int x24), (3, .int x25), (4, .int x3), (5, .int r17), (6, .int x22)] → W p l e R s m args below meth c H locs 0 0 Q (F0 m 63 ls []) := by
            intro H locs I ls hl
            refine lv_iload hx hb dX0_solve_63 (lv_at hl 6 rfl) ?_
            refine lv_iload_n hx hb dX0_solve_65 rfl (lv_at hl 2 rfl) ?_
            refine lv_icmp_ne (tgt := 79) hx hb dX0_solve_66 (by decide) (fun c28 => ?_) (fun c28 => ?_)
            · replace hf := (if_neg c28).symm.trans hf
              cases hf
              exact J12 H locs I ls (lv_sub hl [0, 1, 2, 3, 4] rfl)
            · replace hf := (if_pos c28).symm.trans hf
              refine lv_iload_n hx hb dX0_solve_69 rfl (lv_at hl 3 rfl) ?_
              refine lv_aload_n hx hb dX0_solve_70 rfl (lv_at hl 0 rfl) ?_
              refine kgtX0_32_24 F I dX0_solve_71 ?_
              refine lv_iload hx hb dX0_solve_74 (lv_at hl 5 rfl) ?_
              obtain ⟨g26, hf⟩ := ri_some hf
              refine kal27 F I g26 dX0_solve_76 ?_
              refine lv_iadd hx hb dX0_solve_77 ?_
              refine lv_topi (fun x27 ex27 => ?_)
              replace hf := nm_some ex27 hf
              refine lv_istore_n (lv' := [(3, .int x27), (0, .ref (ad 24)), (1, .int a0), (2, .int x24), (4, .int x3), (5, .int r17), (6, .int x22)]) hx hb dX0_solve_78 rfl hl (by decide) rfl (fun ls hl => ?_)
              cases hf
              exact J12 H locs I ls (lv_sub hl [1, 2, 3, 0, 4] rfl)
          replace hf := hv29
          refine lv_icmp_ge (tgt := 63) hx hb dX0_solve_55 (by decide) (fun c30 => ?_) (fun c30 => ?_)
          · replace hf := (if_pos c30).symm.trans hf
            cases hf
            exact J23 H locs I ls (lv_sub hl [2, 3, 4, 5, 6, 1, 0] rfl)
          · replace hf := (if_neg c30).symm.trans hf
            refine lv_iload hx hb dX0_solve_58 (lv_at hl 0 rfl) ?_
            refine lv_istore_n (lv' := [(2, .int x22), (6, .int x22), (5, .int r17), (0, .ref (ad 24)), (1, .int a0), (3, .int x2), (4, .int x3)]) hx hb dX0_solve_60 rfl hl (by decide) rfl (fun ls hl => ?_)
            refine lv_iconst (v := (0 : Int32)) hx hb dX0_solve_61 (by decide) ?_
            refine lv_istore_n (lv' := [(3, .int (0 : Int32)), (2, .int x22), (6, .int x22), (5, .int r17), (0, .ref (ad 24)), (1, .int a0), (4, .int x3)]) hx hb dX0_solve_62 rfl hl (by decide) rfl (fun ls hl => ?_)
            cases hf
            exact J23 H locs I ls (lv_sub hl [4, 5, 1, 0, 6, 3, 2] rfl)
  exact L1 FU _ _ _ hq1 H locs I ls (lv_sub hl [3, 4, 2, 1, 0] rfl)
def C_BO_find_22_s1 (x9 : Int32) (x10 : Int32) (G11 : Nat → Nat → Int32) : Option ((Int32 × (Nat → Nat → Int32)) ⊕ ((Nat → Nat → Int32))) :=
if x9 < x10 then
(some (.inr G11))
else
(if (256 : Int32) ≤ x10 then
(some (.inr G11))
else
(bd (C_BO_solve G11 x10) fun G19 =>
nm (x10 + (1 : Int32) : Int32) fun x21 =>
some (.inl (x21, G19))))
def C_BO_find_22 (G : Nat → Nat → Int32) (a1 : Int32) : Option ((Nat → Nat → Int32)) :=
if G 30 0 = 0 then
(nm (wf G 30 (1 : Int32)) fun G1 =>
nm (wf G1 31 (if (8 : Int32) < a1 then (8 : Int32) else a1)) fun G2 =>
bd (C_BO_takeCosts_22 G2) fun G3 =>
ri 256 (0 : Int32) <|
nm (wr G3 35 (0 : Int32) (0 : Int32)) fun G6 =>
ri 256 (0 : Int32) <|
nm (wr G6 36 (0 : Int32) (1 : Int32)) fun G8 =>
nm (((1 : Int32) <<< ((G8 31 0) &&& 31)) - (1 : Int32) : Int32) fun x9 =>
bd (lp (fun q => C_BO_find_22_s1 x9 q.1 q.2) FU ((1 : Int32), G8)) fun G12 =>
ri 256 (x9 &&& (255 : Int32)) <|
nm (wf G12 32 (G12 35 (x9 &&& (255 : Int32)).toNatClampNeg)) fun G14 =>
ri 256 (x9 &&& (255 : Int32)) <|
nm (wf G14 33 (G14 36 (x9 &&& (255 : Int32)).toNatClampNeg)) fun G16 =>
bd (C_BO_readOff G16 x9) fun G17 =>
some G17)
else
(some G)
set_option maxRecDepth 100000 in
set_option maxHeartbeats 4000000 in
theorem cC_BO_find_22 (G : Nat → Nat → Int32) (E : Nat → Nat → Int64) (Dd : Nat → Nat → UInt64) (P : Nat → Option Nat) (L : List Nat) (pf : Nat → va_E) (a1 : Int32)  (newG : Nat → Nat → Int32) (hf : C_BO_find_22 G a1 = some newG) : sMv D (cT cI cJ cD cS) (cW ad cI cJ cD cS) l yX0_find (ws1 yX0_find cX0_find 5 none) ({ frames := 3, cells := 0, slots := 0, locals := 70 }) [.ref (ad 24), .ref (ad 22), .int a1] (G, E, Dd, P, L, pf) (newG, E, Dd, P, L, pf) := by
  unfold C_BO_find_22 at hf
  refine sMv_of (by decide) (Nat.le_of_ble_eq_true rfl) ?_
  intro p e R s m args below meth c A Q ls H locs F hRf hRl I hl ret
  obtain ⟨hx, hb, hml, hown, hG⟩ := id F
  replace hl : lv_has ls 5 [(0, .ref (ad 24)), (1, .ref (ad 22)), (2, .int a1)] := hl
  refine lv_aload_n hx hb dX0_find_0 rfl (lv_at hl 0 rfl) ?_
  refine kgtX0_9_24 F I dX0_find_1 ?_
  refine lv_if_eq (tgt := 8) hx hb dX0_find_4 (by decide) (fun c24 => ?_) (fun c24 => ?_)
  · replace hf := (if_pos c24).symm.trans hf
    refine lv_aload_n hx hb dX0_find_8 rfl (lv_at hl 0 rfl) ?_
    refine lv_iconst (v := (1 : Int32)) hx hb dX0_find_9 (by decide) ?_
    refine kptX0_9_24 F I (by decide) dX0_find_10 ?_
    intro H locs G1 eG1 I
    replace hf := nm_some eG1 hf
    refine lv_aload_n hx hb dX0_find_13 rfl (lv_at hl 0 rfl) ?_
    refine lv_iload_n hx hb dX0_find_14 rfl (lv_at hl 2 rfl) ?_
    refine lv_bipush (v := (8 : Int32)) hx hb dX0_find_15 (by decide) ?_
    refine va_mmin hx hb (hml.trans hl.1.symm) hown (hG _ q692) (hG _ q580) (hG _ q126) (hG _ q581) (Nat.le_trans (Nat.le_of_ble_eq_true rfl) hRf) (Nat.le_trans (Nat.le_of_ble_eq_true rfl) hRl) (Nat.zero_le _) (Nat.zero_le _) dX0_find_17 ?_
    refine kptX0_15_24 F I dX0_find_20 ?_
    intro H locs G2 eG2 I
    replace hf := nm_some eG2 hf
    refine lv_aload_n hx hb dX0_find_23 rfl (lv_at hl 0 rfl) ?_
    refine lv_aload_n hx hb dX0_find_24 rfl (lv_at hl 1 rfl) ?_
    obtain ⟨G3, h4, hf⟩ := bd_some hf
    refine s_callVv (As := [.ref (ad 22)]) (rest := []) F I (cC_BO_takeCosts_22 G2 E Dd P L pf G3 h4) kX0_47 ⟨rfl, rfl⟩ ⟨Nat.le_trans (Nat.le_of_ble_eq_true rfl) hRf, Nat.le_trans (Nat.le_of_ble_eq_true rfl) hRl⟩ 24 0 rfl rfl rfl rfl rfl hl.1 (Nat.le_of_ble_eq_true rfl) ⟨Nat.zero_le _, Nat.zero_le _⟩ dX0_find_25 ?_
    intro H locs I
    refine lv_aload_n hx hb dX0_find_28 rfl (lv_at hl 0 rfl) ?_
    refine kgtX0_29_24 F I dX0_find_29 ?_
    refine lv_iconst (v := (0 : Int32)) hx hb dX0_find_32 (by decide) ?_
    refine lv_iconst (v := (0 : Int32)) hx hb dX0_find_33 (by decide) ?_
    obtain ⟨g5, hf⟩ := ri_some hf
    refine kas26 F I g5 dX0_find_34 ?_
    intro H locs G6 eG6 I
    replace hf := nm_some eG6 hf
    refine lv_aload_n hx hb dX0_find_35 rfl (lv_at hl 0 rfl) ?_
    refine kgtX0_32_24 F I dX0_find_36 ?_
    refine lv_iconst (v := (0 : Int32)) hx hb dX0_find_39 (by decide) ?_
    refine lv_iconst (v := (1 : Int32)) hx hb dX0_find_40 (by decide) ?_
    obtain ⟨g7, hf⟩ := ri_some hf
    refine kas27 F I g7 dX0_find_41 ?_
    intro H locs G8 eG8 I
    replace hf := nm_some eG8 hf
    refine lv_iconst (v := (1 : Int32)) hx hb dX0_find_42 (by decide) ?_
    refine lv_aload_n hx hb dX0_find_43 rfl (lv_at hl 0 rfl) ?_
    refine kgtX0_15_24 F I dX0_find_44 ?_
    refine lv_ishl hx hb dX0_find_47 ?_
    refine lv_iconst (v := (1 : Int32)) hx hb dX0_find_48 (by decide) ?_
    refine lv_isub hx hb dX0_find_49 ?_
    refine lv_topi (fun x9 ex9 => ?_)
    replace hf := nm_some ex9 hf
    refine lv_istore_n (lv' := [(3, .int x9), (0, .ref (ad 24)), (1, .ref (ad 22)), (2, .int a1)]) hx hb dX0_find_50 rfl hl (by decide) rfl (fun ls hl => ?_)
    refine lv_iconst (v := (1 : Int32)) hx hb dX0_find_51 (by decide) ?_
    refine lv_istore (lv' := [(4, .int (1 : Int32)), (3, .int x9), (0, .ref (ad 24)), (1, .ref (ad 22)), (2, .int a1)]) hx hb dX0_find_52 hl (by decide) rfl (fun ls hl => ?_)
    obtain ⟨G12, hq1, hf⟩ := bd_some hf
    have K1 : ∀ (H : Heap) (locs : List Loc), sInv D (cT cI cJ cD cS) (cW ad cI cJ cD cS) A s H locs (G12, E, Dd, P, L, pf) → ∀ (ls : Array Slot), lv_has ls 5 [(0, .ref (ad 24)), (3, .int x9)] → W p l e R s m args below meth c H locs 0 0 Q (F0 m 80 ls []) := by
      intro H locs I ls hl
      refine lv_aload_n hx hb dX0_find_80 rfl (lv_at hl 0 rfl) ?_
      refine lv_aload_n hx hb dX0_find_81 rfl (lv_at hl 0 rfl) ?_
      refine kgtX0_29_24 F I dX0_find_82 ?_
      refine lv_iload_n hx hb dX0_find_85 rfl (lv_at hl 1 rfl) ?_
      refine lv_sipush (v := (255 : Int32)) hx hb dX0_find_86 (by decide) ?_
      refine lv_iand hx hb dX0_find_89 ?_
      obtain ⟨g13, hf⟩ := ri_some hf
      refine kal26 F I g13 dX0_find_90 ?_
      refine kptX0_19_24 F I dX0_find_91 ?_
      intro H locs G14 eG14 I
      replace hf := nm_some eG14 hf
      refine lv_aload_n hx hb dX0_find_94 rfl (lv_at hl 0 rfl) ?_
      refine lv_aload_n hx hb dX0_find_95 rfl (lv_at hl 0 rfl) ?_
      refine kgtX0_32_24 F I dX0_find_96 ?_
      refine lv_iload_n hx hb dX0_find_99 rfl (lv_at hl 1 rfl) ?_
      refine lv_sipush (v := (255 : Int32)) hx hb dX0_find_100 (by decide) ?_
      refine lv_iand hx hb dX0_find_103 ?_
      obtain ⟨g15, hf⟩ := ri_some hf
      refine kal27 F I g15 dX0_find_104 ?_
      refine kptX0_22_24 F I dX0_find_105 ?_
      intro H locs G16 eG16 I
      replace hf := nm_some eG16 hf
      refine lv_aload_n hx hb dX0_find_108 rfl (lv_at hl 0 rfl) ?_
      refine lv_iload_n hx hb dX0_find_109 rfl (lv_at hl 1 rfl) ?_
      obtain ⟨G17, h18, hf⟩ := bd_some hf
      refine s_callVv (As := [.int x9]) (rest := []) F I (cC_BO_readOff G16 E Dd P L pf x9 G17 h18) kX0_55 ⟨rfl, rfl⟩ ⟨Nat.le_trans (Nat.le_of_ble_eq_true rfl) hRf, Nat.le_trans (Nat.le_of_ble_eq_true rfl) hRl⟩ 24 0 rfl rfl rfl rfl rfl hl.1 (Nat.le_of_ble_eq_true rfl) ⟨Nat.zero_le _, Nat.zero_le _⟩ dX0_find_110 ?_
      intro H locs I
      cases hf
      exact ret H locs _ ls I dX0_find_113
    have L1 : ∀ (n : Nat) (x10 : Int32) (G11 : Nat → Nat → Int32), lp (fun q => C_BO_find_22_s1 x9 q.1 q.2) n (x10, G11) = some G12 → ∀ (H : Heap) (locs : List Loc), sInv D (cT cI cJ cD cS) (cW ad cI cJ cD cS) A s H locs (G11, E, Dd, P, L, pf) → ∀ (ls : Array Slot), lv_has ls 5 [(0, .ref (ad 24)), (3, .int x9), (4, .int x10)] → W p l e R s m args below meth c H locs 0 0 Q (F0 m 54 ls []) := by
      intro n
      induction n with
      | zero => intro x10 G11 hq; exact (lp_0 hq).elim
      | succ n ih1 =>
        intro x10 G11 hq H locs I ls hl
        obtain ⟨y1, hf, hK1⟩ := lp_go hq
        replace hf : C_BO_find_22_s1 x9 x10 G11 = some y1 := hf
        unfold C_BO_find_22_s1 at hf
        refine lv_iload hx hb dX0_find_54 (lv_at hl 2 rfl) ?_
        refine lv_iload_n hx hb dX0_find_56 rfl (lv_at hl 1 rfl) ?_
        refine lv_icmp_gt (tgt := 80) hx hb dX0_find_57 (by decide) (fun c23 => ?_) (fun c23 => ?_)
        · replace hf := (if_pos c23).symm.trans hf
          cases hf
          cases (show G11 = G12 from hK1)
          exact K1 H locs I ls (lv_sub hl [0, 1] rfl)
        · replace hf := (if_neg c23).symm.trans hf
          refine lv_iload hx hb dX0_find_60 (lv_at hl 2 rfl) ?_
          refine lv_sipush (v := (256 : Int32)) hx hb dX0_find_62 (by decide) ?_
          refine lv_icmp_ge (tgt := 80) hx hb dX0_find_65 (by decide) (fun c22 => ?_) (fun c22 => ?_)
          · replace hf := (if_pos c22).symm.trans hf
            cases hf
            cases (show G11 = G12 from hK1)
            exact K1 H locs I ls (lv_sub hl [0, 1] rfl)
          · replace hf := (if_neg c22).symm.trans hf
            refine lv_aload_n hx hb dX0_find_68 rfl (lv_at hl 0 rfl) ?_
            refine lv_iload hx hb dX0_find_69 (lv_at hl 2 rfl) ?_
            obtain ⟨G19, h20, hf⟩ := bd_some hf
            refine s_callVv (As := [.int x10]) (rest := []) F I (cC_BO_solve G11 E Dd P L pf x10 G19 h20) kX0_51 ⟨rfl, rfl⟩ ⟨Nat.le_trans (Nat.le_of_ble_eq_true rfl) hRf, Nat.le_trans (Nat.le_of_ble_eq_true rfl) hRl⟩ 24 0 rfl rfl rfl rfl rfl hl.1 (Nat.le_of_ble_eq_true rfl) ⟨Nat.zero_le _, Nat.zero_le _⟩ dX0_find_71 ?_
            intro H locs I
            obtain ⟨x21, ex21⟩ : ∃ y : Int32, y = x10 + (1 : Int32) := ⟨_, rfl⟩
            replace hf := nm_some ex21 hf
            refine lv_iinc (v := x21) (lv' := [(4, .int x21), (0, .ref (ad 24)), (3, .int x9)]) hx hb dX0_find_74 hl (k := 2) rfl (by rw [ex21]; rfl) (by decide) rfl (fun ls hl => ?_)
            refine lv_goto (tgt := 54) hx hb dX0_find_77 (by decide) ?_
            cases hf
            exact ih1 _ _ hK1 H locs I ls (lv_sub hl [1, 2, 0] rfl)
    exact L1 FU _ _ hq1 H locs I ls (lv_sub hl [2, 1, 0] rfl)
  · replace hf := (if_neg c24).symm.trans hf
    cases hf
    exact ret H locs _ ls I dX0_find_7
def C_BO_sampleAt (G : Nat → Nat → Int32) (a0 : Int32) : Option (Int32) :=
if a0 < 0 then
(some (-1 : Int32))
else
(if G 31 0 ≤ a0 then
(some (-1 : Int32))
else
(ri 8 a0 <|
some (G 34 a0.toNatClampNeg)))
set_option maxRecDepth 100000 in
set_option maxHeartbeats 4000000 in
theorem cC_BO_sampleAt (G : Nat → Nat → Int32) (E : Nat → Nat → Int64) (Dd : Nat → Nat → UInt64) (P : Nat → Option Nat) (L : List Nat) (pf : Nat → va_E) (a0 : Int32) (rv : Int32)  (hf : C_BO_sampleAt G a0 = some rv) : sMi D (cT cI cJ cD cS) (cW ad cI cJ cD cS) l yX0_sampleAt (ws1 yX0_sampleAt cX0_sampleAt 2 (some .int)) ({ frames := 0, cells := 0, slots := 0, locals := 0 }) [.ref (ad 24), .int a0] (G, E, Dd, P, L, pf) (rv, (G, E, Dd, P, L, pf)) := by
  unfold C_BO_sampleAt at hf
  refine sMi_of (by decide) (Nat.le_of_ble_eq_true rfl) ?_
  intro p e R s m args below meth c A Q ls H locs F hRf hRl I hl ret
  obtain ⟨hx, hb, hml, hown, hG⟩ := id F
  replace hl : lv_has ls 2 [(0, .ref (ad 24)), (1, .int a0)] := hl
  refine lv_iload_n hx hb dX0_sampleAt_0 rfl (lv_at hl 1 rfl) ?_
  refine lv_if_lt (tgt := 21) hx hb dX0_sampleAt_1 (by decide) (fun c3 => ?_) (fun c3 => ?_)
  · replace hf := (if_pos c3).symm.trans hf
    refine lv_iconst (v := (-1 : Int32)) hx hb dX0_sampleAt_21 (by decide) ?_
    cases hf
    exact ret H locs _ ls I dX0_sampleAt_22
  · replace hf := (if_neg c3).symm.trans hf
    refine lv_iload_n hx hb dX0_sampleAt_4 rfl (lv_at hl 1 rfl) ?_
    refine lv_aload_n hx hb dX0_sampleAt_5 rfl (lv_at hl 0 rfl) ?_
    refine kgtX0_15_24 F I dX0_sampleAt_6 ?_
    refine lv_icmp_ge (tgt := 21) hx hb dX0_sampleAt_9 (by decide) (fun c2 => ?_) (fun c2 => ?_)
    · replace hf := (if_pos c2).symm.trans hf
      refine lv_iconst (v := (-1 : Int32)) hx hb dX0_sampleAt_21 (by decide) ?_
      cases hf
      exact ret H locs _ ls I dX0_sampleAt_22
    · replace hf := (if_neg c2).symm.trans hf
      refine lv_aload_n hx hb dX0_sampleAt_12 rfl (lv_at hl 0 rfl) ?_
      refine kgtX0_25_24 F I dX0_sampleAt_13 ?_
      refine lv_iload_n hx hb dX0_sampleAt_16 rfl (lv_at hl 1 rfl) ?_
      obtain ⟨g1, hf⟩ := ri_some hf
      refine kal25 F I g1 dX0_sampleAt_17 ?_
      refine lv_goto (tgt := 22) hx hb dX0_sampleAt_18 (by decide) ?_
      cases hf
      exact ret H locs _ ls I dX0_sampleAt_22
def C_BO_placeOf_s1 (a0 : Int32) (G : Nat → Nat → Int32) (x1 : Int32) : Option ((Int32) ⊕ (Int32)) :=
if G 31 0 ≤ x1 then
(some (.inr (-1 : Int32)))
else
(ri 8 x1 <|
if G 34 x1.toNatClampNeg = a0 then
(some (.inr x1))
else
(nm (x1 + (1 : Int32) : Int32) fun x3 =>
some (.inl x3)))
def C_BO_placeOf (G : Nat → Nat → Int32) (a0 : Int32) : Option (Int32) :=
lp (fun q => C_BO_placeOf_s1 a0 G q) FU (0 : Int32)
set_option maxRecDepth 100000 in
set_option maxHeartbeats 4000000 in
theorem cC_BO_placeOf (G : Nat → Nat → Int32) (E : Nat → Nat → Int64) (Dd : Nat → Nat → UInt64) (P : Nat → Option Nat) (L : List Nat) (pf : Nat → va_E) (a0 : Int32) (rv : Int32)  (hf : C_BO_placeOf G a0 = some rv) : sMi D (cT cI cJ cD cS) (cW ad cI cJ cD cS) l yX0_placeOf (ws1 yX0_placeOf cX0_placeOf 3 (some .int)) ({ frames := 0, cells := 0, slots := 0, locals := 0 }) [.ref (ad 24), .int a0] (G, E, Dd, P, L, pf) (rv, (G, E, Dd, P, L, pf)) := by
  unfold C_BO_placeOf at hf
  refine sMi_of (by decide) (Nat.le_of_ble_eq_true rfl) ?_
  intro p e R s m args below meth c A Q ls H locs F hRf hRl I hl ret
  obtain ⟨hx, hb, hml, hown, hG⟩ := id F
  replace hl : lv_has ls 3 [(0, .ref (ad 24)), (1, .int a0)] := hl
  refine lv_iconst (v := (0 : Int32)) hx hb dX0_placeOf_0 (by decide) ?_
  refine lv_istore_n (lv' := [(2, .int (0 : Int32)), (0, .ref (ad 24)), (1, .int a0)]) hx hb dX0_placeOf_1 rfl hl (by decide) rfl (fun ls hl => ?_)
  have hq1 : lp (fun q => C_BO_placeOf_s1 a0 G q) FU (0 : Int32) = some rv := hf
  have L1 : ∀ (n : Nat) (x1 : Int32), lp (fun q => C_BO_placeOf_s1 a0 G q) n x1 = some rv → ∀ (H : Heap) (locs : List Loc), sInv D (cT cI cJ cD cS) (cW ad cI cJ cD cS) A s H locs (G, E, Dd, P, L, pf) → ∀ (ls : Array Slot), lv_has ls 3 [(0, .ref (ad 24)), (1, .int a0), (2, .int x1)] → W p l e R s m args below meth c H locs 0 0 Q (F0 m 2 ls []) := by
    intro n
    induction n with
    | zero => intro x1 hq; exact (lp_0 hq).elim
    | succ n ih1 =>
      intro x1 hq H locs I ls hl
      obtain ⟨y1, hf, hK1⟩ := lp_go hq
      replace hf : C_BO_placeOf_s1 a0 G x1 = some y1 := hf
      unfold C_BO_placeOf_s1 at hf
      refine lv_iload_n hx hb dX0_placeOf_2 rfl (lv_at hl 2 rfl) ?_
      refine lv_aload_n hx hb dX0_placeOf_3 rfl (lv_at hl 0 rfl) ?_
      refine kgtX0_15_24 F I dX0_placeOf_4 ?_
      refine lv_icmp_ge (tgt := 28) hx hb dX0_placeOf_7 (by decide) (fun c5 => ?_) (fun c5 => ?_)
      · replace hf := (if_pos c5).symm.trans hf
        refine lv_iconst (v := (-1 : Int32)) hx hb dX0_placeOf_28 (by decide) ?_
        cases hf
        have hf := congrArg some (show _ = _ from hK1)
        cases hf
        exact ret H locs _ ls I dX0_placeOf_29
      · replace hf := (if_neg c5).symm.trans hf
        refine lv_aload_n hx hb dX0_placeOf_10 rfl (lv_at hl 0 rfl) ?_
        refine kgtX0_25_24 F I dX0_placeOf_11 ?_
        refine lv_iload_n hx hb dX0_placeOf_14 rfl (lv_at hl 2 rfl) ?_
        obtain ⟨g2, hf⟩ := ri_some hf
        refine kal25 F I g2 dX0_placeOf_15 ?_
        refine lv_iload_n hx hb dX0_placeOf_16 rfl (lv_at hl 1 rfl) ?_
        refine lv_icmp_ne (tgt := 22) hx hb dX0_placeOf_17 (by decide) (fun c4 => ?_) (fun c4 => ?_)
        · replace hf := (if_neg c4).symm.trans hf
          obtain ⟨x3, ex3⟩ : ∃ y : Int32, y = x1 + (1 : Int32) := ⟨_, rfl⟩
          replace hf := nm_some ex3 hf
          refine lv_iinc (v := x3) (lv' := [(2, .int x3), (0, .ref (ad 24)), (1, .int a0)]) hx hb dX0_placeOf_22 hl (k := 2) rfl (by rw [ex3]; rfl) (by decide) rfl (fun ls hl => ?_)
          refine lv_goto (tgt := 2) hx hb dX0_placeOf_25 (by decide) ?_
          cases hf
          exact ih1 _ hK1 H locs I ls (lv_sub hl [1, 2, 0] rfl)
        · replace hf := (if_pos c4).symm.trans hf
          refine lv_iload_n hx hb dX0_placeOf_20 rfl (lv_at hl 2 rfl) ?_
          cases hf
          have hf := congrArg some (show _ = _ from hK1)
          cases hf
          exact ret H locs _ ls I dX0_placeOf_21
  exact L1 FU _ hq1 H locs I ls (lv_sub hl [1, 2, 0] rfl)
def C_CO_packed (a0 : Int32) (a1 : Int32) (a2 : Int32) (a3 : Int32) : Int32 :=
(((((a0 &&& (7 : Int32)) <<< ((8 : Int32) &&& 31)) ||| ((a1 &&& (7 : Int32)) <<< ((5 : Int32) &&& 31))) ||| ((a2 &&& (7 : Int32)) <<< ((2 : Int32) &&& 31))) ||| (a3 &&& (3 : Int32)))
set_option maxRecDepth 100000 in
set_option maxHeartbeats 4000000 in
theorem cC_CO_packed (G : Nat → Nat → Int32) (E : Nat → Nat → Int64) (Dd : Nat → Nat → UInt64) (P : Nat → Option Nat) (L : List Nat) (pf : Nat → va_E) (a0 : Int32) (a1 : Int32) (a2 : Int32) (a3 : Int32) (rv : Int32)  (hv : rv = C_CO_packed a0 a1 a2 a3) : sMi D (cT cI cJ cD cS) (cW ad cI cJ cD cS) l yX1_packed (ws1 yX1_packed cX1_packed 4 (some .int)) ({ frames := 0, cells := 0, slots := 0, locals := 0 }) [.int a0, .int a1, .int a2, .int a3] (G, E, Dd, P, L, pf) (rv, (G, E, Dd, P, L, pf)) := by
  have hf : (some (((((a0 &&& (7 : Int32)) <<< ((8 : Int32) &&& 31)) ||| ((a1 &&& (7 : Int32)) <<< ((5 : Int32) &&& 31))) ||| ((a2 &&& (7 : Int32)) <<< ((2 : Int32) &&& 31))) ||| (a3 &&& (3 : Int32)))) = some rv := by rw [hv]; rfl
  refine sMi_of (by decide) (Nat.le_of_ble_eq_true rfl) ?_
  intro p e R s m args below meth c A Q ls H locs F hRf hRl I hl ret
  obtain ⟨hx, hb, hml, hown, hG⟩ := id F
  replace hl : lv_has ls 4 [(0, .int a0), (1, .int a1), (2, .int a2), (3, .int a3)] := hl
  refine lv_iload_n hx hb dX1_packed_0 rfl (lv_at hl 0 rfl) ?_
  refine lv_bipush (v := (7 : Int32)) hx hb dX1_packed_1 (by decide) ?_
  refine lv_iand hx hb dX1_packed_3 ?_
  refine lv_bipush (v := (8 : Int32)) hx hb dX1_packed_4 (by decide) ?_
  refine lv_ishl hx hb dX1_packed_6 ?_
  refine lv_iload_n hx hb dX1_packed_7 rfl (lv_at hl 1 rfl) ?_
  refine lv_bipush (v := (7 : Int32)) hx hb dX1_packed_8 (by decide) ?_
  refine lv_iand hx hb dX1_packed_10 ?_
  refine lv_iconst (v := (5 : Int32)) hx hb dX1_packed_11 (by decide) ?_
  refine lv_ishl hx hb dX1_packed_12 ?_
  refine lv_ior hx hb dX1_packed_13 ?_
  refine lv_iload_n hx hb dX1_packed_14 rfl (lv_at hl 2 rfl) ?_
  refine lv_bipush (v := (7 : Int32)) hx hb dX1_packed_15 (by decide) ?_
  refine lv_iand hx hb dX1_packed_17 ?_
  refine lv_iconst (v := (2 : Int32)) hx hb dX1_packed_18 (by decide) ?_
  refine lv_ishl hx hb dX1_packed_19 ?_
  refine lv_ior hx hb dX1_packed_20 ?_
  refine lv_iload_n hx hb dX1_packed_21 rfl (lv_at hl 3 rfl) ?_
  refine lv_iconst (v := (3 : Int32)) hx hb dX1_packed_22 (by decide) ?_
  refine lv_iand hx hb dX1_packed_23 ?_
  refine lv_ior hx hb dX1_packed_24 ?_
  cases hf
  exact ret H locs _ ls I dX1_packed_25
def C_CO_listenerOf (a0 : Int32) : Int32 :=
((a0 >>> ((8 : Int32) &&& 31)) &&& (7 : Int32))
set_option maxRecDepth 100000 in
set_option maxHeartbeats 4000000 in
theorem cC_CO_listenerOf (G : Nat → Nat → Int32) (E : Nat → Nat → Int64) (Dd : Nat → Nat → UInt64) (P : Nat → Option Nat) (L : List Nat) (pf : Nat → va_E) (a0 : Int32) (rv : Int32)  (hv : rv = C_CO_listenerOf a0) : sMi D (cT cI cJ cD cS) (cW ad cI cJ cD cS) l yX1_listenerOf (ws1 yX1_listenerOf cX1_listenerOf 1 (some .int)) ({ frames := 0, cells := 0, slots := 0, locals := 0 }) [.int a0] (G, E, Dd, P, L, pf) (rv, (G, E, Dd, P, L, pf)) := by
  have hf : (some ((a0 >>> ((8 : Int32) &&& 31)) &&& (7 : Int32))) = some rv := by rw [hv]; rfl
  refine sMi_of (by decide) (Nat.le_of_ble_eq_true rfl) ?_
  intro p e R s m args below meth c A Q ls H locs F hRf hRl I hl ret
  obtain ⟨hx, hb, hml, hown, hG⟩ := id F
  replace hl : lv_has ls 1 [(0, .int a0)] := hl
  refine lv_iload_n hx hb dX1_listenerOf_0 rfl (lv_at hl 0 rfl) ?_
  refine lv_bipush (v := (8 : Int32)) hx hb dX1_listenerOf_1 (by decide) ?_
  refine lv_ishr hx hb dX1_listenerOf_3 ?_
  refine lv_bipush (v := (7 : Int32)) hx hb dX1_listenerOf_4 (by decide) ?_
  refine lv_iand hx hb dX1_listenerOf_6 ?_
  cases hf
  exact ret H locs _ ls I dX1_listenerOf_7
def C_CO_firstOf (a0 : Int32) : Int32 :=
((a0 >>> ((5 : Int32) &&& 31)) &&& (7 : Int32))
set_option maxRecDepth 100000 in
set_option maxHeartbeats 4000000 in
theorem cC_CO_firstOf (G : Nat → Nat → Int32) (E : Nat → Nat → Int64) (Dd : Nat → Nat → UInt64) (P : Nat → Option Nat) (L : List Nat) (pf : Nat → va_E) (a0 : Int32) (rv : Int32)  (hv : rv = C_CO_firstOf a0) : sMi D (cT cI cJ cD cS) (cW ad cI cJ cD cS) l yX1_firstOf (ws1 yX1_firstOf cX1_firstOf 1 (some .int)) ({ frames := 0, cells := 0, slots := 0, locals := 0 }) [.int a0] (G, E, Dd, P, L, pf) (rv, (G, E, Dd, P, L, pf)) := by
  have hf : (some ((a0 >>> ((5 : Int32) &&& 31)) &&& (7 : Int32))) = some rv := by rw [hv]; rfl
  refine sMi_of (by decide) (Nat.le_of_ble_eq_true rfl) ?_
  intro p e R s m args below meth c A Q ls H locs F hRf hRl I hl ret
  obtain ⟨hx, hb, hml, hown, hG⟩ := id F
  replace hl : lv_has ls 1 [(0, .int a0)] := hl
  refine lv_iload_n hx hb dX1_firstOf_0 rfl (lv_at hl 0 rfl) ?_
  refine lv_iconst (v := (5 : Int32)) hx hb dX1_firstOf_1 (by decide) ?_
  refine lv_ishr hx hb dX1_firstOf_2 ?_
  refine lv_bipush (v := (7 : Int32)) hx hb dX1_firstOf_3 (by decide) ?_
  refine lv_iand hx hb dX1_firstOf_5 ?_
  cases hf
  exact ret H locs _ ls I dX1_firstOf_6
def C_CO_secondOf (a0 : Int32) : Int32 :=
((a0 >>> ((2 : Int32) &&& 31)) &&& (7 : Int32))
set_option maxRecDepth 100000 in
set_option maxHeartbeats 4000000 in
theorem cC_CO_secondOf (G : Nat → Nat → Int32) (E : Nat → Nat → Int64) (Dd : Nat → Nat → UInt64) (P : Nat → Option Nat) (L : List Nat) (pf : Nat → va_E) (a0 : Int32) (rv : Int32)  (hv : rv = C_CO_secondOf a0) : sMi D (cT cI cJ cD cS) (cW ad cI cJ cD cS) l yX1_secondOf (ws1 yX1_secondOf cX1_secondOf 1 (some .int)) ({ frames := 0, cells := 0, slots := 0, locals := 0 }) [.int a0] (G, E, Dd, P, L, pf) (rv, (G, E, Dd, P, L, pf)) := by
  have hf : (some ((a0 >>> ((2 : Int32) &&& 31)) &&& (7 : Int32))) = some rv := by rw [hv]; rfl
  refine sMi_of (by decide) (Nat.le_of_ble_eq_true rfl) ?_
  intro p e R s m args below meth c A Q ls H locs F hRf hRl I hl ret
  obtain ⟨hx, hb, hml, hown, hG⟩ := id F
  replace hl : lv_has ls 1 [(0, .int a0)] := hl
  refine lv_iload_n hx hb dX1_secondOf_0 rfl (lv_at hl 0 rfl) ?_
  refine lv_iconst (v := (2 : Int32)) hx hb dX1_secondOf_1 (by decide) ?_
  refine lv_ishr hx hb dX1_secondOf_2 ?_
  refine lv_bipush (v := (7 : Int32)) hx hb dX1_secondOf_3 (by decide) ?_
  refine lv_iand hx hb dX1_secondOf_5 ?_
  cases hf
  exact ret H locs _ ls I dX1_secondOf_6
def C_CO_answerOf (a0 : Int32) : Int32 :=
(a0 &&& (3 : Int32))
set_option maxRecDepth 100000 in
set_option maxHeartbeats 4000000 in
theorem cC_CO_answerOf (G : Nat → Nat → Int32) (E : Nat → Nat → Int64) (Dd : Nat → Nat → UInt64) (P : Nat → Option Nat) (L : List Nat) (pf : Nat → va_E) (a0 : Int32) (rv : Int32)  (hv : rv = C_CO_answerOf a0) : sMi D (cT cI cJ cD cS) (cW ad cI cJ cD cS) l yX1_answerOf (ws1 yX1_answerOf cX1_answerOf 1 (some .int)) ({ frames := 0, cells := 0, slots := 0, locals := 0 }) [.int a0] (G, E, Dd, P, L, pf) (rv, (G, E, Dd, P, L, pf)) := by
  have hf : (some (a0 &&& (3 : Int32))) = some rv := by rw [hv]; rfl
  refine sMi_of (by decide) (Nat.le_of_ble_eq_true rfl) ?_
  intro p e R s m args below meth c A Q ls H locs F hRf hRl I hl ret
  obtain ⟨hx, hb, hml, hown, hG⟩ := id F
  replace hl : lv_has ls 1 [(0, .int a0)] := hl
  refine lv_iload_n hx hb dX1_answerOf_0 rfl (lv_at hl 0 rfl) ?_
  refine lv_iconst (v := (3 : Int32)) hx hb dX1_answerOf_1 (by decide) ?_
  refine lv_iand hx hb dX1_answerOf_2 ?_
  cases hf
  exact ret H locs _ ls I dX1_answerOf_3
def C_CO_propertyOf (a0 : Int32) (a1 : Int32) : Option (Int32) :=
if a1 = (0 : Int32) then
(nm (C_CO_listenerOf a0) fun r2 =>
some r2)
else if a1 = (1 : Int32) then
(nm (C_CO_firstOf a0) fun r5 =>
some r5)
else if a1 = (2 : Int32) then
(nm (C_CO_secondOf a0) fun r8 =>
some r8)
else (nm (C_CO_answerOf a0) fun r10 =>
some r10)
set_option maxRecDepth 100000 in
set_option maxHeartbeats 4000000 in
theorem cC_CO_propertyOf (G : Nat → Nat → Int32) (E : Nat → Nat → Int64) (Dd : Nat → Nat → UInt64) (P : Nat → Option Nat) (L : List Nat) (pf : Nat → va_E) (a0 : Int32) (a1 : Int32) (rv : Int32)  (hf : C_CO_propertyOf a0 a1 = some rv) : sMi D (cT cI cJ cD cS) (cW ad cI cJ cD cS) l yX1_propertyOf (ws1 yX1_propertyOf cX1_propertyOf 2 (some .int)) ({ frames := 1, cells := 0, slots := 0, locals := 20 }) [.int a0, .int a1] (G, E, Dd, P, L, pf) (rv, (G, E, Dd, P, L, pf)) := by
  unfold C_CO_propertyOf at hf
  refine sMi_of (by decide) (Nat.le_of_ble_eq_true rfl) ?_
  intro p e R s m args below meth c A Q ls H locs F hRf hRl I hl ret
  obtain ⟨hx, hb, hml, hown, hG⟩ := id F
  replace hl : lv_has ls 2 [(0, .int a0), (1, .int a1)] := hl
  refine lv_iload_n hx hb dX1_propertyOf_0 rfl (lv_at hl 1 rfl) ?_
  by_cases c1 : a1 = (0 : Int32)
  · replace hf := (if_pos c1).symm.trans hf
    refine lv_tableIn (off := 27) (tgt := 28) hx hb dX1_propertyOf_1 (by rw [c1]; decide) (by rw [c1]; decide) (by rw [c1]; rfl) (by decide) ?_
    refine lv_iload_n hx hb dX1_propertyOf_28 rfl (lv_at hl 0 rfl) ?_
    obtain ⟨r2, h3⟩ : ∃ z, z = C_CO_listenerOf a0 := ⟨_, rfl⟩
    replace hf := nm_some h3 hf
    refine s_callSi (As := [.int a0]) (rest := []) F I (cC_CO_listenerOf G E Dd P L pf a0 r2 h3) kX1_19 ⟨rfl, rfl⟩ ⟨Nat.le_trans (Nat.le_of_ble_eq_true rfl) hRf, Nat.le_trans (Nat.le_of_ble_eq_true rfl) hRl⟩ rfl rfl hl.1 (Nat.le_of_ble_eq_true rfl) ⟨Nat.zero_le _, Nat.zero_le _⟩ dX1_propertyOf_29 ?_
    intro H locs I
    cases hf
    exact ret H locs _ ls I dX1_propertyOf_32
  replace hf := (if_neg c1).symm.trans hf
  by_cases c4 : a1 = (1 : Int32)
  · replace hf := (if_pos c4).symm.trans hf
    refine lv_tableIn (off := 32) (tgt := 33) hx hb dX1_propertyOf_1 (by rw [c4]; decide) (by rw [c4]; decide) (by rw [c4]; rfl) (by decide) ?_
    refine lv_iload_n hx hb dX1_propertyOf_33 rfl (lv_at hl 0 rfl) ?_
    obtain ⟨r5, h6⟩ : ∃ z, z = C_CO_firstOf a0 := ⟨_, rfl⟩
    replace hf := nm_some h6 hf
    refine s_callSi (As := [.int a0]) (rest := []) F I (cC_CO_firstOf G E Dd P L pf a0 r5 h6) kX1_23 ⟨rfl, rfl⟩ ⟨Nat.le_trans (Nat.le_of_ble_eq_true rfl) hRf, Nat.le_trans (Nat.le_of_ble_eq_true rfl) hRl⟩ rfl rfl hl.1 (Nat.le_of_ble_eq_true rfl) ⟨Nat.zero_le _, Nat.zero_le _⟩ dX1_propertyOf_34 ?_
    intro H locs I
    cases hf
    exact ret H locs _ ls I dX1_propertyOf_37
  replace hf := (if_neg c4).symm.trans hf
  by_cases c7 : a1 = (2 : Int32)
  · replace hf := (if_pos c7).symm.trans hf
    refine lv_tableIn (off := 37) (tgt := 38) hx hb dX1_propertyOf_1 (by rw [c7]; decide) (by rw [c7]; decide) (by rw [c7]; rfl) (by decide) ?_
    refine lv_iload_n hx hb dX1_propertyOf_38 rfl (lv_at hl 0 rfl) ?_
    obtain ⟨r8, h9⟩ : ∃ z, z = C_CO_secondOf a0 := ⟨_, rfl⟩
    replace hf := nm_some h9 hf
    refine s_callSi (As := [.int a0]) (rest := []) F I (cC_CO_secondOf G E Dd P L pf a0 r8 h9) kX1_26 ⟨rfl, rfl⟩ ⟨Nat.le_trans (Nat.le_of_ble_eq_true rfl) hRf, Nat.le_trans (Nat.le_of_ble_eq_true rfl) hRl⟩ rfl rfl hl.1 (Nat.le_of_ble_eq_true rfl) ⟨Nat.zero_le _, Nat.zero_le _⟩ dX1_propertyOf_39 ?_
    intro H locs I
    cases hf
    exact ret H locs _ ls I dX1_propertyOf_42
  replace hf := (if_neg c7).symm.trans hf
  refine lv_tableOut (tgt := 43) hx hb dX1_propertyOf_1 (tsw2 c1 c4 c7) (by decide) ?_
  refine lv_iload_n hx hb dX1_propertyOf_43 rfl (lv_at hl 0 rfl) ?_
  obtain ⟨r10, h11⟩ : ∃ z, z = C_CO_answerOf a0 := ⟨_, rfl⟩
  replace hf := nm_some h11 hf
  refine s_callSi (As := [.int a0]) (rest := []) F I (cC_CO_answerOf G E Dd P L pf a0 r10 h11) kX1_29 ⟨rfl, rfl⟩ ⟨Nat.le_trans (Nat.le_of_ble_eq_true rfl) hRf, Nat.le_trans (Nat.le_of_ble_eq_true rfl) hRl⟩ rfl rfl hl.1 (Nat.le_of_ble_eq_true rfl) ⟨Nat.zero_le _, Nat.zero_le _⟩ dX1_propertyOf_44 ?_
  intro H locs I
  cases hf
  exact ret H locs _ ls I dX1_propertyOf_47
def C_CO_winnerOf (a0 : Int32) : Option (Int32) :=
nm (C_CO_answerOf a0) fun r1 =>
if r1 = (1 : Int32) then
(nm (C_CO_firstOf a0) fun r5 =>
some r5)
else
(nm (C_CO_secondOf a0) fun r3 =>
some r3)
set_option maxRecDepth 100000 in
set_option maxHeartbeats 4000000 in
theorem cC_CO_winnerOf (G : Nat → Nat → Int32) (E : Nat → Nat → Int64) (Dd : Nat → Nat → UInt64) (P : Nat → Option Nat) (L : List Nat) (pf : Nat → va_E) (a0 : Int32) (rv : Int32)  (hf : C_CO_winnerOf a0 = some rv) : sMi D (cT cI cJ cD cS) (cW ad cI cJ cD cS) l yX1_winnerOf (ws1 yX1_winnerOf cX1_winnerOf 1 (some .int)) ({ frames := 1, cells := 0, slots := 0, locals := 20 }) [.int a0] (G, E, Dd, P, L, pf) (rv, (G, E, Dd, P, L, pf)) := by
  unfold C_CO_winnerOf at hf
  refine sMi_of (by decide) (Nat.le_of_ble_eq_true rfl) ?_
  intro p e R s m args below meth c A Q ls H locs F hRf hRl I hl ret
  obtain ⟨hx, hb, hml, hown, hG⟩ := id F
  replace hl : lv_has ls 1 [(0, .int a0)] := hl
  refine lv_iload_n hx hb dX1_winnerOf_0 rfl (lv_at hl 0 rfl) ?_
  obtain ⟨r1, h2⟩ : ∃ z, z = C_CO_answerOf a0 := ⟨_, rfl⟩
  replace hf := nm_some h2 hf
  refine s_callSi (As := [.int a0]) (rest := []) F I (cC_CO_answerOf G E Dd P L pf a0 r1 h2) kX1_29 ⟨rfl, rfl⟩ ⟨Nat.le_trans (Nat.le_of_ble_eq_true rfl) hRf, Nat.le_trans (Nat.le_of_ble_eq_true rfl) hRl⟩ rfl rfl hl.1 (Nat.le_of_ble_eq_true rfl) ⟨Nat.zero_le _, Nat.zero_le _⟩ dX1_winnerOf_1 ?_
  intro H locs I
  refine lv_iconst (v := (1 : Int32)) hx hb dX1_winnerOf_4 (by decide) ?_
  refine lv_icmp_ne (tgt := 15) hx hb dX1_winnerOf_5 (by decide) (fun c7 => ?_) (fun c7 => ?_)
  · replace hf := (if_neg c7).symm.trans hf
    refine lv_iload_n hx hb dX1_winnerOf_15 rfl (lv_at hl 0 rfl) ?_
    obtain ⟨r3, h4⟩ : ∃ z, z = C_CO_secondOf a0 := ⟨_, rfl⟩
    replace hf := nm_some h4 hf
    refine s_callSi (As := [.int a0]) (rest := []) F I (cC_CO_secondOf G E Dd P L pf a0 r3 h4) kX1_26 ⟨rfl, rfl⟩ ⟨Nat.le_trans (Nat.le_of_ble_eq_true rfl) hRf, Nat.le_trans (Nat.le_of_ble_eq_true rfl) hRl⟩ rfl rfl hl.1 (Nat.le_of_ble_eq_true rfl) ⟨Nat.zero_le _, Nat.zero_le _⟩ dX1_winnerOf_16 ?_
    intro H locs I
    cases hf
    exact ret H locs _ ls I dX1_winnerOf_19
  · replace hf := (if_pos c7).symm.trans hf
    refine lv_iload_n hx hb dX1_winnerOf_8 rfl (lv_at hl 0 rfl) ?_
    obtain ⟨r5, h6⟩ : ∃ z, z = C_CO_firstOf a0 := ⟨_, rfl⟩
    replace hf := nm_some h6 hf
    refine s_callSi (As := [.int a0]) (rest := []) F I (cC_CO_firstOf G E Dd P L pf a0 r5 h6) kX1_23 ⟨rfl, rfl⟩ ⟨Nat.le_trans (Nat.le_of_ble_eq_true rfl) hRf, Nat.le_trans (Nat.le_of_ble_eq_true rfl) hRl⟩ rfl rfl hl.1 (Nat.le_of_ble_eq_true rfl) ⟨Nat.zero_le _, Nat.zero_le _⟩ dX1_winnerOf_9 ?_
    intro H locs I
    refine lv_goto (tgt := 19) hx hb dX1_winnerOf_12 (by decide) ?_
    cases hf
    exact ret H locs _ ls I dX1_winnerOf_19
def C_CO_loserOf (a0 : Int32) : Option (Int32) :=
nm (C_CO_answerOf a0) fun r1 =>
if r1 = (1 : Int32) then
(nm (C_CO_secondOf a0) fun r5 =>
some r5)
else
(nm (C_CO_firstOf a0) fun r3 =>
some r3)
set_option maxRecDepth 100000 in
set_option maxHeartbeats 4000000 in
theorem cC_CO_loserOf (G : Nat → Nat → Int32) (E : Nat → Nat → Int64) (Dd : Nat → Nat → UInt64) (P : Nat → Option Nat) (L : List Nat) (pf : Nat → va_E) (a0 : Int32) (rv : Int32)  (hf : C_CO_loserOf a0 = some rv) : sMi D (cT cI cJ cD cS) (cW ad cI cJ cD cS) l yX1_loserOf (ws1 yX1_loserOf cX1_loserOf 1 (some .int)) ({ frames := 1, cells := 0, slots := 0, locals := 20 }) [.int a0] (G, E, Dd, P, L, pf) (rv, (G, E, Dd, P, L, pf)) := by
  unfold C_CO_loserOf at hf
  refine sMi_of (by decide) (Nat.le_of_ble_eq_true rfl) ?_
  intro p e R s m args below meth c A Q ls H locs F hRf hRl I hl ret
  obtain ⟨hx, hb, hml, hown, hG⟩ := id F
  replace hl : lv_has ls 1 [(0, .int a0)] := hl
  refine lv_iload_n hx hb dX1_loserOf_0 rfl (lv_at hl 0 rfl) ?_
  obtain ⟨r1, h2⟩ : ∃ z, z = C_CO_answerOf a0 := ⟨_, rfl⟩
  replace hf := nm_some h2 hf
  refine s_callSi (As := [.int a0]) (rest := []) F I (cC_CO_answerOf G E Dd P L pf a0 r1 h2) kX1_29 ⟨rfl, rfl⟩ ⟨Nat.le_trans (Nat.le_of_ble_eq_true rfl) hRf, Nat.le_trans (Nat.le_of_ble_eq_true rfl) hRl⟩ rfl rfl hl.1 (Nat.le_of_ble_eq_true rfl) ⟨Nat.zero_le _, Nat.zero_le _⟩ dX1_loserOf_1 ?_
  intro H locs I
  refine lv_iconst (v := (1 : Int32)) hx hb dX1_loserOf_4 (by decide) ?_
  refine lv_icmp_ne (tgt := 15) hx hb dX1_loserOf_5 (by decide) (fun c7 => ?_) (fun c7 => ?_)
  · replace hf := (if_neg c7).symm.trans hf
    refine lv_iload_n hx hb dX1_loserOf_15 rfl (lv_at hl 0 rfl) ?_
    obtain ⟨r3, h4⟩ : ∃ z, z = C_CO_firstOf a0 := ⟨_, rfl⟩
    replace hf := nm_some h4 hf
    refine s_callSi (As := [.int a0]) (rest := []) F I (cC_CO_firstOf G E Dd P L pf a0 r3 h4) kX1_23 ⟨rfl, rfl⟩ ⟨Nat.le_trans (Nat.le_of_ble_eq_true rfl) hRf, Nat.le_trans (Nat.le_of_ble_eq_true rfl) hRl⟩ rfl rfl hl.1 (Nat.le_of_ble_eq_true rfl) ⟨Nat.zero_le _, Nat.zero_le _⟩ dX1_loserOf_16 ?_
    intro H locs I
    cases hf
    exact ret H locs _ ls I dX1_loserOf_19
  · replace hf := (if_pos c7).symm.trans hf
    refine lv_iload_n hx hb dX1_loserOf_8 rfl (lv_at hl 0 rfl) ?_
    obtain ⟨r5, h6⟩ : ∃ z, z = C_CO_secondOf a0 := ⟨_, rfl⟩
    replace hf := nm_some h6 hf
    refine s_callSi (As := [.int a0]) (rest := []) F I (cC_CO_secondOf G E Dd P L pf a0 r5 h6) kX1_26 ⟨rfl, rfl⟩ ⟨Nat.le_trans (Nat.le_of_ble_eq_true rfl) hRf, Nat.le_trans (Nat.le_of_ble_eq_true rfl) hRl⟩ rfl rfl hl.1 (Nat.le_of_ble_eq_true rfl) ⟨Nat.zero_le _, Nat.zero_le _⟩ dX1_loserOf_9 ?_
    intro H locs I
    refine lv_goto (tgt := 19) hx hb dX1_loserOf_12 (by decide) ?_
    cases hf
    exact ret H locs _ ls I dX1_loserOf_19
def C_CO_isFull (G : Nat → Nat → Int32) : Option (Int32) :=
if G 5 0 < (48 : Int32) then
(some (0 : Int32))
else
(some (1 : Int32))
set_option maxRecDepth 100000 in
set_option maxHeartbeats 4000000 in
theorem cC_CO_isFull (G : Nat → Nat → Int32) (E : Nat → Nat → Int64) (Dd : Nat → Nat → UInt64) (P : Nat → Option Nat) (L : List Nat) (pf : Nat → va_E)  (rv : Int32)  (hf : C_CO_isFull G = some rv) : sMi D (cT cI cJ cD cS) (cW ad cI cJ cD cS) l yX1_isFull (ws1 yX1_isFull cX1_isFull 1 (some .boolean)) ({ frames := 0, cells := 0, slots := 0, locals := 0 }) [.ref (ad 2)] (G, E, Dd, P, L, pf) (rv, (G, E, Dd, P, L, pf)) := by
  unfold C_CO_isFull at hf
  refine sMz_of (by decide) (Nat.le_of_ble_eq_true rfl) ?_
  intro p e R s m args below meth c A Q ls H locs F hRf hRl I hl ret
  obtain ⟨hx, hb, hml, hown, hG⟩ := id F
  replace hl : lv_has ls 1 [(0, .ref (ad 2))] := hl
  refine lv_aload_n hx hb dX1_isFull_0 rfl (lv_at hl 0 rfl) ?_
  refine kgtX1_15_2 F I dX1_isFull_1 ?_
  refine lv_bipush (v := (48 : Int32)) hx hb dX1_isFull_4 (by decide) ?_
  refine lv_icmp_lt (tgt := 13) hx hb dX1_isFull_6 (by decide) (fun c1 => ?_) (fun c1 => ?_)
  · replace hf := (if_pos c1).symm.trans hf
    refine lv_iconst (v := (0 : Int32)) hx hb dX1_isFull_13 (by decide) ?_
    cases hf
    exact ret H locs _ ls I (Or.inl rfl) dX1_isFull_14
  · replace hf := (if_neg c1).symm.trans hf
    refine lv_iconst (v := (1 : Int32)) hx hb dX1_isFull_9 (by decide) ?_
    refine lv_goto (tgt := 14) hx hb dX1_isFull_10 (by decide) ?_
    cases hf
    exact ret H locs _ ls I (Or.inr rfl) dX1_isFull_14
def C_CO_at (G : Nat → Nat → Int32) (a0 : Int32) : Option (Int32) :=
if a0 < 0 then
(some (0 : Int32))
else
(if G 5 0 ≤ a0 then
(some (0 : Int32))
else
(ri 48 a0 <|
some (G 4 a0.toNatClampNeg)))
set_option maxRecDepth 100000 in
set_option maxHeartbeats 4000000 in
theorem cC_CO_at (G : Nat → Nat → Int32) (E : Nat → Nat → Int64) (Dd : Nat → Nat → UInt64) (P : Nat → Option Nat) (L : List Nat) (pf : Nat → va_E) (a0 : Int32) (rv : Int32)  (hf : C_CO_at G a0 = some rv) : sMi D (cT cI cJ cD cS) (cW ad cI cJ cD cS) l yX1_at (ws1 yX1_at cX1_at 2 (some .int)) ({ frames := 0, cells := 0, slots := 0, locals := 0 }) [.ref (ad 2), .int a0] (G, E, Dd, P, L, pf) (rv, (G, E, Dd, P, L, pf)) := by
  unfold C_CO_at at hf
  refine sMi_of (by decide) (Nat.le_of_ble_eq_true rfl) ?_
  intro p e R s m args below meth c A Q ls H locs F hRf hRl I hl ret
  obtain ⟨hx, hb, hml, hown, hG⟩ := id F
  replace hl : lv_has ls 2 [(0, .ref (ad 2)), (1, .int a0)] := hl
  refine lv_iload_n hx hb dX1_at_0 rfl (lv_at hl 1 rfl) ?_
  refine lv_if_lt (tgt := 21) hx hb dX1_at_1 (by decide) (fun c3 => ?_) (fun c3 => ?_)
  · replace hf := (if_pos c3).symm.trans hf
    refine lv_iconst (v := (0 : Int32)) hx hb dX1_at_21 (by decide) ?_
    cases hf
    exact ret H locs _ ls I dX1_at_22
  · replace hf := (if_neg c3).symm.trans hf
    refine lv_iload_n hx hb dX1_at_4 rfl (lv_at hl 1 rfl) ?_
    refine lv_aload_n hx hb dX1_at_5 rfl (lv_at hl 0 rfl) ?_
    refine kgtX1_15_2 F I dX1_at_6 ?_
    refine lv_icmp_ge (tgt := 21) hx hb dX1_at_9 (by decide) (fun c2 => ?_) (fun c2 => ?_)
    · replace hf := (if_pos c2).symm.trans hf
      refine lv_iconst (v := (0 : Int32)) hx hb dX1_at_21 (by decide) ?_
      cases hf
      exact ret H locs _ ls I dX1_at_22
    · replace hf := (if_neg c2).symm.trans hf
      refine lv_aload_n hx hb dX1_at_12 rfl (lv_at hl 0 rfl) ?_
      refine kgtX1_9_2 F I dX1_at_13 ?_
      refine lv_iload_n hx hb dX1_at_16 rfl (lv_at hl 1 rfl) ?_
      obtain ⟨g1, hf⟩ := ri_some hf
      refine kal3 F I g1 dX1_at_17 ?_
      refine lv_goto (tgt := 22) hx hb dX1_at_18 (by decide) ?_
      cases hf
      exact ret H locs _ ls I dX1_at_22
def C_CO_put (G : Nat → Nat → Int32) (a0 : Int32) : Option ((Nat → Nat → Int32)) :=
bd (C_CO_isFull G) fun r1 =>
if r1 = 0 then
(ri 48 (G 5 0) <|
nm (wr G 4 (G 5 0) a0) fun G4 =>
nm (wf G4 5 ((G4 5 0) + (1 : Int32))) fun G5 =>
some G5)
else
(some G)
set_option maxRecDepth 100000 in
set_option maxHeartbeats 4000000 in
theorem cC_CO_put (G : Nat → Nat → Int32) (E : Nat → Nat → Int64) (Dd : Nat → Nat → UInt64) (P : Nat → Option Nat) (L : List Nat) (pf : Nat → va_E) (a0 : Int32)  (newG : Nat → Nat → Int32) (hf : C_CO_put G a0 = some newG) : sMv D (cT cI cJ cD cS) (cW ad cI cJ cD cS) l yX1_put (ws1 yX1_put cX1_put 2 none) ({ frames := 1, cells := 0, slots := 0, locals := 20 }) [.ref (ad 2), .int a0] (G, E, Dd, P, L, pf) (newG, E, Dd, P, L, pf) := by
  unfold C_CO_put at hf
  refine sMv_of (by decide) (Nat.le_of_ble_eq_true rfl) ?_
  intro p e R s m args below meth c A Q ls H locs F hRf hRl I hl ret
  obtain ⟨hx, hb, hml, hown, hG⟩ := id F
  replace hl : lv_has ls 2 [(0, .ref (ad 2)), (1, .int a0)] := hl
  refine lv_aload_n hx hb dX1_put_0 rfl (lv_at hl 0 rfl) ?_
  obtain ⟨r1, h2, hf⟩ := bd_some hf
  refine s_callVi (As := []) (rest := []) F I (cC_CO_isFull G E Dd P L pf r1 h2) kX1_32 ⟨rfl, rfl⟩ ⟨Nat.le_trans (Nat.le_of_ble_eq_true rfl) hRf, Nat.le_trans (Nat.le_of_ble_eq_true rfl) hRl⟩ 2 1 rfl rfl rfl rfl rfl hl.1 (Nat.le_of_ble_eq_true rfl) ⟨Nat.zero_le _, Nat.zero_le _⟩ dX1_put_1 ?_
  intro H locs I
  refine lv_if_ne (tgt := 27) hx hb dX1_put_4 (by decide) (fun c6 => ?_) (fun c6 => ?_)
  · replace hf := (if_neg c6).symm.trans hf
    cases hf
    exact ret H locs _ ls I dX1_put_27
  · replace hf := (if_pos c6).symm.trans hf
    refine lv_aload_n hx hb dX1_put_7 rfl (lv_at hl 0 rfl) ?_
    refine kgtX1_9_2 F I dX1_put_8 ?_
    refine lv_aload_n hx hb dX1_put_11 rfl (lv_at hl 0 rfl) ?_
    refine kgtX1_15_2 F I dX1_put_12 ?_
    refine lv_iload_n hx hb dX1_put_15 rfl (lv_at hl 1 rfl) ?_
    obtain ⟨g3, hf⟩ := ri_some hf
    refine kas3 F I g3 dX1_put_16 ?_
    intro H locs G4 eG4 I
    replace hf := nm_some eG4 hf
    refine lv_aload_n hx hb dX1_put_17 rfl (lv_at hl 0 rfl) ?_
    refine lv_dup hx hb dX1_put_18 rfl ?_
    refine kgtX1_15_2 F I dX1_put_19 ?_
    refine lv_iconst (v := (1 : Int32)) hx hb dX1_put_22 (by decide) ?_
    refine lv_iadd hx hb dX1_put_23 ?_
    refine kptX1_15_2 F I dX1_put_24 ?_
    intro H locs G5 eG5 I
    replace hf := nm_some eG5 hf
    cases hf
    exact ret H locs _ ls I dX1_put_27
def C_CO_takeOut_s1  (x2 : Int32) (G3 : Nat → Nat → Int32) : Option ((Int32 × (Nat → Nat → Int32)) ⊕ ((Nat → Nat → Int32))) :=
if G3 5 0 ≤ x2 then
(some (.inr G3))
else
(ri 48 x2 <|
ri 48 (x2 - (1 : Int32)) <|
nm (wr G3 4 (x2 - (1 : Int32)) (G3 4 x2.toNatClampNeg)) fun G8 =>
nm (x2 + (1 : Int32) : Int32) fun x9 =>
some (.inl (x9, G8)))
def C_CO_takeOut (G : Nat → Nat → Int32) (a0 : Int32) : Option ((Nat → Nat → Int32)) :=
if a0 < 0 then
(some G)
else
(if a0 < G 5 0 then
(nm (a0 + (1 : Int32) : Int32) fun x1 =>
bd (lp (fun q => C_CO_takeOut_s1 q.1 q.2) FU (x1, G)) fun G4 =>
nm (wf G4 5 ((G4 5 0) - (1 : Int32))) fun G5 =>
some G5)
else
(some G))
set_option maxRecDepth 100000 in
set_option maxHeartbeats 4000000 in
theorem cC_CO_takeOut (G : Nat → Nat → Int32) (E : Nat → Nat → Int64) (Dd : Nat → Nat → UInt64) (P : Nat → Option Nat) (L : List Nat) (pf : Nat → va_E) (a0 : Int32)  (newG : Nat → Nat → Int32) (hf : C_CO_takeOut G a0 = some newG) : sMv D (cT cI cJ cD cS) (cW ad cI cJ cD cS) l yX1_takeOut (ws1 yX1_takeOut cX1_takeOut 3 none) ({ frames := 0, cells := 0, slots := 0, locals := 0 }) [.ref (ad 2), .int a0] (G, E, Dd, P, L, pf) (newG, E, Dd, P, L, pf) := by
  unfold C_CO_takeOut at hf
  refine sMv_of (by decide) (Nat.le_of_ble_eq_true rfl) ?_
  intro p e R s m args below meth c A Q ls H locs F hRf hRl I hl ret
  obtain ⟨hx, hb, hml, hown, hG⟩ := id F
  replace hl : lv_has ls 3 [(0, .ref (ad 2)), (1, .int a0)] := hl
  refine lv_iload_n hx hb dX1_takeOut_0 rfl (lv_at hl 1 rfl) ?_
  refine lv_if_lt (tgt := 12) hx hb dX1_takeOut_1 (by decide) (fun c12 => ?_) (fun c12 => ?_)
  · replace hf := (if_pos c12).symm.trans hf
    cases hf
    exact ret H locs _ ls I dX1_takeOut_12
  · replace hf := (if_neg c12).symm.trans hf
    refine lv_iload_n hx hb dX1_takeOut_4 rfl (lv_at hl 1 rfl) ?_
    refine lv_aload_n hx hb dX1_takeOut_5 rfl (lv_at hl 0 rfl) ?_
    refine kgtX1_15_2 F I dX1_takeOut_6 ?_
    refine lv_icmp_lt (tgt := 13) hx hb dX1_takeOut_9 (by decide) (fun c11 => ?_) (fun c11 => ?_)
    · replace hf := (if_pos c11).symm.trans hf
      refine lv_iload_n hx hb dX1_takeOut_13 rfl (lv_at hl 1 rfl) ?_
      refine lv_iconst (v := (1 : Int32)) hx hb dX1_takeOut_14 (by decide) ?_
      refine lv_iadd hx hb dX1_takeOut_15 ?_
      refine lv_topi (fun x1 ex1 => ?_)
      replace hf := nm_some ex1 hf
      refine lv_istore_n (lv' := [(2, .int x1), (0, .ref (ad 2)), (1, .int a0)]) hx hb dX1_takeOut_16 rfl hl (by decide) rfl (fun ls hl => ?_)
      obtain ⟨G4, hq1, hf⟩ := bd_some hf
      have K1 : ∀ (H : Heap) (locs : List Loc), sInv D (cT cI cJ cD cS) (cW ad cI cJ cD cS) A s H locs (G4, E, Dd, P, L, pf) → ∀ (ls : Array Slot), lv_has ls 3 [(0, .ref (ad 2))] → W p l e R s m args below meth c H locs 0 0 Q (F0 m 45 ls []) := by
        intro H locs I ls hl
        refine lv_aload_n hx hb dX1_takeOut_45 rfl (lv_at hl 0 rfl) ?_
        refine lv_dup hx hb dX1_takeOut_46 rfl ?_
        refine kgtX1_15_2 F I dX1_takeOut_47 ?_
        refine lv_iconst (v := (1 : Int32)) hx hb dX1_takeOut_50 (by decide) ?_
        refine lv_isub hx hb dX1_takeOut_51 ?_
        refine kptX1_15_2 F I dX1_takeOut_52 ?_
        intro H locs G5 eG5 I
        replace hf := nm_some eG5 hf
        cases hf
        exact ret H locs _ ls I dX1_takeOut_55
      have L1 : ∀ (n : Nat) (x2 : Int32) (G3 : Nat → Nat → Int32), lp (fun q => C_CO_takeOut_s1 q.1 q.2) n (x2, G3) = some G4 → ∀ (H : Heap) (locs : List Loc), sInv D (cT cI cJ cD cS) (cW ad cI cJ cD cS) A s H locs (G3, E, Dd, P, L, pf) → ∀ (ls : Array Slot), lv_has ls 3 [(0, .ref (ad 2)), (2, .int x2)] → W p l e R s m args below meth c H locs 0 0 Q (F0 m 17 ls []) := by
        intro n
        induction n with
        | zero => intro x2 G3 hq; exact (lp_0 hq).elim
        | succ n ih1 =>
          intro x2 G3 hq H locs I ls hl
          obtain ⟨y1, hf, hK1⟩ := lp_go hq
          replace hf : C_CO_takeOut_s1 x2 G3 = some y1 := hf
          unfold C_CO_takeOut_s1 at hf
          refine lv_iload_n hx hb dX1_takeOut_17 rfl (lv_at hl 1 rfl) ?_
          refine lv_aload_n hx hb dX1_takeOut_18 rfl (lv_at hl 0 rfl) ?_
          refine kgtX1_15_2 F I dX1_takeOut_19 ?_
          refine lv_icmp_ge (tgt := 45) hx hb dX1_takeOut_22 (by decide) (fun c10 => ?_) (fun c10 => ?_)
          · replace hf := (if_pos c10).symm.trans hf
            cases hf
            cases (show G3 = G4 from hK1)
            exact K1 H locs I ls (lv_sub hl [0] rfl)
          · replace hf := (if_neg c10).symm.trans hf
            refine lv_aload_n hx hb dX1_takeOut_25 rfl (lv_at hl 0 rfl) ?_
            refine kgtX1_9_2 F I dX1_takeOut_26 ?_
            refine lv_iload_n hx hb dX1_takeOut_29 rfl (lv_at hl 1 rfl) ?_
            refine lv_iconst (v := (1 : Int32)) hx hb dX1_takeOut_30 (by decide) ?_
            refine lv_isub hx hb dX1_takeOut_31 ?_
            refine lv_aload_n hx hb dX1_takeOut_32 rfl (lv_at hl 0 rfl) ?_
            refine kgtX1_9_2 F I dX1_takeOut_33 ?_
            refine lv_iload_n hx hb dX1_takeOut_36 rfl (lv_at hl 1 rfl) ?_
            obtain ⟨g6, hf⟩ := ri_some hf
            refine kal3 F I g6 dX1_takeOut_37 ?_
            obtain ⟨g7, hf⟩ := ri_some hf
            refine kas3 F I g7 dX1_takeOut_38 ?_
            intro H locs G8 eG8 I
            replace hf := nm_some eG8 hf
            obtain ⟨x9, ex9⟩ : ∃ y : Int32, y = x2 + (1 : Int32) := ⟨_, rfl⟩
            replace hf := nm_some ex9 hf
            refine lv_iinc (v := x9) (lv' := [(2, .int x9), (0, .ref (ad 2))]) hx hb dX1_takeOut_39 hl (k := 1) rfl (by rw [ex9]; rfl) (by decide) rfl (fun ls hl => ?_)
            refine lv_goto (tgt := 17) hx hb dX1_takeOut_42 (by decide) ?_
            cases hf
            exact ih1 _ _ hK1 H locs I ls (lv_sub hl [1, 0] rfl)
      exact L1 FU _ _ hq1 H locs I ls (lv_sub hl [1, 0] rfl)
    · replace hf := (if_neg c11).symm.trans hf
      cases hf
      exact ret H locs _ ls I dX1_takeOut_12
def C_CO_countAnswers_s1 (a0 : Int32) (G : Nat → Nat → Int32) (x1 : Int32) (x2 : Int32) : Option ((Int32 × Int32) ⊕ (Int32)) :=
if G 5 0 ≤ x2 then
(some (.inr x1))
else
(ri 48 x2 <|
nm (C_CO_answerOf (G 4 x2.toNatClampNeg)) fun r5 =>
bd (if r5 = a0 then
(nm (x1 + (1 : Int32) : Int32) fun x11 =>
some x11)
else
(some x1)) fun x8 =>
nm (x2 + (1 : Int32) : Int32) fun x9 =>
some (.inl (x8, x9)))
def C_CO_countAnswers (G : Nat → Nat → Int32) (a0 : Int32) : Option (Int32) :=
bd (lp (fun q => C_CO_countAnswers_s1 a0 G q.1 q.2) FU ((0 : Int32), (0 : Int32))) fun r3 =>
some r3
set_option maxRecDepth 100000 in
set_option maxHeartbeats 4000000 in
theorem cC_CO_countAnswers (G : Nat → Nat → Int32) (E : Nat → Nat → Int64) (Dd : Nat → Nat → UInt64) (P : Nat → Option Nat) (L : List Nat) (pf : Nat → va_E) (a0 : Int32) (rv : Int32)  (hf : C_CO_countAnswers G a0 = some rv) : sMi D (cT cI cJ cD cS) (cW ad cI cJ cD cS) l yX1_countAnswers (ws1 yX1_countAnswers cX1_countAnswers 4 (some .int)) ({ frames := 1, cells := 0, slots := 0, locals := 20 }) [.ref (ad 2), .int a0] (G, E, Dd, P, L, pf) (rv, (G, E, Dd, P, L, pf)) := by
  unfold C_CO_countAnswers at hf
  refine sMi_of (by decide) (Nat.le_of_ble_eq_true rfl) ?_
  intro p e R s m args below meth c A Q ls H locs F hRf hRl I hl ret
  obtain ⟨hx, hb, hml, hown, hG⟩ := id F
  replace hl : lv_has ls 4 [(0, .ref (ad 2)), (1, .int a0)] := hl
  refine lv_iconst (v := (0 : Int32)) hx hb dX1_countAnswers_0 (by decide) ?_
  refine lv_istore_n (lv' := [(2, .int (0 : Int32)), (0, .ref (ad 2)), (1, .int a0)]) hx hb dX1_countAnswers_1 rfl hl (by decide) rfl (fun ls hl => ?_)
  refine lv_iconst (v := (0 : Int32)) hx hb dX1_countAnswers_2 (by decide) ?_
  refine lv_istore_n (lv' := [(3, .int (0 : Int32)), (2, .int (0 : Int32)), (0, .ref (ad 2)), (1, .int a0)]) hx hb dX1_countAnswers_3 rfl hl (by decide) rfl (fun ls hl => ?_)
  obtain ⟨r3, hq1, hf⟩ := bd_some hf
  have K1 : ∀ (H : Heap) (locs : List Loc), sInv D (cT cI cJ cD cS) (cW ad cI cJ cD cS) A s H locs (G, E, Dd, P, L, pf) → ∀ (ls : Array Slot), lv_has ls 4 [(2, .int r3)] → W p l e R s m args below meth c H locs 0 0 Q (F0 m 34 ls []) := by
    intro H locs I ls hl
    refine lv_iload_n hx hb dX1_countAnswers_34 rfl (lv_at hl 0 rfl) ?_
    cases hf
    exact ret H locs _ ls I dX1_countAnswers_35
  have L1 : ∀ (n : Nat) (x1 : Int32) (x2 : Int32), lp (fun q => C_CO_countAnswers_s1 a0 G q.1 q.2) n (x1, x2) = some r3 → ∀ (H : Heap) (locs : List Loc), sInv D (cT cI cJ cD cS) (cW ad cI cJ cD cS) A s H locs (G, E, Dd, P, L, pf) → ∀ (ls : Array Slot), lv_has ls 4 [(0, .ref (ad 2)), (1, .int a0), (2, .int x1), (3, .int x2)] → W p l e R s m args below meth c H locs 0 0 Q (F0 m 4 ls []) := by
    intro n
    induction n with
    | zero => intro x1 x2 hq; exact (lp_0 hq).elim
    | succ n ih1 =>
      intro x1 x2 hq H locs I ls hl
      obtain ⟨y1, hf, hK1⟩ := lp_go hq
      replace hf : C_CO_countAnswers_s1 a0 G x1 x2 = some y1 := hf
      unfold C_CO_countAnswers_s1 at hf
      refine lv_iload_n hx hb dX1_countAnswers_4 rfl (lv_at hl 3 rfl) ?_
      refine lv_aload_n hx hb dX1_countAnswers_5 rfl (lv_at hl 0 rfl) ?_
      refine kgtX1_15_2 F I dX1_countAnswers_6 ?_
      refine lv_icmp_ge (tgt := 34) hx hb dX1_countAnswers_9 (by decide) (fun c13 => ?_) (fun c13 => ?_)
      · replace hf := (if_pos c13).symm.trans hf
        cases hf
        cases (show x1 = r3 from hK1)
        exact K1 H locs I ls (lv_sub hl [2] rfl)
      · replace hf := (if_neg c13).symm.trans hf
        refine lv_aload_n hx hb dX1_countAnswers_12 rfl (lv_at hl 0 rfl) ?_
        refine kgtX1_9_2 F I dX1_countAnswers_13 ?_
        refine lv_iload_n hx hb dX1_countAnswers_16 rfl (lv_at hl 3 rfl) ?_
        obtain ⟨g4, hf⟩ := ri_some hf
        refine kal3 F I g4 dX1_countAnswers_17 ?_
        obtain ⟨r5, h6⟩ : ∃ z, z = C_CO_answerOf (G 4 x2.toNatClampNeg) := ⟨_, rfl⟩
        replace hf := nm_some h6 hf
        refine s_callSi (As := [.int (G 4 x2.toNatClampNeg)]) (rest := []) F I (cC_CO_answerOf G E Dd P L pf (G 4 x2.toNatClampNeg) r5 h6) kX1_29 ⟨rfl, rfl⟩ ⟨Nat.le_trans (Nat.le_of_ble_eq_true rfl) hRf, Nat.le_trans (Nat.le_of_ble_eq_true rfl) hRl⟩ rfl rfl hl.1 (Nat.le_of_ble_eq_true rfl) ⟨Nat.zero_le _, Nat.zero_le _⟩ dX1_countAnswers_18 ?_
        intro H locs I
        refine lv_iload_n hx hb dX1_countAnswers_21 rfl (lv_at hl 1 rfl) ?_
        obtain ⟨x8, hv10, hf⟩ := bd_some hf
        have J7 : ∀ (H : Heap) (locs : List Loc), sInv D (cT cI cJ cD cS) (cW ad cI cJ cD cS) A s H locs (G, E, Dd, P, L, pf) → ∀ (ls : Array Slot), lv_has ls 4 [(0, .ref (ad 2)), (1, .int a0), (2, .int x8), (3, .int x2)] → W p l e R s m args below meth c H locs 0 0 Q (F0 m 28 ls []) := by
          intro H locs I ls hl
          obtain ⟨x9, ex9⟩ : ∃ y : Int32, y = x2 + (1 : Int32) := ⟨_, rfl⟩
          replace hf := nm_some ex9 hf
          refine lv_iinc (v := x9) (lv' := [(3, .int x9), (0, .ref (ad 2)), (1, .int a0), (2, .int x8)]) hx hb dX1_countAnswers_28 hl (k := 3) rfl (by rw [ex9]; rfl) (by decide) rfl (fun ls hl => ?_)
          refine lv_goto (tgt := 4) hx hb dX1_countAnswers_31 (by decide) ?_
          cases hf
          exact ih1 _ _ hK1 H locs I ls (lv_sub hl [1, 2, 3, 0] rfl)
        replace hf := hv10
        refine lv_icmp_ne (tgt := 28) hx hb dX1_countAnswers_22 (by decide) (fun c12 => ?_) (fun c12 => ?_)
        · replace hf := (if_neg c12).symm.trans hf
          cases hf
          exact J7 H locs I ls (lv_sub hl [0, 1, 2, 3] rfl)
        · replace hf := (if_pos c12).symm.trans hf
          obtain ⟨x11, ex11⟩ : ∃ y : Int32, y = x1 + (1 : Int32) := ⟨_, rfl⟩
          replace hf := nm_some ex11 hf
          refine lv_iinc (v := x11) (lv' := [(2, .int x11), (0, .ref (ad 2)), (1, .int a0), (3, .int x2)]) hx hb dX1_countAnswers_25 hl (k := 2) rfl (by rw [ex11]; rfl) (by decide) rfl (fun ls hl => ?_)
          cases hf
          exact J7 H locs I ls (lv_sub hl [1, 2, 0, 3] rfl)
  exact L1 FU _ _ hq1 H locs I ls (lv_sub hl [2, 3, 1, 0] rfl)
def C_HI_forgetAll (G : Nat → Nat → Int32) : (Nat → Nat → Int32) :=
nm (wf G 7 (0 : Int32)) fun G1 =>
G1
set_option maxRecDepth 100000 in
set_option maxHeartbeats 4000000 in
theorem cC_HI_forgetAll (G : Nat → Nat → Int32) (E : Nat → Nat → Int64) (Dd : Nat → Nat → UInt64) (P : Nat → Option Nat) (L : List Nat) (pf : Nat → va_E)   (newG : Nat → Nat → Int32) (hv : newG = C_HI_forgetAll G) : sMv D (cT cI cJ cD cS) (cW ad cI cJ cD cS) l yX2_forgetAll (ws1 yX2_forgetAll cX2_forgetAll 1 none) ({ frames := 0, cells := 0, slots := 0, locals := 0 }) [.ref (ad 4)] (G, E, Dd, P, L, pf) (newG, E, Dd, P, L, pf) := by
  have hf : (nm (wf G 7 (0 : Int32)) fun G1 =>
some G1) = some newG := by rw [hv]; rfl
  refine sMv_of (by decide) (Nat.le_of_ble_eq_true rfl) ?_
  intro p e R s m args below meth c A Q ls H locs F hRf hRl I hl ret
  obtain ⟨hx, hb, hml, hown, hG⟩ := id F
  replace hl : lv_has ls 1 [(0, .ref (ad 4))] := hl
  refine lv_aload_n hx hb dX2_forgetAll_0 rfl (lv_at hl 0 rfl) ?_
  refine lv_iconst (v := (0 : Int32)) hx hb dX2_forgetAll_1 (by decide) ?_
  refine kptX2_22_4 F I dX2_forgetAll_2 ?_
  intro H locs G1 eG1 I
  replace hf := nm_some eG1 hf
  cases hf
  exact ret H locs _ ls I dX2_forgetAll_5
def C_TA_decidedOf (G : Nat → Nat → Int32) (a0 : Int32) (a1 : Int32) : Option (Int32) :=
nm (C_LT_cell a0 a1) fun r1 =>
ri 64 r1 <|
nm (C_LT_cell a1 a0) fun r4 =>
ri 64 r4 <|
some ((G 16 r1.toNatClampNeg) + (G 16 r4.toNatClampNeg))
set_option maxRecDepth 100000 in
set_option maxHeartbeats 4000000 in
theorem cC_TA_decidedOf (G : Nat → Nat → Int32) (E : Nat → Nat → Int64) (Dd : Nat → Nat → UInt64) (P : Nat → Option Nat) (L : List Nat) (pf : Nat → va_E) (a0 : Int32) (a1 : Int32) (rv : Int32)  (hf : C_TA_decidedOf G a0 a1 = some rv) : sMi D (cT cI cJ cD cS) (cW ad cI cJ cD cS) l yX9_decidedOf (ws1 yX9_decidedOf cX9_decidedOf 3 (some .int)) ({ frames := 1, cells := 0, slots := 0, locals := 21 }) [.ref (ad 9), .int a0, .int a1] (G, E, Dd, P, L, pf) (rv, (G, E, Dd, P, L, pf)) := by
  unfold C_TA_decidedOf at hf
  refine sMi_of (by decide) (Nat.le_of_ble_eq_true rfl) ?_
  intro p e R s m args below meth c A Q ls H locs F hRf hRl I hl ret
  obtain ⟨hx, hb, hml, hown, hG⟩ := id F
  replace hl : lv_has ls 3 [(0, .ref (ad 9)), (1, .int a0), (2, .int a1)] := hl
  refine lv_aload_n hx hb dX9_decidedOf_0 rfl (lv_at hl 0 rfl) ?_
  refine kgtX9_9_9 F I dX9_decidedOf_1 ?_
  refine lv_iload_n hx hb dX9_decidedOf_4 rfl (lv_at hl 1 rfl) ?_
  refine lv_iload_n hx hb dX9_decidedOf_5 rfl (lv_at hl 2 rfl) ?_
  obtain ⟨r1, h2⟩ : ∃ z, z = C_LT_cell a0 a1 := ⟨_, rfl⟩
  replace hf := nm_some h2 hf
  refine s_callSNi (As := [.int a0, .int a1]) (rest := [.ref (ad 10)]) F I (cC_LT_cell G E Dd P L pf a0 a1 r1 h2) kX9_43 ⟨rfl, rfl⟩ ⟨Nat.le_trans (Nat.le_of_ble_eq_true rfl) hRf, Nat.le_trans (Nat.le_of_ble_eq_true rfl) hRl⟩ rfl rfl hl.1 (Nat.le_of_ble_eq_true rfl) ⟨Nat.zero_le _, Nat.zero_le _⟩ dX9_decidedOf_6 ?_
  intro H locs I
  obtain ⟨g3, hf⟩ := ri_some hf
  refine kal10 F I g3 dX9_decidedOf_9 ?_
  refine lv_aload_n hx hb dX9_decidedOf_10 rfl (lv_at hl 0 rfl) ?_
  refine kgtX9_9_9 F I dX9_decidedOf_11 ?_
  refine lv_iload_n hx hb dX9_decidedOf_14 rfl (lv_at hl 2 rfl) ?_
  refine lv_iload_n hx hb dX9_decidedOf_15 rfl (lv_at hl 1 rfl) ?_
  obtain ⟨r4, h5⟩ : ∃ z, z = C_LT_cell a1 a0 := ⟨_, rfl⟩
  replace hf := nm_some h5 hf
  refine s_callSNi (As := [.int a1, .int a0]) (rest := [.ref (ad 10), .int (G 16 r1.toNatClampNeg)]) F I (cC_LT_cell G E Dd P L pf a1 a0 r4 h5) kX9_43 ⟨rfl, rfl⟩ ⟨Nat.le_trans (Nat.le_of_ble_eq_true rfl) hRf, Nat.le_trans (Nat.le_of_ble_eq_true rfl) hRl⟩ rfl rfl hl.1 (Nat.le_of_ble_eq_true rfl) ⟨Nat.zero_le _, Nat.zero_le _⟩ dX9_decidedOf_16 ?_
  intro H locs I
  obtain ⟨g6, hf⟩ := ri_some hf
  refine kal10 F I g6 dX9_decidedOf_19 ?_
  refine lv_iadd hx hb dX9_decidedOf_20 ?_
  cases hf
  exact ret H locs _ ls I dX9_decidedOf_21
def C_TA_winsOf (G : Nat → Nat → Int32) (a0 : Int32) (a1 : Int32) : Option (Int32) :=
nm (C_LT_cell a0 a1) fun r1 =>
ri 64 r1 <|
some (G 16 r1.toNatClampNeg)
set_option maxRecDepth 100000 in
set_option maxHeartbeats 4000000 in
theorem cC_TA_winsOf (G : Nat → Nat → Int32) (E : Nat → Nat → Int64) (Dd : Nat → Nat → UInt64) (P : Nat → Option Nat) (L : List Nat) (pf : Nat → va_E) (a0 : Int32) (a1 : Int32) (rv : Int32)  (hf : C_TA_winsOf G a0 a1 = some rv) : sMi D (cT cI cJ cD cS) (cW ad cI cJ cD cS) l yX9_winsOf (ws1 yX9_winsOf cX9_winsOf 3 (some .int)) ({ frames := 1, cells := 0, slots := 0, locals := 21 }) [.ref (ad 9), .int a0, .int a1] (G, E, Dd, P, L, pf) (rv, (G, E, Dd, P, L, pf)) := by
  unfold C_TA_winsOf at hf
  refine sMi_of (by decide) (Nat.le_of_ble_eq_true rfl) ?_
  intro p e R s m args below meth c A Q ls H locs F hRf hRl I hl ret
  obtain ⟨hx, hb, hml, hown, hG⟩ := id F
  replace hl : lv_has ls 3 [(0, .ref (ad 9)), (1, .int a0), (2, .int a1)] := hl
  refine lv_aload_n hx hb dX9_winsOf_0 rfl (lv_at hl 0 rfl) ?_
  refine kgtX9_9_9 F I dX9_winsOf_1 ?_
  refine lv_iload_n hx hb dX9_winsOf_4 rfl (lv_at hl 1 rfl) ?_
  refine lv_iload_n hx hb dX9_winsOf_5 rfl (lv_at hl 2 rfl) ?_
  obtain ⟨r1, h2⟩ : ∃ z, z = C_LT_cell a0 a1 := ⟨_, rfl⟩
  replace hf := nm_some h2 hf
  refine s_callSNi (As := [.int a0, .int a1]) (rest := [.ref (ad 10)]) F I (cC_LT_cell G E Dd P L pf a0 a1 r1 h2) kX9_43 ⟨rfl, rfl⟩ ⟨Nat.le_trans (Nat.le_of_ble_eq_true rfl) hRf, Nat.le_trans (Nat.le_of_ble_eq_true rfl) hRl⟩ rfl rfl hl.1 (Nat.le_of_ble_eq_true rfl) ⟨Nat.zero_le _, Nat.zero_le _⟩ dX9_winsOf_6 ?_
  intro H locs I
  obtain ⟨g3, hf⟩ := ri_some hf
  refine kal10 F I g3 dX9_winsOf_9 ?_
  cases hf
  exact ret H locs _ ls I dX9_winsOf_10
def C_LT_coinChance_s1 (x1 : Int32) (x2 : Int32) (x3 : Int64) (x4 : Int64) (x5 : Int32) : Option ((Int64 × Int64 × Int32) ⊕ (Int64)) :=
if x5 < x2 then
(some (.inr x4))
else
(nm (x4 + x3 : Int64) fun x7 =>
gd (¬ ((x1 - x5) + (1 : Int32)).toInt64 = 0) <|
nm ((x3 * x5.toInt64) / (((x1 - x5) + (1 : Int32)).toInt64) : Int64) fun x9 =>
nm (x5 + (-1 : Int32) : Int32) fun x10 =>
some (.inl (x9, x7, x10)))
def C_LT_coinChance (a0 : Int32) (a1 : Int32) : Option (Int64) :=
nm (a0 + a1 : Int32) fun x1 =>
if x1 = 0 then
(some (281474976710656 : Int64))
else
(nm ((if a0 < a1 then a1 else a0) : Int32) fun x2 =>
bd (lp (fun q => C_LT_coinChance_s1 x1 x2 q.1 q.2.1 q.2.2) FU ((1 : Int64), (0 : Int64), x1)) fun r6 =>
some (if ((2 : Int64) * r6) <<< (((48 : Int32) - x1).toInt64 &&& 63) < (281474976710656 : Int64) then ((2 : Int64) * r6) <<< (((48 : Int32) - x1).toInt64 &&& 63) else (281474976710656 : Int64)))
set_option maxRecDepth 100000 in
set_option maxHeartbeats 4000000 in
theorem cC_LT_coinChance (G : Nat → Nat → Int32) (E : Nat → Nat → Int64) (Dd : Nat → Nat → UInt64) (P : Nat → Option Nat) (L : List Nat) (pf : Nat → va_E) (a0 : Int32) (a1 : Int32) (rv : Int64)  (hf : C_LT_coinChance a0 a1 = some rv) : sMl D (cT cI cJ cD cS) (cW ad cI cJ cD cS) l yX11_coinChance (ws1 yX11_coinChance cX11_coinChance 9 (some .long)) ({ frames := 1, cells := 0, slots := 0, locals := 23 }) [.int a0, .int a1] (G, E, Dd, P, L, pf) (rv, (G, E, Dd, P, L, pf)) := by
  unfold C_LT_coinChance at hf
  refine sMl_of (by decide) (Nat.le_of_ble_eq_true rfl) ?_
  intro p e R s m args below meth c A Q ls H locs F hRf hRl I hl ret
  obtain ⟨hx, hb, hml, hown, hG⟩ := id F
  replace hl : lv_has ls 9 [(0, .int a0), (1, .int a1)] := hl
  refine lv_iload_n hx hb dX11_coinChance_0 rfl (lv_at hl 0 rfl) ?_
  refine lv_iload_n hx hb dX11_coinChance_1 rfl (lv_at hl 1 rfl) ?_
  refine lv_iadd hx hb dX11_coinChance_2 ?_
  refine lv_topi (fun x1 ex1 => ?_)
  replace hf := nm_some ex1 hf
  refine lv_istore_n (lv' := [(2, .int x1), (0, .int a0), (1, .int a1)]) hx hb dX11_coinChance_3 rfl hl (by decide) rfl (fun ls hl => ?_)
  refine lv_iload_n hx hb dX11_coinChance_4 rfl (lv_at hl 0 rfl) ?_
  refine lv_if_ne (tgt := 12) hx hb dX11_coinChance_5 (by decide) (fun c12 => ?_) (fun c12 => ?_)
  · replace hf := (if_neg c12).symm.trans hf
    refine lv_iload_n hx hb dX11_coinChance_12 rfl (lv_at hl 1 rfl) ?_
    refine lv_iload_n hx hb dX11_coinChance_13 rfl (lv_at hl 2 rfl) ?_
    refine va_mmax hx hb (hml.trans hl.1.symm) hown (hG _ q466) (hG _ q467) (hG _ q126) (hG _ q468) (Nat.le_trans (Nat.le_of_ble_eq_true rfl) hRf) (Nat.le_trans (Nat.le_of_ble_eq_true rfl) hRl) (Nat.zero_le _) (Nat.zero_le _) dX11_coinChance_14 ?_
    refine lv_topi (fun x2 ex2 => ?_)
    replace hf := nm_some ex2 hf
    refine lv_istore_n (lv' := [(3, .int x2), (2, .int x1), (0, .int a0), (1, .int a1)]) hx hb dX11_coinChance_17 rfl hl (by decide) rfl (fun ls hl => ?_)
    refine lv_lconst (v := (1 : Int64)) hx hb dX11_coinChance_18 (by decide) ?_
    refine lv_lstore (lv' := [(4, .long (1 : Int64)), (3, .int x2), (2, .int x1), (0, .int a0), (1, .int a1)]) hx hb dX11_coinChance_19 hl (by decide) rfl (fun ls hl => ?_)
    refine lv_lconst (v := (0 : Int64)) hx hb dX11_coinChance_21 (by decide) ?_
    refine lv_lstore (lv' := [(6, .long (0 : Int64)), (4, .long (1 : Int64)), (3, .int x2), (2, .int x1), (0, .int a0), (1, .int a1)]) hx hb dX11_coinChance_22 hl (by decide) rfl (fun ls hl => ?_)
    refine lv_iload_n hx hb dX11_coinChance_24 rfl (lv_at hl 3 rfl) ?_
    refine lv_istore (lv' := [(8, .int x1), (6, .long (0 : Int64)), (4, .long (1 : Int64)), (3, .int x2), (2, .int x1), (0, .int a0), (1, .int a1)]) hx hb dX11_coinChance_25 hl (by decide) rfl (fun ls hl => ?_)
    obtain ⟨r6, hq1, hf⟩ := bd_some hf
    have K1 : ∀ (H : Heap) (locs : List Loc), sInv D (cT cI cJ cD cS) (cW ad cI cJ cD cS) A s H locs (G, E, Dd, P, L, pf) → ∀ (ls : Array Slot), lv_has ls 9 [(2, .int x1), (6, .long r6)] → W p l e R s m args below meth c H locs 0 0 Q (F0 m 62 ls []) := by
      intro H locs I ls hl
      refine lv_ldc2 (v := (281474976710656 : Int64)) hx hb hown (hG _ q465) dX11_coinChance_62 ?_
      refine lv_ldc2 (v := (2 : Int64)) hx hb hown (hG _ q469) dX11_coinChance_65 ?_
      refine lv_lload hx hb dX11_coinChance_68 (lv_at hl 1 rfl) ?_
      refine lv_lmul hx hb dX11_coinChance_70 ?_
      refine lv_bipush (v := (48 : Int32)) hx hb dX11_coinChance_71 (by decide) ?_
      refine lv_iload_n hx hb dX11_coinChance_73 rfl (lv_at hl 0 rfl) ?_
      refine lv_isub hx hb dX11_coinChance_74 ?_
      refine lv_lshl hx hb dX11_coinChance_75 rfl ?_
      refine va_mmin_long hx hb (hml.trans hl.1.symm) hown (hG _ q470) (hG _ q471) (hG _ q126) (hG _ q472) (Nat.le_trans (Nat.le_of_ble_eq_true rfl) hRf) (Nat.le_trans (Nat.le_of_ble_eq_true rfl) hRl) (Nat.zero_le _) (Nat.zero_le _) dX11_coinChance_76 ?_
      cases hf
      exact ret H locs _ ls I dX11_coinChance_79
    have L1 : ∀ (n : Nat) (x3 : Int64) (x4 : Int64) (x5 : Int32), lp (fun q => C_LT_coinChance_s1 x1 x2 q.1 q.2.1 q.2.2) n (x3, x4, x5) = some r6 → ∀ (H : Heap) (locs : List Loc), sInv D (cT cI cJ cD cS) (cW ad cI cJ cD cS) A s H locs (G, E, Dd, P, L, pf) → ∀ (ls : Array Slot), lv_has ls 9 [(2, .int x1), (3, .int x2), (4, .long x3), (6, .long x4), (8, .int x5)] → W p l e R s m args below meth c H locs 0 0 Q (F0 m 27 ls []) := by
      intro n
      induction n with
      | zero => intro x3 x4 x5 hq; exact (lp_0 hq).elim
      | succ n ih1 =>
        intro x3 x4 x5 hq H locs I ls hl
        obtain ⟨y1, hf, hK1⟩ := lp_go hq
        replace hf : C_LT_coinChance_s1 x1 x2 x3 x4 x5 = some y1 := hf
        unfold C_LT_coinChance_s1 at hf
        refine lv_iload hx hb dX11_coinChance_27 (lv_at hl 4 rfl) ?_
        refine lv_iload_n hx hb dX11_coinChance_29 rfl (lv_at hl 1 rfl) ?_
        refine lv_icmp_lt (tgt := 62) hx hb dX11_coinChance_30 (by decide) (fun c11 => ?_) (fun c11 => ?_)
        · replace hf := (if_pos c11).symm.trans hf
          cases hf
          cases (show x4 = r6 from hK1)
          exact K1 H locs I ls (lv_sub hl [0, 3] rfl)
        · replace hf := (if_neg c11).symm.trans hf
          refine lv_lload hx hb dX11_coinChance_33 (lv_at hl 3 rfl) ?_
          refine lv_lload hx hb dX11_coinChance_35 (lv_at hl 2 rfl) ?_
          refine lv_ladd hx hb dX11_coinChance_37 ?_
          refine lv_topl (fun x7 ex7 => ?_)
          replace hf := nm_some ex7 hf
          refine lv_lstore (lv' := [(6, .long x7), (2, .int x1), (3, .int x2), (4, .long x3), (8, .int x5)]) hx hb dX11_coinChance_38 hl (by decide) rfl (fun ls hl => ?_)
          refine lv_lload hx hb dX11_coinChance_40 (lv_at hl 3 rfl) ?_
          refine lv_iload hx hb dX11_coinChance_42 (lv_at hl 4 rfl) ?_
          refine lv_i2l hx hb dX11_coinChance_44 rfl ?_
          refine lv_lmul hx hb dX11_coinChance_45 ?_
          refine lv_iload_n hx hb dX11_coinChance_46 rfl (lv_at hl 1 rfl) ?_
          refine lv_iload hx hb dX11_coinChance_47 (lv_at hl 4 rfl) ?_
          refine lv_isub hx hb dX11_coinChance_49 ?_
          refine lv_iconst (v := (1 : Int32)) hx hb dX11_coinChance_50 (by decide) ?_
          refine lv_iadd hx hb dX11_coinChance_51 ?_
          refine lv_i2l hx hb dX11_coinChance_52 rfl ?_
          obtain ⟨g8, hf⟩ := gd_some hf
          refine lv_ldiv hx hb dX11_coinChance_53 g8 ?_
          refine lv_topl (fun x9 ex9 => ?_)
          replace hf := nm_some ex9 hf
          refine lv_lstore (lv' := [(4, .long x9), (6, .long x7), (2, .int x1), (3, .int x2), (8, .int x5)]) hx hb dX11_coinChance_54 hl (by decide) rfl (fun ls hl => ?_)
          obtain ⟨x10, ex10⟩ : ∃ y : Int32, y = x5 + (-1 : Int32) := ⟨_, rfl⟩
          replace hf := nm_some ex10 hf
          refine lv_iinc (v := x10) (lv' := [(8, .int x10), (4, .long x9), (6, .long x7), (2, .int x1), (3, .int x2)]) hx hb dX11_coinChance_56 hl (k := 4) rfl (by rw [ex10]; rfl) (by decide) rfl (fun ls hl => ?_)
          refine lv_goto (tgt := 27) hx hb dX11_coinChance_59 (by decide) ?_
          cases hf
          exact ih1 _ _ _ hK1 H locs I ls (lv_sub hl [3, 4, 1, 2, 0] rfl)
    exact L1 FU _ _ _ hq1 H locs I ls (lv_sub hl [4, 3, 2, 1, 0] rfl)
  · replace hf := (if_pos c12).symm.trans hf
    refine lv_ldc2 (v := (281474976710656 : Int64)) hx hb hown (hG _ q465) dX11_coinChance_8 ?_
    cases hf
    exact ret H locs _ ls I dX11_coinChance_11
def C_TA_chanceOf (G : Nat → Nat → Int32) (a0 : Int32) (a1 : Int32) : Option (Int64) :=
bd (C_TA_winsOf G a0 a1) fun r1 =>
bd (C_TA_winsOf G a1 a0) fun r3 =>
bd (C_LT_coinChance r1 r3) fun r5 =>
some r5
set_option maxRecDepth 100000 in
set_option maxHeartbeats 4000000 in
theorem cC_TA_chanceOf (G : Nat → Nat → Int32) (E : Nat → Nat → Int64) (Dd : Nat → Nat → UInt64) (P : Nat → Option Nat) (L : List Nat) (pf : Nat → va_E) (a0 : Int32) (a1 : Int32) (rv : Int64)  (hf : C_TA_chanceOf G a0 a1 = some rv) : sMl D (cT cI cJ cD cS) (cW ad cI cJ cD cS) l yX9_chanceOf (ws1 yX9_chanceOf cX9_chanceOf 3 (some .long)) ({ frames := 2, cells := 0, slots := 0, locals := 51 }) [.ref (ad 9), .int a0, .int a1] (G, E, Dd, P, L, pf) (rv, (G, E, Dd, P, L, pf)) := by
  unfold C_TA_chanceOf at hf
  refine sMl_of (by decide) (Nat.le_of_ble_eq_true rfl) ?_
  intro p e R s m args below meth c A Q ls H locs F hRf hRl I hl ret
  obtain ⟨hx, hb, hml, hown, hG⟩ := id F
  replace hl : lv_has ls 3 [(0, .ref (ad 9)), (1, .int a0), (2, .int a1)] := hl
  refine lv_aload_n hx hb dX9_chanceOf_0 rfl (lv_at hl 0 rfl) ?_
  refine lv_iload_n hx hb dX9_chanceOf_1 rfl (lv_at hl 1 rfl) ?_
  refine lv_iload_n hx hb dX9_chanceOf_2 rfl (lv_at hl 2 rfl) ?_
  obtain ⟨r1, h2, hf⟩ := bd_some hf
  refine s_callVi (As := [.int a0, .int a1]) (rest := []) F I (cC_TA_winsOf G E Dd P L pf a0 a1 r1 h2) kX9_53 ⟨rfl, rfl⟩ ⟨Nat.le_trans (Nat.le_of_ble_eq_true rfl) hRf, Nat.le_trans (Nat.le_of_ble_eq_true rfl) hRl⟩ 9 9 rfl rfl rfl rfl rfl hl.1 (Nat.le_of_ble_eq_true rfl) ⟨Nat.zero_le _, Nat.zero_le _⟩ dX9_chanceOf_3 ?_
  intro H locs I
  refine lv_aload_n hx hb dX9_chanceOf_6 rfl (lv_at hl 0 rfl) ?_
  refine lv_iload_n hx hb dX9_chanceOf_7 rfl (lv_at hl 2 rfl) ?_
  refine lv_iload_n hx hb dX9_chanceOf_8 rfl (lv_at hl 1 rfl) ?_
  obtain ⟨r3, h4, hf⟩ := bd_some hf
  refine s_callVi (As := [.int a1, .int a0]) (rest := [.int r1]) F I (cC_TA_winsOf G E Dd P L pf a1 a0 r3 h4) kX9_53 ⟨rfl, rfl⟩ ⟨Nat.le_trans (Nat.le_of_ble_eq_true rfl) hRf, Nat.le_trans (Nat.le_of_ble_eq_true rfl) hRl⟩ 9 9 rfl rfl rfl rfl rfl hl.1 (Nat.le_of_ble_eq_true rfl) ⟨Nat.zero_le _, Nat.zero_le _⟩ dX9_chanceOf_9 ?_
  intro H locs I
  obtain ⟨r5, h6, hf⟩ := bd_some hf
  refine s_callSNl (As := [.int r1, .int r3]) (rest := []) F I (cC_LT_coinChance G E Dd P L pf r1 r3 r5 h6) kX9_56 ⟨rfl, rfl⟩ ⟨Nat.le_trans (Nat.le_of_ble_eq_true rfl) hRf, Nat.le_trans (Nat.le_of_ble_eq_true rfl) hRl⟩ rfl rfl hl.1 (Nat.le_of_ble_eq_true rfl) ⟨Nat.zero_le _, Nat.zero_le _⟩ dX9_chanceOf_12 ?_
  intro H locs I
  cases hf
  exact ret H locs _ ls I dX9_chanceOf_15
def C_PP_insert_s1 (a1 : Int64) (x2 : Int32) (G3 : Nat → Nat → Int32) (E4 : Nat → Nat → Int64) : Option ((Int32 × (Nat → Nat → Int32) × (Nat → Nat → Int64)) ⊕ (Int32 × (Nat → Nat → Int32) × (Nat → Nat → Int64))) :=
if x2 ≤ 0 then
(some (.inr (x2, G3, E4)))
else
(ri 28 (x2 - (1 : Int32)) <|
if lg_cmp (E4 0 (x2 - (1 : Int32)).toNatClampNeg) a1 ≤ 0 then
(some (.inr (x2, G3, E4)))
else
(ri 28 (x2 - (1 : Int32)) <|
ri 28 x2 <|
nm (wr G3 39 x2 (G3 39 (x2 - (1 : Int32)).toNatClampNeg)) fun G16 =>
ri 28 (x2 - (1 : Int32)) <|
ri 28 x2 <|
nm (wr E4 0 x2 (E4 0 (x2 - (1 : Int32)).toNatClampNeg)) fun E19 =>
nm (x2 + (-1 : Int32) : Int32) fun x20 =>
some (.inl (x20, G16, E19))))
def C_PP_insert (G : Nat → Nat → Int32) (E : Nat → Nat → Int64) (a0 : Int32) (a1 : Int64) : Option ((Nat → Nat → Int32) × (Nat → Nat → Int64)) :=
if G 40 0 < (28 : Int32) then
(nm (G 40 0 : Int32) fun x1 =>
bd3 (lp (fun q => C_PP_insert_s1 a1 q.1 q.2.1 q.2.2) FU (x1, G, E)) fun r5 G6 E7 =>
ri 28 r5 <|
nm (wr G6 39 r5 a0) fun G9 =>
ri 28 r5 <|
nm (wr E7 0 r5 a1) fun E11 =>
nm (wf G9 40 ((G9 40 0) + (1 : Int32))) fun G12 =>
some (G12, E11))
else
(some (G, E))
set_option maxRecDepth 100000 in
set_option maxHeartbeats 4000000 in
theorem cC_PP_insert (G : Nat → Nat → Int32) (E : Nat → Nat → Int64) (Dd : Nat → Nat → UInt64) (P : Nat → Option Nat) (L : List Nat) (pf : Nat → va_E) (a0 : Int32) (a1 : Int64)  (newG : Nat → Nat → Int32) (newE : Nat → Nat → Int64) (hf : C_PP_insert G E a0 a1 = some (newG, newE)) : sMv D (cT cI cJ cD cS) (cW ad cI cJ cD cS) l yX5_insert (ws1 yX5_insert cX5_insert 5 none) ({ frames := 0, cells := 0, slots := 0, locals := 0 }) [.ref (ad 30), .int a0, .long a1] (G, E, Dd, P, L, pf) (newG, newE, Dd, P, L, pf) := by
  unfold C_PP_insert at hf
  refine sMv_of (by decide) (Nat.le_of_ble_eq_true rfl) ?_
  intro p e R s m args below meth c A Q ls H locs F hRf hRl I hl ret
  obtain ⟨hx, hb, hml, hown, hG⟩ := id F
  replace hl : lv_has ls 5 [(0, .ref (ad 30)), (1, .int a0), (2, .long a1)] := hl
  refine lv_aload_n hx hb dX5_insert_0 rfl (lv_at hl 0 rfl) ?_
  refine kgtX5_19_30 F I dX5_insert_1 ?_
  refine lv_bipush (v := (28 : Int32)) hx hb dX5_insert_4 (by decide) ?_
  refine lv_icmp_lt (tgt := 10) hx hb dX5_insert_6 (by decide) (fun c23 => ?_) (fun c23 => ?_)
  · replace hf := (if_pos c23).symm.trans hf
    refine lv_aload_n hx hb dX5_insert_10 rfl (lv_at hl 0 rfl) ?_
    refine kgtX5_19_30 F I dX5_insert_11 ?_
    refine lv_topi (fun x1 ex1 => ?_)
    replace hf := nm_some ex1 hf
    refine lv_istore (lv' := [(4, .int x1), (0, .ref (ad 30)), (1, .int a0), (2, .long a1)]) hx hb dX5_insert_14 hl (by decide) rfl (fun ls hl => ?_)
    obtain ⟨r5, G6, E7, hq1, hf⟩ := bd3_some hf
    have K1 : ∀ (H : Heap) (locs : List Loc), sInv D (cT cI cJ cD cS) (cW ad cI cJ cD cS) A s H locs (G6, E7, Dd, P, L, pf) → ∀ (ls : Array Slot), lv_has ls 5 [(0, .ref (ad 30)), (1, .int a0), (2, .long a1), (4, .int r5)] → W p l e R s m args below meth c H locs 0 0 Q (F0 m 73 ls []) := by
      intro H locs I ls hl
      refine lv_aload_n hx hb dX5_insert_73 rfl (lv_at hl 0 rfl) ?_
      refine kgtX5_9_30 F I dX5_insert_74 ?_
      refine lv_iload hx hb dX5_insert_77 (lv_at hl 3 rfl) ?_
      refine lv_iload_n hx hb dX5_insert_79 rfl (lv_at hl 1 rfl) ?_
      obtain ⟨g8, hf⟩ := ri_some hf
      refine kas31 F I g8 dX5_insert_80 ?_
      intro H locs G9 eG9 I
      replace hf := nm_some eG9 hf
      refine lv_aload_n hx hb dX5_insert_81 rfl (lv_at hl 0 rfl) ?_
      refine kgtX5_15_30 F I dX5_insert_82 ?_
      refine lv_iload hx hb dX5_insert_85 (lv_at hl 3 rfl) ?_
      refine lv_lload_n hx hb dX5_insert_87 rfl (lv_at hl 2 rfl) ?_
      obtain ⟨g10, hf⟩ := ri_some hf
      refine kas32 F I g10 dX5_insert_88 ?_
      intro H locs E11 eE11 I
      replace hf := nm_some eE11 hf
      refine lv_aload_n hx hb dX5_insert_89 rfl (lv_at hl 0 rfl) ?_
      refine lv_dup hx hb dX5_insert_90 rfl ?_
      refine kgtX5_19_30 F I dX5_insert_91 ?_
      refine lv_iconst (v := (1 : Int32)) hx hb dX5_insert_94 (by decide) ?_
      refine lv_iadd hx hb dX5_insert_95 ?_
      refine kptX5_19_30 F I dX5_insert_96 ?_
      intro H locs G12 eG12 I
      replace hf := nm_some eG12 hf
      cases hf
      exact ret H locs _ ls I dX5_insert_99
    have L1 : ∀ (n : Nat) (x2 : Int32) (G3 : Nat → Nat → Int32) (E4 : Nat → Nat → Int64), lp (fun q => C_PP_insert_s1 a1 q.1 q.2.1 q.2.2) n (x2, G3, E4) = some (r5, G6, E7) → ∀ (H : Heap) (locs : List Loc), sInv D (cT cI cJ cD cS) (cW ad cI cJ cD cS) A s H locs (G3, E4, Dd, P, L, pf) → ∀ (ls : Array Slot), lv_has ls 5 [(0, .ref (ad 30)), (1, .int a0), (2, .long a1), (4, .int x2)] → W p l e R s m args below meth c H locs 0 0 Q (F0 m 16 ls []) := by
      intro n
      induction n with
      | zero => intro x2 G3 E4 hq; exact (lp_0 hq).elim
      | succ n ih1 =>
        intro x2 G3 E4 hq H locs I ls hl
        obtain ⟨y1, hf, hK1⟩ := lp_go hq
        replace hf : C_PP_insert_s1 a1 x2 G3 E4 = some y1 := hf
        unfold C_PP_insert_s1 at hf
        refine lv_iload hx hb dX5_insert_16 (lv_at hl 3 rfl) ?_
        refine lv_if_le (tgt := 73) hx hb dX5_insert_18 (by decide) (fun c22 => ?_) (fun c22 => ?_)
        · replace hf := (if_pos c22).symm.trans hf
          cases hf
          cases (show (x2, G3, E4) = (r5, G6, E7) from hK1)
          exact K1 H locs I ls (lv_sub hl [0, 1, 2, 3] rfl)
        · replace hf := (if_neg c22).symm.trans hf
          refine lv_aload_n hx hb dX5_insert_21 rfl (lv_at hl 0 rfl) ?_
          refine kgtX5_15_30 F I dX5_insert_22 ?_
          refine lv_iload hx hb dX5_insert_25 (lv_at hl 3 rfl) ?_
          refine lv_iconst (v := (1 : Int32)) hx hb dX5_insert_27 (by decide) ?_
          refine lv_isub hx hb dX5_insert_28 ?_
          obtain ⟨g13, hf⟩ := ri_some hf
          refine kal32 F I g13 dX5_insert_29 ?_
          refine lv_lload_n hx hb dX5_insert_30 rfl (lv_at hl 2 rfl) ?_
          refine W.lcmp hx hb dX5_insert_31 ?_
          refine lv_if_le (tgt := 73) hx hb dX5_insert_32 (by decide) (fun c21 => ?_) (fun c21 => ?_)
          · replace hf := (if_pos c21).symm.trans hf
            cases hf
            cases (show (x2, G3, E4) = (r5, G6, E7) from hK1)
            exact K1 H locs I ls (lv_sub hl [0, 1, 2, 3] rfl)
          · replace hf := (if_neg c21).symm.trans hf
            refine lv_aload_n hx hb dX5_insert_35 rfl (lv_at hl 0 rfl) ?_
            refine kgtX5_9_30 F I dX5_insert_36 ?_
            refine lv_iload hx hb dX5_insert_39 (lv_at hl 3 rfl) ?_
            refine lv_aload_n hx hb dX5_insert_41 rfl (lv_at hl 0 rfl) ?_
            refine kgtX5_9_30 F I dX5_insert_42 ?_
            refine lv_iload hx hb dX5_insert_45 (lv_at hl 3 rfl) ?_
            refine lv_iconst (v := (1 : Int32)) hx hb dX5_insert_47 (by decide) ?_
            refine lv_isub hx hb dX5_insert_48 ?_
            obtain ⟨g14, hf⟩ := ri_some hf
            refine kal31 F I g14 dX5_insert_49 ?_
            obtain ⟨g15, hf⟩ := ri_some hf
            refine kas31 F I g15 dX5_insert_50 ?_
            intro H locs G16 eG16 I
            replace hf := nm_some eG16 hf
            refine lv_aload_n hx hb dX5_insert_51 rfl (lv_at hl 0 rfl) ?_
            refine kgtX5_15_30 F I dX5_insert_52 ?_
            refine lv_iload hx hb dX5_insert_55 (lv_at hl 3 rfl) ?_
            refine lv_aload_n hx hb dX5_insert_57 rfl (lv_at hl 0 rfl) ?_
            refine kgtX5_15_30 F I dX5_insert_58 ?_
            refine lv_iload hx hb dX5_insert_61 (lv_at hl 3 rfl) ?_
            refine lv_iconst (v := (1 : Int32)) hx hb dX5_insert_63 (by decide) ?_
            refine lv_isub hx hb dX5_insert_64 ?_
            obtain ⟨g17, hf⟩ := ri_some hf
            refine kal32 F I g17 dX5_insert_65 ?_
            obtain ⟨g18, hf⟩ := ri_some hf
            refine kas32 F I g18 dX5_insert_66 ?_
            intro H locs E19 eE19 I
            replace hf := nm_some eE19 hf
            obtain ⟨x20, ex20⟩ : ∃ y : Int32, y = x2 + (-1 : Int32) := ⟨_, rfl⟩
            replace hf := nm_some ex20 hf
            refine lv_iinc (v := x20) (lv' := [(4, .int x20), (0, .ref (ad 30)), (1, .int a0), (2, .long a1)]) hx hb dX5_insert_67 hl (k := 3) rfl (by rw [ex20]; rfl) (by decide) rfl (fun ls hl => ?_)
            refine lv_goto (tgt := 16) hx hb dX5_insert_70 (by decide) ?_
            cases hf
            exact ih1 _ _ _ hK1 H locs I ls (lv_sub hl [1, 2, 3, 0] rfl)
    exact L1 FU _ _ _ hq1 H locs I ls (lv_sub hl [1, 2, 3, 0] rfl)
  · replace hf := (if_neg c23).symm.trans hf
    cases hf
    exact ret H locs _ ls I dX5_insert_9
def C_PP_take_s2 (a1 : Int32) (x2 : Int32) (x8 : Int32) (G9 : Nat → Nat → Int32) (E10 : Nat → Nat → Int64) : Option ((Int32 × (Nat → Nat → Int32) × (Nat → Nat → Int64)) ⊕ ((Nat → Nat → Int32) × (Nat → Nat → Int64))) :=
if a1 ≤ x8 then
(some (.inr (G9, E10)))
else
(bd (C_TA_decidedOf G9 x2 x8) fun r14 =>
bd2 (if r14 ≤ 0 then
(some (G9, E10))
else
(nm (C_LT_cell x2 x8) fun r21 =>
bd (C_TA_chanceOf G9 x2 x8) fun r23 =>
bd2 (C_PP_insert G9 E10 r21 r23) fun G25 E26 =>
some (G25, E26))) fun G17 E18 =>
nm (x8 + (1 : Int32) : Int32) fun x19 =>
some (.inl (x19, G17, E18)))
def C_PP_take_s1 (a1 : Int32) (x2 : Int32) (G3 : Nat → Nat → Int32) (E4 : Nat → Nat → Int64) : Option ((Int32 × (Nat → Nat → Int32) × (Nat → Nat → Int64)) ⊕ ((Nat → Nat → Int32) × (Nat → Nat → Int64))) :=
if a1 ≤ x2 then
(some (.inr (G3, E4)))
else
(nm (x2 + (1 : Int32) : Int32) fun x7 =>
bd2 (lp (fun q => C_PP_take_s2 a1 x2 q.1 q.2.1 q.2.2) FU (x7, G3, E4)) fun G11 E12 =>
nm (x2 + (1 : Int32) : Int32) fun x13 =>
some (.inl (x13, G11, E12)))
def C_PP_take (G : Nat → Nat → Int32) (E : Nat → Nat → Int64) (a1 : Int32) : Option ((Nat → Nat → Int32) × (Nat → Nat → Int64)) :=
nm (wf G 40 (0 : Int32)) fun G1 =>
bd2 (lp (fun q => C_PP_take_s1 a1 q.1 q.2.1 q.2.2) FU ((0 : Int32), G1, E)) fun G5 E6 =>
some (G5, E6)
set_option maxRecDepth 100000 in
set_option maxHeartbeats 4000000 in
theorem cC_PP_take (G : Nat → Nat → Int32) (E : Nat → Nat → Int64) (Dd : Nat → Nat → UInt64) (P : Nat → Option Nat) (L : List Nat) (pf : Nat → va_E) (a1 : Int32)  (newG : Nat → Nat → Int32) (newE : Nat → Nat → Int64) (hf : C_PP_take G E a1 = some (newG, newE)) : sMv D (cT cI cJ cD cS) (cW ad cI cJ cD cS) l yX5_take (ws1 yX5_take cX5_take 5 none) ({ frames := 3, cells := 0, slots := 0, locals := 73 }) [.ref (ad 30), .ref (ad 9), .int a1] (G, E, Dd, P, L, pf) (newG, newE, Dd, P, L, pf) := by
  unfold C_PP_take at hf
  refine sMv_of (by decide) (Nat.le_of_ble_eq_true rfl) ?_
  intro p e R s m args below meth c A Q ls H locs F hRf hRl I hl ret
  obtain ⟨hx, hb, hml, hown, hG⟩ := id F
  replace hl : lv_has ls 5 [(0, .ref (ad 30)), (1, .ref (ad 9)), (2, .int a1)] := hl
  refine lv_aload_n hx hb dX5_take_0 rfl (lv_at hl 0 rfl) ?_
  refine lv_iconst (v := (0 : Int32)) hx hb dX5_take_1 (by decide) ?_
  refine kptX5_19_30 F I dX5_take_2 ?_
  intro H locs G1 eG1 I
  replace hf := nm_some eG1 hf
  refine lv_iconst (v := (0 : Int32)) hx hb dX5_take_5 (by decide) ?_
  refine lv_istore_n (lv' := [(3, .int (0 : Int32)), (0, .ref (ad 30)), (1, .ref (ad 9)), (2, .int a1)]) hx hb dX5_take_6 rfl hl (by decide) rfl (fun ls hl => ?_)
  obtain ⟨G5, E6, hq1, hf⟩ := bd2_some hf
  have K1 : ∀ (H : Heap) (locs : List Loc), sInv D (cT cI cJ cD cS) (cW ad cI cJ cD cS) A s H locs (G5, E6, Dd, P, L, pf) → ∀ (ls : Array Slot), lv_has ls 5 [] → W p l e R s m args below meth c H locs 0 0 Q (F0 m 62 ls []) := by
    intro H locs I ls hl
    cases hf
    exact ret H locs _ ls I dX5_take_62
  have L1 : ∀ (n : Nat) (x2 : Int32) (G3 : Nat → Nat → Int32) (E4 : Nat → Nat → Int64), lp (fun q => C_PP_take_s1 a1 q.1 q.2.1 q.2.2) n (x2, G3, E4) = some (G5, E6) → ∀ (H : Heap) (locs : List Loc), sInv D (cT cI cJ cD cS) (cW ad cI cJ cD cS) A s H locs (G3, E4, Dd, P, L, pf) → ∀ (ls : Array Slot), lv_has ls 5 [(0, .ref (ad 30)), (1, .ref (ad 9)), (2, .int a1), (3, .int x2)] → W p l e R s m args below meth c H locs 0 0 Q (F0 m 7 ls []) := by
    intro n
    induction n with
    | zero => intro x2 G3 E4 hq; exact (lp_0 hq).elim
    | succ n ih1 =>
      intro x2 G3 E4 hq H locs I ls hl
      obtain ⟨y1, hf, hK1⟩ := lp_go hq
      replace hf : C_PP_take_s1 a1 x2 G3 E4 = some y1 := hf
      unfold C_PP_take_s1 at hf
      refine lv_iload_n hx hb dX5_take_7 rfl (lv_at hl 3 rfl) ?_
      refine lv_iload_n hx hb dX5_take_8 rfl (lv_at hl 2 rfl) ?_
      refine lv_icmp_ge (tgt := 62) hx hb dX5_take_9 (by decide) (fun c30 => ?_) (fun c30 => ?_)
      · replace hf := (if_pos c30).symm.trans hf
        cases hf
        cases (show (G3, E4) = (G5, E6) from hK1)
        exact K1 H locs I ls (lv_sub hl [] rfl)
      · replace hf := (if_neg c30).symm.trans hf
        refine lv_iload_n hx hb dX5_take_12 rfl (lv_at hl 3 rfl) ?_
        refine lv_iconst (v := (1 : Int32)) hx hb dX5_take_13 (by decide) ?_
        refine lv_iadd hx hb dX5_take_14 ?_
        refine lv_topi (fun x7 ex7 => ?_)
        replace hf := nm_some ex7 hf
        refine lv_istore (lv' := [(4, .int x7), (0, .ref (ad 30)), (1, .ref (ad 9)), (2, .int a1), (3, .int x2)]) hx hb dX5_take_15 hl (by decide) rfl (fun ls hl => ?_)
        obtain ⟨G11, E12, hq2, hf⟩ := bd2_some hf
        have K2 : ∀ (H : Heap) (locs : List Loc), sInv D (cT cI cJ cD cS) (cW ad cI cJ cD cS) A s H locs (G11, E12, Dd, P, L, pf) → ∀ (ls : Array Slot), lv_has ls 5 [(0, .ref (ad 30)), (1, .ref (ad 9)), (2, .int a1), (3, .int x2)] → W p l e R s m args below meth c H locs 0 0 Q (F0 m 56 ls []) := by
          intro H locs I ls hl
          obtain ⟨x13, ex13⟩ : ∃ y : Int32, y = x2 + (1 : Int32) := ⟨_, rfl⟩
          replace hf := nm_some ex13 hf
          refine lv_iinc (v := x13) (lv' := [(3, .int x13), (0, .ref (ad 30)), (1, .ref (ad 9)), (2, .int a1)]) hx hb dX5_take_56 hl (k := 3) rfl (by rw [ex13]; rfl) (by decide) rfl (fun ls hl => ?_)
          refine lv_goto (tgt := 7) hx hb dX5_take_59 (by decide) ?_
          cases hf
          exact ih1 _ _ _ hK1 H locs I ls (lv_sub hl [1, 2, 3, 0] rfl)
        have L2 : ∀ (n : Nat) (x8 : Int32) (G9 : Nat → Nat → Int32) (E10 : Nat → Nat → Int64), lp (fun q => C_PP_take_s2 a1 x2 q.1 q.2.1 q.2.2) n (x8, G9, E10) = some (G11, E12) → ∀ (H : Heap) (locs : List Loc), sInv D (cT cI cJ cD cS) (cW ad cI cJ cD cS) A s H locs (G9, E10, Dd, P, L, pf) → ∀ (ls : Array Slot), lv_has ls 5 [(0, .ref (ad 30)), (1, .ref (ad 9)), (2, .int a1), (3, .int x2), (4, .int x8)] → W p l e R s m args below meth c H locs 0 0 Q (F0 m 17 ls []) := by
          intro n
          induction n with
          | zero => intro x8 G9 E10 hq; exact (lp_0 hq).elim
          | succ n ih2 =>
            intro x8 G9 E10 hq H locs I ls hl
            obtain ⟨y2, hf, hK2⟩ := lp_go hq
            replace hf : C_PP_take_s2 a1 x2 x8 G9 E10 = some y2 := hf
            unfold C_PP_take_s2 at hf
            refine lv_iload hx hb dX5_take_17 (lv_at hl 4 rfl) ?_
            refine lv_iload_n hx hb dX5_take_19 rfl (lv_at hl 2 rfl) ?_
            refine lv_icmp_ge (tgt := 56) hx hb dX5_take_20 (by decide) (fun c29 => ?_) (fun c29 => ?_)
            · replace hf := (if_pos c29).symm.trans hf
              cases hf
              cases (show (G9, E10) = (G11, E12) from hK2)
              exact K2 H locs I ls (lv_sub hl [0, 1, 2, 3] rfl)
            · replace hf := (if_neg c29).symm.trans hf
              refine lv_aload_n hx hb dX5_take_23 rfl (lv_at hl 1 rfl) ?_
              refine lv_iload_n hx hb dX5_take_24 rfl (lv_at hl 3 rfl) ?_
              refine lv_iload hx hb dX5_take_25 (lv_at hl 4 rfl) ?_
              obtain ⟨r14, h15, hf⟩ := bd_some hf
              refine s_callVi (As := [.int x2, .int x8]) (rest := []) F I (cC_TA_decidedOf G9 E10 Dd P L pf x2 x8 r14 h15) kX5_23 ⟨rfl, rfl⟩ ⟨Nat.le_trans (Nat.le_of_ble_eq_true rfl) hRf, Nat.le_trans (Nat.le_of_ble_eq_true rfl) hRl⟩ 9 9 rfl rfl rfl rfl rfl hl.1 (Nat.le_of_ble_eq_true rfl) ⟨Nat.zero_le _, Nat.zero_le _⟩ dX5_take_27 ?_
              intro H locs I
              obtain ⟨G17, E18, hv20, hf⟩ := bd2_some hf
              have J16 : ∀ (H : Heap) (locs : List Loc), sInv D (cT cI cJ cD cS) (cW ad cI cJ cD cS) A s H locs (G17, E18, Dd, P, L, pf) → ∀ (ls : Array Slot), lv_has ls 5 [(0, .ref (ad 30)), (1, .ref (ad 9)), (2, .int a1), (3, .int x2), (4, .int x8)] → W p l e R s m args below meth c H locs 0 0 Q (F0 m 50 ls []) := by
                intro H locs I ls hl
                obtain ⟨x19, ex19⟩ : ∃ y : Int32, y = x8 + (1 : Int32) := ⟨_, rfl⟩
                replace hf := nm_some ex19 hf
                refine lv_iinc (v := x19) (lv' := [(4, .int x19), (0, .ref (ad 30)), (1, .ref (ad 9)), (2, .int a1), (3, .int x2)]) hx hb dX5_take_50 hl (k := 4) rfl (by rw [ex19]; rfl) (by decide) rfl (fun ls hl => ?_)
                refine lv_goto (tgt := 17) hx hb dX5_take_53 (by decide) ?_
                cases hf
                exact ih2 _ _ _ hK2 H locs I ls (lv_sub hl [1, 2, 3, 4, 0] rfl)
              replace hf := hv20
              refine lv_if_le (tgt := 50) hx hb dX5_take_30 (by decide) (fun c28 => ?_) (fun c28 => ?_)
              · replace hf := (if_pos c28).symm.trans hf
                cases hf
                exact J16 H locs I ls (lv_sub hl [0, 1, 2, 3, 4] rfl)
              · replace hf := (if_neg c28).symm.trans hf
                refine lv_aload_n hx hb dX5_take_33 rfl (lv_at hl 0 rfl) ?_
                refine lv_iload_n hx hb dX5_take_34 rfl (lv_at hl 3 rfl) ?_
                refine lv_iload hx hb dX5_take_35 (lv_at hl 4 rfl) ?_
                obtain ⟨r21, h22⟩ : ∃ z, z = C_LT_cell x2 x8 := ⟨_, rfl⟩
                replace hf := nm_some h22 hf
                refine s_callSNi (As := [.int x2, .int x8]) (rest := [.ref (ad 30)]) F I (cC_LT_cell G9 E10 Dd P L pf x2 x8 r21 h22) kX5_29 ⟨rfl, rfl⟩ ⟨Nat.le_trans (Nat.le_of_ble_eq_true rfl) hRf, Nat.le_trans (Nat.le_of_ble_eq_true rfl) hRl⟩ rfl rfl hl.1 (Nat.le_of_ble_eq_true rfl) ⟨Nat.zero_le _, Nat.zero_le _⟩ dX5_take_37 ?_
                intro H locs I
                refine lv_aload_n hx hb dX5_take_40 rfl (lv_at hl 1 rfl) ?_
                refine lv_iload_n hx hb dX5_take_41 rfl (lv_at hl 3 rfl) ?_
                refine lv_iload hx hb dX5_take_42 (lv_at hl 4 rfl) ?_
                obtain ⟨r23, h24, hf⟩ := bd_some hf
                refine s_callVl (As := [.int x2, .int x8]) (rest := [.int r21, .ref (ad 30)]) F I (cC_TA_chanceOf G9 E10 Dd P L pf x2 x8 r23 h24) kX5_32 ⟨rfl, rfl⟩ ⟨Nat.le_trans (Nat.le_of_ble_eq_true rfl) hRf, Nat.le_trans (Nat.le_of_ble_eq_true rfl) hRl⟩ 9 9 rfl rfl rfl rfl rfl hl.1 (Nat.le_of_ble_eq_true rfl) ⟨Nat.zero_le _, Nat.zero_le _⟩ dX5_take_44 ?_
                intro H locs I
                obtain ⟨G25, E26, h27, hf⟩ := bd2_some hf
                refine s_callVv (As := [.int r21, .long r23]) (rest := []) F I (cC_PP_insert G9 E10 Dd P L pf r21 r23 G25 E26 h27) kX5_36 ⟨rfl, rfl⟩ ⟨Nat.le_trans (Nat.le_of_ble_eq_true rfl) hRf, Nat.le_trans (Nat.le_of_ble_eq_true rfl) hRl⟩ 30 5 rfl rfl rfl rfl rfl hl.1 (Nat.le_of_ble_eq_true rfl) ⟨Nat.zero_le _, Nat.zero_le _⟩ dX5_take_47 ?_
                intro H locs I
                cases hf
                exact J16 H locs I ls (lv_sub hl [0, 1, 2, 3, 4] rfl)
        exact L2 FU _ _ _ hq2 H locs I ls (lv_sub hl [1, 2, 3, 4, 0] rfl)
  exact L1 FU _ _ _ hq1 H locs I ls (lv_sub hl [1, 2, 3, 0] rfl)
def C_PP_countAt_s1 (a0 : Int32) (G : Nat → Nat → Int32) (E : Nat → Nat → Int64) (x1 : Int32) : Option ((Int32) ⊕ (Int32)) :=
if G 40 0 ≤ x1 then
(some (.inr x1))
else
(ri 28 x1 <|
if 0 < lg_cmp (((E 0 x1.toNatClampNeg) * (1000 : Int64)) * (((G 40 0) - x1).toInt64)) (a0.toInt64 * (281474976710656 : Int64)) then
(some (.inr x1))
else
(nm (x1 + (1 : Int32) : Int32) fun x4 =>
some (.inl x4)))
def C_PP_countAt (G : Nat → Nat → Int32) (E : Nat → Nat → Int64) (a0 : Int32) : Option (Int32) :=
bd (lp (fun q => C_PP_countAt_s1 a0 G E q) FU (0 : Int32)) fun r2 =>
some r2
set_option maxRecDepth 100000 in
set_option maxHeartbeats 4000000 in
theorem cC_PP_countAt (G : Nat → Nat → Int32) (E : Nat → Nat → Int64) (Dd : Nat → Nat → UInt64) (P : Nat → Option Nat) (L : List Nat) (pf : Nat → va_E) (a0 : Int32) (rv : Int32)  (hf : C_PP_countAt G E a0 = some rv) : sMi D (cT cI cJ cD cS) (cW ad cI cJ cD cS) l yX5_countAt (ws1 yX5_countAt cX5_countAt 3 (some .int)) ({ frames := 0, cells := 0, slots := 0, locals := 0 }) [.ref (ad 30), .int a0] (G, E, Dd, P, L, pf) (rv, (G, E, Dd, P, L, pf)) := by
  unfold C_PP_countAt at hf
  refine sMi_of (by decide) (Nat.le_of_ble_eq_true rfl) ?_
  intro p e R s m args below meth c A Q ls H locs F hRf hRl I hl ret
  obtain ⟨hx, hb, hml, hown, hG⟩ := id F
  replace hl : lv_has ls 3 [(0, .ref (ad 30)), (1, .int a0)] := hl
  refine lv_iconst (v := (0 : Int32)) hx hb dX5_countAt_0 (by decide) ?_
  refine lv_istore_n (lv' := [(2, .int (0 : Int32)), (0, .ref (ad 30)), (1, .int a0)]) hx hb dX5_countAt_1 rfl hl (by decide) rfl (fun ls hl => ?_)
  obtain ⟨r2, hq1, hf⟩ := bd_some hf
  have K1 : ∀ (H : Heap) (locs : List Loc), sInv D (cT cI cJ cD cS) (cW ad cI cJ cD cS) A s H locs (G, E, Dd, P, L, pf) → ∀ (ls : Array Slot), lv_has ls 3 [(2, .int r2)] → W p l e R s m args below meth c H locs 0 0 Q (F0 m 44 ls []) := by
    intro H locs I ls hl
    refine lv_iload_n hx hb dX5_countAt_44 rfl (lv_at hl 0 rfl) ?_
    cases hf
    exact ret H locs _ ls I dX5_countAt_45
  have L1 : ∀ (n : Nat) (x1 : Int32), lp (fun q => C_PP_countAt_s1 a0 G E q) n x1 = some r2 → ∀ (H : Heap) (locs : List Loc), sInv D (cT cI cJ cD cS) (cW ad cI cJ cD cS) A s H locs (G, E, Dd, P, L, pf) → ∀ (ls : Array Slot), lv_has ls 3 [(0, .ref (ad 30)), (1, .int a0), (2, .int x1)] → W p l e R s m args below meth c H locs 0 0 Q (F0 m 2 ls []) := by
    intro n
    induction n with
    | zero => intro x1 hq; exact (lp_0 hq).elim
    | succ n ih1 =>
      intro x1 hq H locs I ls hl
      obtain ⟨y1, hf, hK1⟩ := lp_go hq
      replace hf : C_PP_countAt_s1 a0 G E x1 = some y1 := hf
      unfold C_PP_countAt_s1 at hf
      refine lv_iload_n hx hb dX5_countAt_2 rfl (lv_at hl 2 rfl) ?_
      refine lv_aload_n hx hb dX5_countAt_3 rfl (lv_at hl 0 rfl) ?_
      refine kgtX5_19_30 F I dX5_countAt_4 ?_
      refine lv_icmp_ge (tgt := 44) hx hb dX5_countAt_7 (by decide) (fun c6 => ?_) (fun c6 => ?_)
      · replace hf := (if_pos c6).symm.trans hf
        cases hf
        cases (show x1 = r2 from hK1)
        exact K1 H locs I ls (lv_sub hl [2] rfl)
      · replace hf := (if_neg c6).symm.trans hf
        refine lv_aload_n hx hb dX5_countAt_10 rfl (lv_at hl 0 rfl) ?_
        refine kgtX5_15_30 F I dX5_countAt_11 ?_
        refine lv_iload_n hx hb dX5_countAt_14 rfl (lv_at hl 2 rfl) ?_
        obtain ⟨g3, hf⟩ := ri_some hf
        refine kal32 F I g3 dX5_countAt_15 ?_
        refine lv_ldc2 (v := (1000 : Int64)) hx hb hown (hG _ q772) dX5_countAt_16 ?_
        refine lv_lmul hx hb dX5_countAt_19 ?_
        refine lv_aload_n hx hb dX5_countAt_20 rfl (lv_at hl 0 rfl) ?_
        refine kgtX5_19_30 F I dX5_countAt_21 ?_
        refine lv_iload_n hx hb dX5_countAt_24 rfl (lv_at hl 2 rfl) ?_
        refine lv_isub hx hb dX5_countAt_25 ?_
        refine lv_i2l hx hb dX5_countAt_26 rfl ?_
        refine lv_lmul hx hb dX5_countAt_27 ?_
        refine lv_iload_n hx hb dX5_countAt_28 rfl (lv_at hl 1 rfl) ?_
        refine lv_i2l hx hb dX5_countAt_29 rfl ?_
        refine lv_ldc2 (v := (281474976710656 : Int64)) hx hb hown (hG _ q773) dX5_countAt_30 ?_
        refine lv_lmul hx hb dX5_countAt_33 ?_
        refine W.lcmp hx hb dX5_countAt_34 ?_
        refine lv_if_gt (tgt := 44) hx hb dX5_countAt_35 (by decide) (fun c5 => ?_) (fun c5 => ?_)
        · replace hf := (if_pos c5).symm.trans hf
          cases hf
          cases (show x1 = r2 from hK1)
          exact K1 H locs I ls (lv_sub hl [2] rfl)
        · replace hf := (if_neg c5).symm.trans hf
          obtain ⟨x4, ex4⟩ : ∃ y : Int32, y = x1 + (1 : Int32) := ⟨_, rfl⟩
          replace hf := nm_some ex4 hf
          refine lv_iinc (v := x4) (lv' := [(2, .int x4), (0, .ref (ad 30)), (1, .int a0)]) hx hb dX5_countAt_38 hl (k := 2) rfl (by rw [ex4]; rfl) (by decide) rfl (fun ls hl => ?_)
          refine lv_goto (tgt := 2) hx hb dX5_countAt_41 (by decide) ?_
          cases hf
          exact ih1 _ hK1 H locs I ls (lv_sub hl [1, 2, 0] rfl)
  exact L1 FU _ hq1 H locs I ls (lv_sub hl [1, 2, 0] rfl)
def C_PP_namedPair (G : Nat → Nat → Int32) (a1 : Int32) : Option (Int32) :=
if a1 < 0 then
(some (-1 : Int32))
else
(if a1 < G 40 0 then
(ri 28 a1 <|
nm ((G 39 a1.toNatClampNeg) >>> ((3 : Int32) &&& 31) : Int32) fun x2 =>
ri 28 a1 <|
nm ((G 39 a1.toNatClampNeg) &&& (7 : Int32) : Int32) fun x4 =>
bd (C_TA_winsOf G x2 x4) fun r5 =>
bd (C_TA_winsOf G x4 x2) fun r7 =>
if r5 < r7 then
(some (((10 : Int32) * x4) + x2))
else
(some (((10 : Int32) * x2) + x4)))
else
(some (-1 : Int32)))
set_option maxRecDepth 100000 in
set_option maxHeartbeats 4000000 in
theorem cC_PP_namedPair (G : Nat → Nat → Int32) (E : Nat → Nat → Int64) (Dd : Nat → Nat → UInt64) (P : Nat → Option Nat) (L : List Nat) (pf : Nat → va_E) (a1 : Int32) (rv : Int32)  (hf : C_PP_namedPair G a1 = some rv) : sMi D (cT cI cJ cD cS) (cW ad cI cJ cD cS) l yX5_namedPair (ws1 yX5_namedPair cX5_namedPair 5 (some .int)) ({ frames := 2, cells := 0, slots := 0, locals := 43 }) [.ref (ad 30), .ref (ad 9), .int a1] (G, E, Dd, P, L, pf) (rv, (G, E, Dd, P, L, pf)) := by
  unfold C_PP_namedPair at hf
  refine sMi_of (by decide) (Nat.le_of_ble_eq_true rfl) ?_
  intro p e R s m args below meth c A Q ls H locs F hRf hRl I hl ret
  obtain ⟨hx, hb, hml, hown, hG⟩ := id F
  replace hl : lv_has ls 5 [(0, .ref (ad 30)), (1, .ref (ad 9)), (2, .int a1)] := hl
  refine lv_iload_n hx hb dX5_namedPair_0 rfl (lv_at hl 2 rfl) ?_
  refine lv_if_lt (tgt := 12) hx hb dX5_namedPair_1 (by decide) (fun c11 => ?_) (fun c11 => ?_)
  · replace hf := (if_pos c11).symm.trans hf
    refine lv_iconst (v := (-1 : Int32)) hx hb dX5_namedPair_12 (by decide) ?_
    cases hf
    exact ret H locs _ ls I dX5_namedPair_13
  · replace hf := (if_neg c11).symm.trans hf
    refine lv_iload_n hx hb dX5_namedPair_4 rfl (lv_at hl 2 rfl) ?_
    refine lv_aload_n hx hb dX5_namedPair_5 rfl (lv_at hl 0 rfl) ?_
    refine kgtX5_19_30 F I dX5_namedPair_6 ?_
    refine lv_icmp_lt (tgt := 14) hx hb dX5_namedPair_9 (by decide) (fun c10 => ?_) (fun c10 => ?_)
    · replace hf := (if_pos c10).symm.trans hf
      refine lv_aload_n hx hb dX5_namedPair_14 rfl (lv_at hl 0 rfl) ?_
      refine kgtX5_9_30 F I dX5_namedPair_15 ?_
      refine lv_iload_n hx hb dX5_namedPair_18 rfl (lv_at hl 2 rfl) ?_
      obtain ⟨g1, hf⟩ := ri_some hf
      refine kal31 F I g1 dX5_namedPair_19 ?_
      refine lv_iconst (v := (3 : Int32)) hx hb dX5_namedPair_20 (by decide) ?_
      refine lv_ishr hx hb dX5_namedPair_21 ?_
      refine lv_topi (fun x2 ex2 => ?_)
      replace hf := nm_some ex2 hf
      refine lv_istore_n (lv' := [(3, .int x2), (0, .ref (ad 30)), (1, .ref (ad 9)), (2, .int a1)]) hx hb dX5_namedPair_22 rfl hl (by decide) rfl (fun ls hl => ?_)
      refine lv_aload_n hx hb dX5_namedPair_23 rfl (lv_at hl 1 rfl) ?_
      refine kgtX5_9_30 F I dX5_namedPair_24 ?_
      refine lv_iload_n hx hb dX5_namedPair_27 rfl (lv_at hl 3 rfl) ?_
      obtain ⟨g3, hf⟩ := ri_some hf
      refine kal31 F I g3 dX5_namedPair_28 ?_
      refine lv_bipush (v := (7 : Int32)) hx hb dX5_namedPair_29 (by decide) ?_
      refine lv_iand hx hb dX5_namedPair_31 ?_
      refine lv_topi (fun x4 ex4 => ?_)
      replace hf := nm_some ex4 hf
      refine lv_istore (lv' := [(4, .int x4), (3, .int x2), (0, .ref (ad 30)), (1, .ref (ad 9)), (2, .int a1)]) hx hb dX5_namedPair_32 hl (by decide) rfl (fun ls hl => ?_)
      refine lv_aload_n hx hb dX5_namedPair_34 rfl (lv_at hl 3 rfl) ?_
      refine lv_iload_n hx hb dX5_namedPair_35 rfl (lv_at hl 1 rfl) ?_
      refine lv_iload hx hb dX5_namedPair_36 (lv_at hl 0 rfl) ?_
      obtain ⟨r5, h6, hf⟩ := bd_some hf
      refine s_callVi (As := [.int x2, .int x4]) (rest := []) F I (cC_TA_winsOf G E Dd P L pf x2 x4 r5 h6) kX5_44 ⟨rfl, rfl⟩ ⟨Nat.le_trans (Nat.le_of_ble_eq_true rfl) hRf, Nat.le_trans (Nat.le_of_ble_eq_true rfl) hRl⟩ 9 9 rfl rfl rfl rfl rfl hl.1 (Nat.le_of_ble_eq_true rfl) ⟨Nat.zero_le _, Nat.zero_le _⟩ dX5_namedPair_38 ?_
      intro H locs I
      refine lv_aload_n hx hb dX5_namedPair_41 rfl (lv_at hl 3 rfl) ?_
      refine lv_iload hx hb dX5_namedPair_42 (lv_at hl 0 rfl) ?_
      refine lv_iload_n hx hb dX5_namedPair_44 rfl (lv_at hl 1 rfl) ?_
      obtain ⟨r7, h8, hf⟩ := bd_some hf
      refine s_callVi (As := [.int x4, .int x2]) (rest := [.int r5]) F I (cC_TA_winsOf G E Dd P L pf x4 x2 r7 h8) kX5_44 ⟨rfl, rfl⟩ ⟨Nat.le_trans (Nat.le_of_ble_eq_true rfl) hRf, Nat.le_trans (Nat.le_of_ble_eq_true rfl) hRl⟩ 9 9 rfl rfl rfl rfl rfl hl.1 (Nat.le_of_ble_eq_true rfl) ⟨Nat.zero_le _, Nat.zero_le _⟩ dX5_namedPair_45 ?_
      intro H locs I
      refine lv_icmp_lt (tgt := 61) hx hb dX5_namedPair_48 (by decide) (fun c9 => ?_) (fun c9 => ?_)
      · replace hf := (if_pos c9).symm.trans hf
        refine lv_bipush (v := (10 : Int32)) hx hb dX5_namedPair_61 (by decide) ?_
        refine lv_iload hx hb dX5_namedPair_63 (lv_at hl 0 rfl) ?_
        refine lv_imul hx hb dX5_namedPair_65 ?_
        refine lv_iload_n hx hb dX5_namedPair_66 rfl (lv_at hl 1 rfl) ?_
        refine lv_iadd hx hb dX5_namedPair_67 ?_
        cases hf
        exact ret H locs _ ls I dX5_namedPair_68
      · replace hf := (if_neg c9).symm.trans hf
        refine lv_bipush (v := (10 : Int32)) hx hb dX5_namedPair_51 (by decide) ?_
        refine lv_iload_n hx hb dX5_namedPair_53 rfl (lv_at hl 1 rfl) ?_
        refine lv_imul hx hb dX5_namedPair_54 ?_
        refine lv_iload hx hb dX5_namedPair_55 (lv_at hl 0 rfl) ?_
        refine lv_iadd hx hb dX5_namedPair_57 ?_
        refine lv_goto (tgt := 68) hx hb dX5_namedPair_58 (by decide) ?_
        cases hf
        exact ret H locs _ ls I dX5_namedPair_68
    · replace hf := (if_neg c10).symm.trans hf
      refine lv_iconst (v := (-1 : Int32)) hx hb dX5_namedPair_12 (by decide) ?_
      cases hf
      exact ret H locs _ ls I dX5_namedPair_13
def C_SD_rankIn_18_s1 (a1 : Int32) (G : Nat → Nat → Int32) (x1 : Int32) (x2 : Int32) : Option ((Int32 × Int32) ⊕ (Int32)) :=
if G 21 0 ≤ x2 then
(some (.inr x1))
else
(if (8 : Int32) ≤ x2 then
(some (.inr x1))
else
(ri 8 x2 <|
ri 8 (a1 &&& (7 : Int32)) <|
bd (if G 23 x2.toNatClampNeg ≤ G 23 (a1 &&& (7 : Int32)).toNatClampNeg then
(some x1)
else
(nm (x1 + (1 : Int32) : Int32) fun x10 =>
some x10)) fun x7 =>
nm (x2 + (1 : Int32) : Int32) fun x8 =>
some (.inl (x7, x8))))
def C_SD_rankIn_18 (G : Nat → Nat → Int32) (a1 : Int32) : Option (Int32) :=
bd (lp (fun q => C_SD_rankIn_18_s1 a1 G q.1 q.2) FU ((1 : Int32), (0 : Int32))) fun r3 =>
some r3
set_option maxRecDepth 100000 in
set_option maxHeartbeats 4000000 in
theorem cC_SD_rankIn_18 (G : Nat → Nat → Int32) (E : Nat → Nat → Int64) (Dd : Nat → Nat → UInt64) (P : Nat → Option Nat) (L : List Nat) (pf : Nat → va_E) (a1 : Int32) (rv : Int32)  (hf : C_SD_rankIn_18 G a1 = some rv) : sMi D (cT cI cJ cD cS) (cW ad cI cJ cD cS) l yX6_rankIn (ws1 yX6_rankIn cX6_rankIn 5 (some .int)) ({ frames := 0, cells := 0, slots := 0, locals := 0 }) [.ref (ad 16), .ref (ad 18), .int a1] (G, E, Dd, P, L, pf) (rv, (G, E, Dd, P, L, pf)) := by
  unfold C_SD_rankIn_18 at hf
  refine sMi_of (by decide) (Nat.le_of_ble_eq_true rfl) ?_
  intro p e R s m args below meth c A Q ls H locs F hRf hRl I hl ret
  obtain ⟨hx, hb, hml, hown, hG⟩ := id F
  replace hl : lv_has ls 5 [(0, .ref (ad 16)), (1, .ref (ad 18)), (2, .int a1)] := hl
  refine lv_iconst (v := (1 : Int32)) hx hb dX6_rankIn_0 (by decide) ?_
  refine lv_istore_n (lv' := [(3, .int (1 : Int32)), (0, .ref (ad 16)), (1, .ref (ad 18)), (2, .int a1)]) hx hb dX6_rankIn_1 rfl hl (by decide) rfl (fun ls hl => ?_)
  refine lv_iconst (v := (0 : Int32)) hx hb dX6_rankIn_2 (by decide) ?_
  refine lv_istore (lv' := [(4, .int (0 : Int32)), (3, .int (1 : Int32)), (0, .ref (ad 16)), (1, .ref (ad 18)), (2, .int a1)]) hx hb dX6_rankIn_3 hl (by decide) rfl (fun ls hl => ?_)
  obtain ⟨r3, hq1, hf⟩ := bd_some hf
  have K1 : ∀ (H : Heap) (locs : List Loc), sInv D (cT cI cJ cD cS) (cW ad cI cJ cD cS) A s H locs (G, E, Dd, P, L, pf) → ∀ (ls : Array Slot), lv_has ls 5 [(3, .int r3)] → W p l e R s m args below meth c H locs 0 0 Q (F0 m 43 ls []) := by
    intro H locs I ls hl
    refine lv_iload_n hx hb dX6_rankIn_43 rfl (lv_at hl 0 rfl) ?_
    cases hf
    exact ret H locs _ ls I dX6_rankIn_44
  have L1 : ∀ (n : Nat) (x1 : Int32) (x2 : Int32), lp (fun q => C_SD_rankIn_18_s1 a1 G q.1 q.2) n (x1, x2) = some r3 → ∀ (H : Heap) (locs : List Loc), sInv D (cT cI cJ cD cS) (cW ad cI cJ cD cS) A s H locs (G, E, Dd, P, L, pf) → ∀ (ls : Array Slot), lv_has ls 5 [(0, .ref (ad 16)), (1, .ref (ad 18)), (2, .int a1), (3, .int x1), (4, .int x2)] → W p l e R s m args below meth c H locs 0 0 Q (F0 m 5 ls []) := by
    intro n
    induction n with
    | zero => intro x1 x2 hq; exact (lp_0 hq).elim
    | succ n ih1 =>
      intro x1 x2 hq H locs I ls hl
      obtain ⟨y1, hf, hK1⟩ := lp_go hq
      replace hf : C_SD_rankIn_18_s1 a1 G x1 x2 = some y1 := hf
      unfold C_SD_rankIn_18_s1 at hf
      refine lv_iload hx hb dX6_rankIn_5 (lv_at hl 4 rfl) ?_
      refine lv_aload_n hx hb dX6_rankIn_7 rfl (lv_at hl 0 rfl) ?_
      refine kgtX6_9_16 F I dX6_rankIn_8 ?_
      refine lv_icmp_ge (tgt := 43) hx hb dX6_rankIn_11 (by decide) (fun c13 => ?_) (fun c13 => ?_)
      · replace hf := (if_pos c13).symm.trans hf
        cases hf
        cases (show x1 = r3 from hK1)
        exact K1 H locs I ls (lv_sub hl [3] rfl)
      · replace hf := (if_neg c13).symm.trans hf
        refine lv_iload hx hb dX6_rankIn_14 (lv_at hl 4 rfl) ?_
        refine lv_aload_n hx hb dX6_rankIn_16 rfl (lv_at hl 1 rfl) ?_
        refine kln18 F I dX6_rankIn_17 ?_
        refine lv_icmp_ge (tgt := 43) hx hb dX6_rankIn_18 (by decide) (fun c12 => ?_) (fun c12 => ?_)
        · replace hf := (if_pos c12).symm.trans hf
          cases hf
          cases (show x1 = r3 from hK1)
          exact K1 H locs I ls (lv_sub hl [3] rfl)
        · replace hf := (if_neg c12).symm.trans hf
          refine lv_aload_n hx hb dX6_rankIn_21 rfl (lv_at hl 1 rfl) ?_
          refine lv_iload hx hb dX6_rankIn_22 (lv_at hl 4 rfl) ?_
          obtain ⟨g4, hf⟩ := ri_some hf
          refine kal18 F I g4 dX6_rankIn_24 ?_
          refine lv_aload_n hx hb dX6_rankIn_25 rfl (lv_at hl 1 rfl) ?_
          refine lv_iload_n hx hb dX6_rankIn_26 rfl (lv_at hl 2 rfl) ?_
          refine lv_bipush (v := (7 : Int32)) hx hb dX6_rankIn_27 (by decide) ?_
          refine lv_iand hx hb dX6_rankIn_29 ?_
          obtain ⟨g5, hf⟩ := ri_some hf
          refine kal18 F I g5 dX6_rankIn_30 ?_
          obtain ⟨x7, hv9, hf⟩ := bd_some hf
          have J6 : ∀ (H : Heap) (locs : List Loc), sInv D (cT cI cJ cD cS) (cW ad cI cJ cD cS) A s H locs (G, E, Dd, P, L, pf) → ∀ (ls : Array Slot), lv_has ls 5 [(0, .ref (ad 16)), (1, .ref (ad 18)), (2, .int a1), (3, .int x7), (4, .int x2)] → W p l e R s m args below meth c H locs 0 0 Q (F0 m 37 ls []) := by
            intro H locs I ls hl
            obtain ⟨x8, ex8⟩ : ∃ y : Int32, y = x2 + (1 : Int32) := ⟨_, rfl⟩
            replace hf := nm_some ex8 hf
            refine lv_iinc (v := x8) (lv' := [(4, .int x8), (0, .ref (ad 16)), (1, .ref (ad 18)), (2, .int a1), (3, .int x7)]) hx hb dX6_rankIn_37 hl (k := 4) rfl (by rw [ex8]; rfl) (by decide) rfl (fun ls hl => ?_)
            refine lv_goto (tgt := 5) hx hb dX6_rankIn_40 (by decide) ?_
            cases hf
            exact ih1 _ _ hK1 H locs I ls (lv_sub hl [1, 2, 3, 4, 0] rfl)
          replace hf := hv9
          refine lv_icmp_le (tgt := 37) hx hb dX6_rankIn_31 (by decide) (fun c11 => ?_) (fun c11 => ?_)
          · replace hf := (if_pos c11).symm.trans hf
            cases hf
            exact J6 H locs I ls (lv_sub hl [0, 1, 2, 3, 4] rfl)
          · replace hf := (if_neg c11).symm.trans hf
            obtain ⟨x10, ex10⟩ : ∃ y : Int32, y = x1 + (1 : Int32) := ⟨_, rfl⟩
            replace hf := nm_some ex10 hf
            refine lv_iinc (v := x10) (lv' := [(3, .int x10), (0, .ref (ad 16)), (1, .ref (ad 18)), (2, .int a1), (4, .int x2)]) hx hb dX6_rankIn_34 hl (k := 3) rfl (by rw [ex10]; rfl) (by decide) rfl (fun ls hl => ?_)
            cases hf
            exact J6 H locs I ls (lv_sub hl [1, 2, 3, 0, 4] rfl)
  exact L1 FU _ _ hq1 H locs I ls (lv_sub hl [2, 3, 4, 1, 0] rfl)
def C_SD_addPoints_19 (G : Nat → Nat → Int32) (a1 : Int32) (a2 : Int32) : Option ((Nat → Nat → Int32)) :=
nm (C_CO_answerOf a1) fun r1 =>
bd (if r1 = 0 then
(some (1 : Int32))
else
(if r1 = (1 : Int32) then
(some (2 : Int32))
else
(some (0 : Int32)))) fun x4 =>
if (8 : Int32) < (8 : Int32) then
(some G)
else
(nm (C_CO_firstOf a1) fun r5 =>
ri 8 r5 <|
ri 8 r5 <|
nm (wr G 24 r5 ((G 24 r5.toNatClampNeg) + (x4 * a2))) fun G9 =>
nm (C_CO_secondOf a1) fun r10 =>
ri 8 r10 <|
ri 8 r10 <|
nm (wr G9 24 r10 ((G9 24 r10.toNatClampNeg) + (((2 : Int32) - x4) * a2))) fun G14 =>
some G14)
set_option maxRecDepth 100000 in
set_option maxHeartbeats 4000000 in
theorem cC_SD_addPoints_19 (G : Nat → Nat → Int32) (E : Nat → Nat → Int64) (Dd : Nat → Nat → UInt64) (P : Nat → Option Nat) (L : List Nat) (pf : Nat → va_E) (a1 : Int32) (a2 : Int32)  (newG : Nat → Nat → Int32) (hf : C_SD_addPoints_19 G a1 a2 = some newG) : sMv D (cT cI cJ cD cS) (cW ad cI cJ cD cS) l yX6_addPoints (ws1 yX6_addPoints cX6_addPoints 5 none) ({ frames := 1, cells := 0, slots := 0, locals := 20 }) [.ref (ad 19), .int a1, .int a2] (G, E, Dd, P, L, pf) (newG, E, Dd, P, L, pf) := by
  unfold C_SD_addPoints_19 at hf
  refine sMv_of (by decide) (Nat.le_of_ble_eq_true rfl) ?_
  intro p e R s m args below meth c A Q ls H locs F hRf hRl I hl ret
  obtain ⟨hx, hb, hml, hown, hG⟩ := id F
  replace hl : lv_has ls 5 [(0, .ref (ad 19)), (1, .int a1), (2, .int a2)] := hl
  refine lv_iload_n hx hb dX6_addPoints_0 rfl (lv_at hl 1 rfl) ?_
  obtain ⟨r1, h2⟩ : ∃ z, z = C_CO_answerOf a1 := ⟨_, rfl⟩
  replace hf := nm_some h2 hf
  refine s_callSi (As := [.int a1]) (rest := []) F I (cC_CO_answerOf G E Dd P L pf a1 r1 h2) kX6_130 ⟨rfl, rfl⟩ ⟨Nat.le_trans (Nat.le_of_ble_eq_true rfl) hRf, Nat.le_trans (Nat.le_of_ble_eq_true rfl) hRl⟩ rfl rfl hl.1 (Nat.le_of_ble_eq_true rfl) ⟨Nat.zero_le _, Nat.zero_le _⟩ dX6_addPoints_1 ?_
  intro H locs I
  refine lv_istore_n (lv' := [(3, .int r1), (0, .ref (ad 19)), (1, .int a1), (2, .int a2)]) hx hb dX6_addPoints_4 rfl hl (by decide) rfl (fun ls hl => ?_)
  refine lv_iload_n hx hb dX6_addPoints_5 rfl (lv_at hl 0 rfl) ?_
  obtain ⟨x4, hv16, hf⟩ := bd_some hf
  have J3 : ∀ (H : Heap) (locs : List Loc), sInv D (cT cI cJ cD cS) (cW ad cI cJ cD cS) A s H locs (G, E, Dd, P, L, pf) → ∀ (ls : Array Slot), lv_has ls 5 [(0, .ref (ad 19)), (1, .int a1), (2, .int a2)] → W p l e R s m args below meth c H locs 0 0 Q (F0 m 23 ls [.int x4]) := by
    intro H locs I ls hl
    refine lv_istore (lv' := [(4, .int x4), (0, .ref (ad 19)), (1, .int a1), (2, .int a2)]) hx hb dX6_addPoints_23 hl (by decide) rfl (fun ls hl => ?_)
    refine lv_aload_n hx hb dX6_addPoints_25 rfl (lv_at hl 1 rfl) ?_
    refine kln19 F I dX6_addPoints_26 ?_
    refine lv_bipush (v := (8 : Int32)) hx hb dX6_addPoints_27 (by decide) ?_
    refine lv_icmp_lt (tgt := 60) hx hb dX6_addPoints_29 (by decide) (fun c15 => ?_) (fun c15 => ?_)
    · replace hf := (if_pos c15).symm.trans hf
      cases hf
      exact ret H locs _ ls I dX6_addPoints_60
    · replace hf := (if_neg c15).symm.trans hf
      refine lv_aload_n hx hb dX6_addPoints_32 rfl (lv_at hl 1 rfl) ?_
      refine lv_iload_n hx hb dX6_addPoints_33 rfl (lv_at hl 2 rfl) ?_
      obtain ⟨r5, h6⟩ : ∃ z, z = C_CO_firstOf a1 := ⟨_, rfl⟩
      replace hf := nm_some h6 hf
      refine s_callSi (As := [.int a1]) (rest := [.ref (ad 19)]) F I (cC_CO_firstOf G E Dd P L pf a1 r5 h6) kX6_133 ⟨rfl, rfl⟩ ⟨Nat.le_trans (Nat.le_of_ble_eq_true rfl) hRf, Nat.le_trans (Nat.le_of_ble_eq_true rfl) hRl⟩ rfl rfl hl.1 (Nat.le_of_ble_eq_true rfl) ⟨Nat.zero_le _, Nat.zero_le _⟩ dX6_addPoints_34 ?_
      intro H locs I
      refine lv_dup2_11 hx hb dX6_addPoints_37 rfl rfl ?_
      obtain ⟨g7, hf⟩ := ri_some hf
      refine kal19 F I g7 dX6_addPoints_38 ?_
      refine lv_iload hx hb dX6_addPoints_39 (lv_at hl 0 rfl) ?_
      refine lv_iload_n hx hb dX6_addPoints_41 rfl (lv_at hl 3 rfl) ?_
      refine lv_imul hx hb dX6_addPoints_42 ?_
      refine lv_iadd hx hb dX6_addPoints_43 ?_
      obtain ⟨g8, hf⟩ := ri_some hf
      refine kas19 F I g8 dX6_addPoints_44 ?_
      intro H locs G9 eG9 I
      replace hf := nm_some eG9 hf
      refine lv_aload_n hx hb dX6_addPoints_45 rfl (lv_at hl 1 rfl) ?_
      refine lv_iload_n hx hb dX6_addPoints_46 rfl (lv_at hl 2 rfl) ?_
      obtain ⟨r10, h11⟩ : ∃ z, z = C_CO_secondOf a1 := ⟨_, rfl⟩
      replace hf := nm_some h11 hf
      refine s_callSi (As := [.int a1]) (rest := [.ref (ad 19)]) F I (cC_CO_secondOf G9 E Dd P L pf a1 r10 h11) kX6_136 ⟨rfl, rfl⟩ ⟨Nat.le_trans (Nat.le_of_ble_eq_true rfl) hRf, Nat.le_trans (Nat.le_of_ble_eq_true rfl) hRl⟩ rfl rfl hl.1 (Nat.le_of_ble_eq_true rfl) ⟨Nat.zero_le _, Nat.zero_le _⟩ dX6_addPoints_47 ?_
      intro H locs I
      refine lv_dup2_11 hx hb dX6_addPoints_50 rfl rfl ?_
      obtain ⟨g12, hf⟩ := ri_some hf
      refine kal19 F I g12 dX6_addPoints_51 ?_
      refine lv_iconst (v := (2 : Int32)) hx hb dX6_addPoints_52 (by decide) ?_
      refine lv_iload hx hb dX6_addPoints_53 (lv_at hl 0 rfl) ?_
      refine lv_isub hx hb dX6_addPoints_55 ?_
      refine lv_iload_n hx hb dX6_addPoints_56 rfl (lv_at hl 3 rfl) ?_
      refine lv_imul hx hb dX6_addPoints_57 ?_
      refine lv_iadd hx hb dX6_addPoints_58 ?_
      obtain ⟨g13, hf⟩ := ri_some hf
      refine kas19 F I g13 dX6_addPoints_59 ?_
      intro H locs G14 eG14 I
      replace hf := nm_some eG14 hf
      cases hf
      exact ret H locs _ ls I dX6_addPoints_60
  replace hf := hv16
  refine lv_if_ne (tgt := 13) hx hb dX6_addPoints_6 (by decide) (fun c18 => ?_) (fun c18 => ?_)
  · replace hf := (if_neg c18).symm.trans hf
    refine lv_iload_n hx hb dX6_addPoints_13 rfl (lv_at hl 0 rfl) ?_
    refine lv_iconst (v := (1 : Int32)) hx hb dX6_addPoints_14 (by decide) ?_
    refine lv_icmp_ne (tgt := 22) hx hb dX6_addPoints_15 (by decide) (fun c17 => ?_) (fun c17 => ?_)
    · replace hf := (if_neg c17).symm.trans hf
      refine lv_iconst (v := (0 : Int32)) hx hb dX6_addPoints_22 (by decide) ?_
      cases hf
      exact J3 H locs I ls (lv_sub hl [1, 2, 3] rfl)
    · replace hf := (if_pos c17).symm.trans hf
      refine lv_iconst (v := (2 : Int32)) hx hb dX6_addPoints_18 (by decide) ?_
      refine lv_goto (tgt := 23) hx hb dX6_addPoints_19 (by decide) ?_
      cases hf
      exact J3 H locs I ls (lv_sub hl [1, 2, 3] rfl)
  · replace hf := (if_pos c18).symm.trans hf
    refine lv_iconst (v := (1 : Int32)) hx hb dX6_addPoints_9 (by decide) ?_
    refine lv_goto (tgt := 23) hx hb dX6_addPoints_10 (by decide) ?_
    cases hf
    exact J3 H locs I ls (lv_sub hl [1, 2, 3] rfl)
def C_SD_rankIn_19_s1 (a1 : Int32) (G : Nat → Nat → Int32) (x1 : Int32) (x2 : Int32) : Option ((Int32 × Int32) ⊕ (Int32)) :=
if G 21 0 ≤ x2 then
(some (.inr x1))
else
(if (8 : Int32) ≤ x2 then
(some (.inr x1))
else
(ri 8 x2 <|
ri 8 (a1 &&& (7 : Int32)) <|
bd (if G 24 x2.toNatClampNeg ≤ G 24 (a1 &&& (7 : Int32)).toNatClampNeg then
(some x1)
else
(nm (x1 + (1 : Int32) : Int32) fun x10 =>
some x10)) fun x7 =>
nm (x2 + (1 : Int32) : Int32) fun x8 =>
some (.inl (x7, x8))))
def C_SD_rankIn_19 (G : Nat → Nat → Int32) (a1 : Int32) : Option (Int32) :=
bd (lp (fun q => C_SD_rankIn_19_s1 a1 G q.1 q.2) FU ((1 : Int32), (0 : Int32))) fun r3 =>
some r3
set_option maxRecDepth 100000 in
set_option maxHeartbeats 4000000 in
theorem cC_SD_rankIn_19 (G : Nat → Nat → Int32) (E : Nat → Nat → Int64) (Dd : Nat → Nat → UInt64) (P : Nat → Option Nat) (L : List Nat) (pf : Nat → va_E) (a1 : Int32) (rv : Int32)  (hf : C_SD_rankIn_19 G a1 = some rv) : sMi D (cT cI cJ cD cS) (cW ad cI cJ cD cS) l yX6_rankIn (ws1 yX6_rankIn cX6_rankIn 5 (some .int)) ({ frames := 0, cells := 0, slots := 0, locals := 0 }) [.ref (ad 16), .ref (ad 19), .int a1] (G, E, Dd, P, L, pf) (rv, (G, E, Dd, P, L, pf)) := by
  unfold C_SD_rankIn_19 at hf
  refine sMi_of (by decide) (Nat.le_of_ble_eq_true rfl) ?_
  intro p e R s m args below meth c A Q ls H locs F hRf hRl I hl ret
  obtain ⟨hx, hb, hml, hown, hG⟩ := id F
  replace hl : lv_has ls 5 [(0, .ref (ad 16)), (1, .ref (ad 19)), (2, .int a1)] := hl
  refine lv_iconst (v := (1 : Int32)) hx hb dX6_rankIn_0 (by decide) ?_
  refine lv_istore_n (lv' := [(3, .int (1 : Int32)), (0, .ref (ad 16)), (1, .ref (ad 19)), (2, .int a1)]) hx hb dX6_rankIn_1 rfl hl (by decide) rfl (fun ls hl => ?_)
  refine lv_iconst (v := (0 : Int32)) hx hb dX6_rankIn_2 (by decide) ?_
  refine lv_istore (lv' := [(4, .int (0 : Int32)), (3, .int (1 : Int32)), (0, .ref (ad 16)), (1, .ref (ad 19)), (2, .int a1)]) hx hb dX6_rankIn_3 hl (by decide) rfl (fun ls hl => ?_)
  obtain ⟨r3, hq1, hf⟩ := bd_some hf
  have K1 : ∀ (H : Heap) (locs : List Loc), sInv D (cT cI cJ cD cS) (cW ad cI cJ cD cS) A s H locs (G, E, Dd, P, L, pf) → ∀ (ls : Array Slot), lv_has ls 5 [(3, .int r3)] → W p l e R s m args below meth c H locs 0 0 Q (F0 m 43 ls []) := by
    intro H locs I ls hl
    refine lv_iload_n hx hb dX6_rankIn_43 rfl (lv_at hl 0 rfl) ?_
    cases hf
    exact ret H locs _ ls I dX6_rankIn_44
  have L1 : ∀ (n : Nat) (x1 : Int32) (x2 : Int32), lp (fun q => C_SD_rankIn_19_s1 a1 G q.1 q.2) n (x1, x2) = some r3 → ∀ (H : Heap) (locs : List Loc), sInv D (cT cI cJ cD cS) (cW ad cI cJ cD cS) A s H locs (G, E, Dd, P, L, pf) → ∀ (ls : Array Slot), lv_has ls 5 [(0, .ref (ad 16)), (1, .ref (ad 19)), (2, .int a1), (3, .int x1), (4, .int x2)] → W p l e R s m args below meth c H locs 0 0 Q (F0 m 5 ls []) := by
    intro n
    induction n with
    | zero => intro x1 x2 hq; exact (lp_0 hq).elim
    | succ n ih1 =>
      intro x1 x2 hq H locs I ls hl
      obtain ⟨y1, hf, hK1⟩ := lp_go hq
      replace hf : C_SD_rankIn_19_s1 a1 G x1 x2 = some y1 := hf
      unfold C_SD_rankIn_19_s1 at hf
      refine lv_iload hx hb dX6_rankIn_5 (lv_at hl 4 rfl) ?_
      refine lv_aload_n hx hb dX6_rankIn_7 rfl (lv_at hl 0 rfl) ?_
      refine kgtX6_9_16 F I dX6_rankIn_8 ?_
      refine lv_icmp_ge (tgt := 43) hx hb dX6_rankIn_11 (by decide) (fun c13 => ?_) (fun c13 => ?_)
      · replace hf := (if_pos c13).symm.trans hf
        cases hf
        cases (show x1 = r3 from hK1)
        exact K1 H locs I ls (lv_sub hl [3] rfl)
      · replace hf := (if_neg c13).symm.trans hf
        refine lv_iload hx hb dX6_rankIn_14 (lv_at hl 4 rfl) ?_
        refine lv_aload_n hx hb dX6_rankIn_16 rfl (lv_at hl 1 rfl) ?_
        refine kln19 F I dX6_rankIn_17 ?_
        refine lv_icmp_ge (tgt := 43) hx hb dX6_rankIn_18 (by decide) (fun c12 => ?_) (fun c12 => ?_)
        · replace hf := (if_pos c12).symm.trans hf
          cases hf
          cases (show x1 = r3 from hK1)
          exact K1 H locs I ls (lv_sub hl [3] rfl)
        · replace hf := (if_neg c12).symm.trans hf
          refine lv_aload_n hx hb dX6_rankIn_21 rfl (lv_at hl 1 rfl) ?_
          refine lv_iload hx hb dX6_rankIn_22 (lv_at hl 4 rfl) ?_
          obtain ⟨g4, hf⟩ := ri_some hf
          refine kal19 F I g4 dX6_rankIn_24 ?_
          refine lv_aload_n hx hb dX6_rankIn_25 rfl (lv_at hl 1 rfl) ?_
          refine lv_iload_n hx hb dX6_rankIn_26 rfl (lv_at hl 2 rfl) ?_
          refine lv_bipush (v := (7 : Int32)) hx hb dX6_rankIn_27 (by decide) ?_
          refine lv_iand hx hb dX6_rankIn_29 ?_
          obtain ⟨g5, hf⟩ := ri_some hf
          refine kal19 F I g5 dX6_rankIn_30 ?_
          obtain ⟨x7, hv9, hf⟩ := bd_some hf
          have J6 : ∀ (H : Heap) (locs : List Loc), sInv D (cT cI cJ cD cS) (cW ad cI cJ cD cS) A s H locs (G, E, Dd, P, L, pf) → ∀ (ls : Array Slot), lv_has ls 5 [(0, .ref (ad 16)), (1, .ref (ad 19)), (2, .int a1), (3, .int x7), (4, .int x2)] → W p l e R s m args below meth c H locs 0 0 Q (F0 m 37 ls []) := by
            intro H locs I ls hl
            obtain ⟨x8, ex8⟩ : ∃ y : Int32, y = x2 + (1 : Int32) := ⟨_, rfl⟩
            replace hf := nm_some ex8 hf
            refine lv_iinc (v := x8) (lv' := [(4, .int x8), (0, .ref (ad 16)), (1, .ref (ad 19)), (2, .int a1), (3, .int x7)]) hx hb dX6_rankIn_37 hl (k := 4) rfl (by rw [ex8]; rfl) (by decide) rfl (fun ls hl => ?_)
            refine lv_goto (tgt := 5) hx hb dX6_rankIn_40 (by decide) ?_
            cases hf
            exact ih1 _ _ hK1 H locs I ls (lv_sub hl [1, 2, 3, 4, 0] rfl)
          replace hf := hv9
          refine lv_icmp_le (tgt := 37) hx hb dX6_rankIn_31 (by decide) (fun c11 => ?_) (fun c11 => ?_)
          · replace hf := (if_pos c11).symm.trans hf
            cases hf
            exact J6 H locs I ls (lv_sub hl [0, 1, 2, 3, 4] rfl)
          · replace hf := (if_neg c11).symm.trans hf
            obtain ⟨x10, ex10⟩ : ∃ y : Int32, y = x1 + (1 : Int32) := ⟨_, rfl⟩
            replace hf := nm_some ex10 hf
            refine lv_iinc (v := x10) (lv' := [(3, .int x10), (0, .ref (ad 16)), (1, .ref (ad 19)), (2, .int a1), (4, .int x2)]) hx hb dX6_rankIn_34 hl (k := 3) rfl (by rw [ex10]; rfl) (by decide) rfl (fun ls hl => ?_)
            cases hf
            exact J6 H locs I ls (lv_sub hl [1, 2, 3, 0, 4] rfl)
  exact L1 FU _ _ hq1 H locs I ls (lv_sub hl [2, 3, 4, 1, 0] rfl)
def C_SD_isStable_s1 (a1 : Int32) (r1 : Int32) (x3 : Int32) (G4 : Nat → Nat → Int32) : Option ((Int32 × (Nat → Nat → Int32)) ⊕ (Int32 × (Nat → Nat → Int32))) :=
if G4 5 0 ≤ x3 then
(some (.inr ((1 : Int32), G4)))
else
(bd (C_CO_at G4 x3) fun r5 =>
nm (wc G4 23 24 8) fun G7 =>
nm (C_CO_listenerOf r5) fun r8 =>
ri 8 r8 <|
bd (C_SD_addPoints_19 G7 r5 (-(G7 22 r8.toNatClampNeg))) fun G11 =>
bd (C_SD_rankIn_19 G11 a1) fun r13 =>
if r13 = r1 then
(nm (x3 + (1 : Int32) : Int32) fun x15 =>
some (.inl (x15, G11)))
else
(some (.inr ((0 : Int32), G11))))
def C_SD_isStable (G : Nat → Nat → Int32) (a1 : Int32) : Option (Int32 × (Nat → Nat → Int32)) :=
bd (C_SD_rankIn_18 G a1) fun r1 =>
lp (fun q => C_SD_isStable_s1 a1 r1 q.1 q.2) FU ((0 : Int32), G)
set_option maxRecDepth 100000 in
set_option maxHeartbeats 4000000 in
theorem cC_SD_isStable (G : Nat → Nat → Int32) (E : Nat → Nat → Int64) (Dd : Nat → Nat → UInt64) (P : Nat → Option Nat) (L : List Nat) (pf : Nat → va_E) (a1 : Int32) (rv : Int32) (newG : Nat → Nat → Int32) (hf : C_SD_isStable G a1 = some (rv, newG)) : sMi D (cT cI cJ cD cS) (cW ad cI cJ cD cS) l yX6_isStable (ws1 yX6_isStable cX6_isStable 6 (some .boolean)) ({ frames := 2, cells := 0, slots := 0, locals := 44 }) [.ref (ad 16), .ref (ad 2), .int a1] (G, E, Dd, P, L, pf) (rv, (newG, E, Dd, P, L, pf)) := by
  unfold C_SD_isStable at hf
  refine sMz_of (by decide) (Nat.le_of_ble_eq_true rfl) ?_
  intro p e R s m args below meth c A Q ls H locs F hRf hRl I hl ret
  obtain ⟨hx, hb, hml, hown, hG⟩ := id F
  replace hl : lv_has ls 6 [(0, .ref (ad 16)), (1, .ref (ad 2)), (2, .int a1)] := hl
  refine lv_aload_n hx hb dX6_isStable_0 rfl (lv_at hl 0 rfl) ?_
  refine lv_aload_n hx hb dX6_isStable_1 rfl (lv_at hl 0 rfl) ?_
  refine kgtX6_26_16 F I dX6_isStable_2 ?_
  refine lv_iload_n hx hb dX6_isStable_5 rfl (lv_at hl 2 rfl) ?_
  obtain ⟨r1, h2, hf⟩ := bd_some hf
  refine s_callVi (As := [.ref (ad 18), .int a1]) (rest := []) F I (cC_SD_rankIn_18 G E Dd P L pf a1 r1 h2) kX6_93 ⟨rfl, rfl⟩ ⟨Nat.le_trans (Nat.le_of_ble_eq_true rfl) hRf, Nat.le_trans (Nat.le_of_ble_eq_true rfl) hRl⟩ 16 6 rfl rfl rfl rfl rfl hl.1 (Nat.le_of_ble_eq_true rfl) ⟨Nat.zero_le _, Nat.zero_le _⟩ dX6_isStable_6 ?_
  intro H locs I
  refine lv_istore_n (lv' := [(3, .int r1), (0, .ref (ad 16)), (1, .ref (ad 2)), (2, .int a1)]) hx hb dX6_isStable_9 rfl hl (by decide) rfl (fun ls hl => ?_)
  refine lv_iconst (v := (0 : Int32)) hx hb dX6_isStable_10 (by decide) ?_
  refine lv_istore (lv' := [(4, .int (0 : Int32)), (3, .int r1), (0, .ref (ad 16)), (1, .ref (ad 2)), (2, .int a1)]) hx hb dX6_isStable_11 hl (by decide) rfl (fun ls hl => ?_)
  have hq1 : lp (fun q => C_SD_isStable_s1 a1 r1 q.1 q.2) FU ((0 : Int32), G) = some (rv, newG) := hf
  have L1 : ∀ (n : Nat) (x3 : Int32) (G4 : Nat → Nat → Int32), lp (fun q => C_SD_isStable_s1 a1 r1 q.1 q.2) n (x3, G4) = some (rv, newG) → ∀ (H : Heap) (locs : List Loc), sInv D (cT cI cJ cD cS) (cW ad cI cJ cD cS) A s H locs (G4, E, Dd, P, L, pf) → ∀ (ls : Array Slot), lv_has ls 6 [(0, .ref (ad 16)), (1, .ref (ad 2)), (2, .int a1), (3, .int r1), (4, .int x3)] → W p l e R s m args below meth c H locs 0 0 Q (F0 m 13 ls []) := by
    intro n
    induction n with
    | zero => intro x3 G4 hq; exact (lp_0 hq).elim
    | succ n ih1 =>
      intro x3 G4 hq H locs I ls hl
      obtain ⟨y1, hf, hK1⟩ := lp_go hq
      replace hf : C_SD_isStable_s1 a1 r1 x3 G4 = some y1 := hf
      unfold C_SD_isStable_s1 at hf
      refine lv_iload hx hb dX6_isStable_13 (lv_at hl 4 rfl) ?_
      refine lv_aload_n hx hb dX6_isStable_15 rfl (lv_at hl 1 rfl) ?_
      refine kgtX6_73_2 F I dX6_isStable_16 ?_
      refine lv_icmp_ge (tgt := 86) hx hb dX6_isStable_19 (by decide) (fun c17 => ?_) (fun c17 => ?_)
      · replace hf := (if_pos c17).symm.trans hf
        refine lv_iconst (v := (1 : Int32)) hx hb dX6_isStable_86 (by decide) ?_
        cases hf
        have hf := congrArg some (show _ = _ from hK1)
        cases hf
        exact ret H locs _ ls I (Or.inr rfl) dX6_isStable_87
      · replace hf := (if_neg c17).symm.trans hf
        refine lv_aload_n hx hb dX6_isStable_22 rfl (lv_at hl 1 rfl) ?_
        refine lv_iload hx hb dX6_isStable_23 (lv_at hl 4 rfl) ?_
        obtain ⟨r5, h6, hf⟩ := bd_some hf
        refine s_callVi (As := [.int x3]) (rest := []) F I (cC_CO_at G4 E Dd P L pf x3 r5 h6) kX6_78 ⟨rfl, rfl⟩ ⟨Nat.le_trans (Nat.le_of_ble_eq_true rfl) hRf, Nat.le_trans (Nat.le_of_ble_eq_true rfl) hRl⟩ 2 1 rfl rfl rfl rfl rfl hl.1 (Nat.le_of_ble_eq_true rfl) ⟨Nat.zero_le _, Nat.zero_le _⟩ dX6_isStable_25 ?_
        intro H locs I
        refine lv_istore (lv' := [(5, .int r5), (0, .ref (ad 16)), (1, .ref (ad 2)), (2, .int a1), (3, .int r1), (4, .int x3)]) hx hb dX6_isStable_28 hl (by decide) rfl (fun ls hl => ?_)
        refine lv_aload_n hx hb dX6_isStable_30 rfl (lv_at hl 1 rfl) ?_
        refine kgtX6_26_16 F I dX6_isStable_31 ?_
        refine lv_iconst (v := (0 : Int32)) hx hb dX6_isStable_34 (by decide) ?_
        refine lv_aload_n hx hb dX6_isStable_35 rfl (lv_at hl 1 rfl) ?_
        refine kgtX6_29_16 F I dX6_isStable_36 ?_
        refine lv_iconst (v := (0 : Int32)) hx hb dX6_isStable_39 (by decide) ?_
        refine lv_bipush (v := (8 : Int32)) hx hb dX6_isStable_40 (by decide) ?_
        refine kcpX6_139_18_19 F I hl.1 (Nat.le_trans (Nat.le_of_ble_eq_true rfl) hRf) (Nat.le_trans (Nat.le_of_ble_eq_true rfl) hRl) (Nat.le_of_ble_eq_true rfl) dX6_isStable_42 ?_
        intro H locs G7 eG7 I
        replace hf := nm_some eG7 hf
        refine lv_aload_n hx hb dX6_isStable_45 rfl (lv_at hl 1 rfl) ?_
        refine kgtX6_29_16 F I dX6_isStable_46 ?_
        refine lv_iload hx hb dX6_isStable_49 (lv_at hl 0 rfl) ?_
        refine lv_aload_n hx hb dX6_isStable_51 rfl (lv_at hl 1 rfl) ?_
        refine kgtX6_15_16 F I dX6_isStable_52 ?_
        refine lv_iload hx hb dX6_isStable_55 (lv_at hl 0 rfl) ?_
        obtain ⟨r8, h9⟩ : ∃ z, z = C_CO_listenerOf r5 := ⟨_, rfl⟩
        replace hf := nm_some h9 hf
        refine s_callSi (As := [.int r5]) (rest := [.ref (ad 17), .int r5, .ref (ad 19)]) F I (cC_CO_listenerOf G7 E Dd P L pf r5 r8 h9) kX6_82 ⟨rfl, rfl⟩ ⟨Nat.le_trans (Nat.le_of_ble_eq_true rfl) hRf, Nat.le_trans (Nat.le_of_ble_eq_true rfl) hRl⟩ rfl rfl hl.1 (Nat.le_of_ble_eq_true rfl) ⟨Nat.zero_le _, Nat.zero_le _⟩ dX6_isStable_57 ?_
        intro H locs I
        obtain ⟨g10, hf⟩ := ri_some hf
        refine kal17 F I g10 dX6_isStable_60 ?_
        refine lv_ineg hx hb dX6_isStable_61 ?_
        obtain ⟨G11, h12, hf⟩ := bd_some hf
        refine s_callSv (As := [.ref (ad 19), .int r5, .int (-(G7 22 r8.toNatClampNeg))]) (rest := []) F I (cC_SD_addPoints_19 G7 E Dd P L pf r5 (-(G7 22 r8.toNatClampNeg)) G11 h12) kX6_89 ⟨rfl, rfl⟩ ⟨Nat.le_trans (Nat.le_of_ble_eq_true rfl) hRf, Nat.le_trans (Nat.le_of_ble_eq_true rfl) hRl⟩ rfl rfl hl.1 (Nat.le_of_ble_eq_true rfl) ⟨Nat.zero_le _, Nat.zero_le _⟩ dX6_isStable_62 ?_
        intro H locs I
        refine lv_aload_n hx hb dX6_isStable_65 rfl (lv_at hl 1 rfl) ?_
        refine lv_aload_n hx hb dX6_isStable_66 rfl (lv_at hl 1 rfl) ?_
        refine kgtX6_29_16 F I dX6_isStable_67 ?_
        refine lv_iload_n hx hb dX6_isStable_70 rfl (lv_at hl 3 rfl) ?_
        obtain ⟨r13, h14, hf⟩ := bd_some hf
        refine s_callVi (As := [.ref (ad 19), .int a1]) (rest := []) F I (cC_SD_rankIn_19 G11 E Dd P L pf a1 r13 h14) kX6_93 ⟨rfl, rfl⟩ ⟨Nat.le_trans (Nat.le_of_ble_eq_true rfl) hRf, Nat.le_trans (Nat.le_of_ble_eq_true rfl) hRl⟩ 16 6 rfl rfl rfl rfl rfl hl.1 (Nat.le_of_ble_eq_true rfl) ⟨Nat.zero_le _, Nat.zero_le _⟩ dX6_isStable_71 ?_
        intro H locs I
        refine lv_iload_n hx hb dX6_isStable_74 rfl (lv_at hl 4 rfl) ?_
        refine lv_icmp_eq (tgt := 80) hx hb dX6_isStable_75 (by decide) (fun c16 => ?_) (fun c16 => ?_)
        · replace hf := (if_pos c16).symm.trans hf
          obtain ⟨x15, ex15⟩ : ∃ y : Int32, y = x3 + (1 : Int32) := ⟨_, rfl⟩
          replace hf := nm_some ex15 hf
          refine lv_iinc (v := x15) (lv' := [(4, .int x15), (5, .int r5), (0, .ref (ad 16)), (1, .ref (ad 2)), (2, .int a1), (3, .int r1)]) hx hb dX6_isStable_80 hl (k := 5) rfl (by rw [ex15]; rfl) (by decide) rfl (fun ls hl => ?_)
          refine lv_goto (tgt := 13) hx hb dX6_isStable_83 (by decide) ?_
          cases hf
          exact ih1 _ _ hK1 H locs I ls (lv_sub hl [2, 3, 4, 5, 0] rfl)
        · replace hf := (if_neg c16).symm.trans hf
          refine lv_iconst (v := (0 : Int32)) hx hb dX6_isStable_78 (by decide) ?_
          cases hf
          have hf := congrArg some (show _ = _ from hK1)
          cases hf
          exact ret H locs _ ls I (Or.inl rfl) dX6_isStable_79
  exact L1 FU _ _ hq1 H locs I ls (lv_sub hl [2, 3, 4, 1, 0] rfl)
def C_LE_isAhead_22 (G : Nat → Nat → Int32) (a0 : Int32) (a1 : Int32) : Option (Int32) :=
nm (C_LT_cell a0 a1) fun r1 =>
ri 64 r1 <|
if G 20 r1.toNatClampNeg ≤ 0 then
(some (0 : Int32))
else
(some (1 : Int32))
set_option maxRecDepth 100000 in
set_option maxHeartbeats 4000000 in
theorem cC_LE_isAhead_22 (G : Nat → Nat → Int32) (E : Nat → Nat → Int64) (Dd : Nat → Nat → UInt64) (P : Nat → Option Nat) (L : List Nat) (pf : Nat → va_E) (a0 : Int32) (a1 : Int32) (rv : Int32)  (hf : C_LE_isAhead_22 G a0 a1 = some rv) : sMi D (cT cI cJ cD cS) (cW ad cI cJ cD cS) l yX3_isAhead (ws1 yX3_isAhead cX3_isAhead 3 (some .boolean)) ({ frames := 1, cells := 0, slots := 0, locals := 21 }) [.ref (ad 22), .int a0, .int a1] (G, E, Dd, P, L, pf) (rv, (G, E, Dd, P, L, pf)) := by
  unfold C_LE_isAhead_22 at hf
  refine sMz_of (by decide) (Nat.le_of_ble_eq_true rfl) ?_
  intro p e R s m args below meth c A Q ls H locs F hRf hRl I hl ret
  obtain ⟨hx, hb, hml, hown, hG⟩ := id F
  replace hl : lv_has ls 3 [(0, .ref (ad 22)), (1, .int a0), (2, .int a1)] := hl
  refine lv_aload_n hx hb dX3_isAhead_0 rfl (lv_at hl 0 rfl) ?_
  refine kgtX3_9_22 F I dX3_isAhead_1 ?_
  refine lv_iload_n hx hb dX3_isAhead_4 rfl (lv_at hl 1 rfl) ?_
  refine lv_iload_n hx hb dX3_isAhead_5 rfl (lv_at hl 2 rfl) ?_
  obtain ⟨r1, h2⟩ : ∃ z, z = C_LT_cell a0 a1 := ⟨_, rfl⟩
  replace hf := nm_some h2 hf
  refine s_callSNi (As := [.int a0, .int a1]) (rest := [.ref (ad 23)]) F I (cC_LT_cell G E Dd P L pf a0 a1 r1 h2) kX3_50 ⟨rfl, rfl⟩ ⟨Nat.le_trans (Nat.le_of_ble_eq_true rfl) hRf, Nat.le_trans (Nat.le_of_ble_eq_true rfl) hRl⟩ rfl rfl hl.1 (Nat.le_of_ble_eq_true rfl) ⟨Nat.zero_le _, Nat.zero_le _⟩ dX3_isAhead_6 ?_
  intro H locs I
  obtain ⟨g3, hf⟩ := ri_some hf
  refine kal23 F I g3 dX3_isAhead_9 ?_
  refine lv_if_le (tgt := 17) hx hb dX3_isAhead_10 (by decide) (fun c4 => ?_) (fun c4 => ?_)
  · replace hf := (if_pos c4).symm.trans hf
    refine lv_iconst (v := (0 : Int32)) hx hb dX3_isAhead_17 (by decide) ?_
    cases hf
    exact ret H locs _ ls I (Or.inl rfl) dX3_isAhead_18
  · replace hf := (if_neg c4).symm.trans hf
    refine lv_iconst (v := (1 : Int32)) hx hb dX3_isAhead_13 (by decide) ?_
    refine lv_goto (tgt := 18) hx hb dX3_isAhead_14 (by decide) ?_
    cases hf
    exact ret H locs _ ls I (Or.inr rfl) dX3_isAhead_18
def C_SD_dominanceOf_s1 (a0 : Int32) (G : Nat → Nat → Int32) (x1 : Int32) (x2 : Int32) : Option ((Int32 × Int32) ⊕ (Int32)) :=
if G 21 0 ≤ x2 then
(some (.inr x1))
else
(bd (C_LE_isAhead_22 G a0 x2) fun r4 =>
bd (if r4 = 0 then
(some x1)
else
(nm (x1 + (1 : Int32) : Int32) fun x17 =>
some x17)) fun x7 =>
bd (C_LE_isAhead_22 G x2 a0) fun r8 =>
bd (if r8 = 0 then
(some x7)
else
(nm (x7 + (-1 : Int32) : Int32) fun x14 =>
some x14)) fun x11 =>
nm (x2 + (1 : Int32) : Int32) fun x12 =>
some (.inl (x11, x12)))
def C_SD_dominanceOf (G : Nat → Nat → Int32) (a0 : Int32) : Option (Int32) :=
bd (lp (fun q => C_SD_dominanceOf_s1 a0 G q.1 q.2) FU ((0 : Int32), (0 : Int32))) fun r3 =>
some r3
set_option maxRecDepth 100000 in
set_option maxHeartbeats 4000000 in
theorem cC_SD_dominanceOf (G : Nat → Nat → Int32) (E : Nat → Nat → Int64) (Dd : Nat → Nat → UInt64) (P : Nat → Option Nat) (L : List Nat) (pf : Nat → va_E) (a0 : Int32) (rv : Int32)  (hf : C_SD_dominanceOf G a0 = some rv) : sMi D (cT cI cJ cD cS) (cW ad cI cJ cD cS) l yX6_dominanceOf (ws1 yX6_dominanceOf cX6_dominanceOf 4 (some .int)) ({ frames := 2, cells := 0, slots := 0, locals := 43 }) [.ref (ad 16), .int a0] (G, E, Dd, P, L, pf) (rv, (G, E, Dd, P, L, pf)) := by
  unfold C_SD_dominanceOf at hf
  refine sMi_of (by decide) (Nat.le_of_ble_eq_true rfl) ?_
  intro p e R s m args below meth c A Q ls H locs F hRf hRl I hl ret
  obtain ⟨hx, hb, hml, hown, hG⟩ := id F
  replace hl : lv_has ls 4 [(0, .ref (ad 16)), (1, .int a0)] := hl
  refine lv_iconst (v := (0 : Int32)) hx hb dX6_dominanceOf_0 (by decide) ?_
  refine lv_istore_n (lv' := [(2, .int (0 : Int32)), (0, .ref (ad 16)), (1, .int a0)]) hx hb dX6_dominanceOf_1 rfl hl (by decide) rfl (fun ls hl => ?_)
  refine lv_iconst (v := (0 : Int32)) hx hb dX6_dominanceOf_2 (by decide) ?_
  refine lv_istore_n (lv' := [(3, .int (0 : Int32)), (2, .int (0 : Int32)), (0, .ref (ad 16)), (1, .int a0)]) hx hb dX6_dominanceOf_3 rfl hl (by decide) rfl (fun ls hl => ?_)
  obtain ⟨r3, hq1, hf⟩ := bd_some hf
  have K1 : ∀ (H : Heap) (locs : List Loc), sInv D (cT cI cJ cD cS) (cW ad cI cJ cD cS) A s H locs (G, E, Dd, P, L, pf) → ∀ (ls : Array Slot), lv_has ls 4 [(2, .int r3)] → W p l e R s m args below meth c H locs 0 0 Q (F0 m 48 ls []) := by
    intro H locs I ls hl
    refine lv_iload_n hx hb dX6_dominanceOf_48 rfl (lv_at hl 0 rfl) ?_
    cases hf
    exact ret H locs _ ls I dX6_dominanceOf_49
  have L1 : ∀ (n : Nat) (x1 : Int32) (x2 : Int32), lp (fun q => C_SD_dominanceOf_s1 a0 G q.1 q.2) n (x1, x2) = some r3 → ∀ (H : Heap) (locs : List Loc), sInv D (cT cI cJ cD cS) (cW ad cI cJ cD cS) A s H locs (G, E, Dd, P, L, pf) → ∀ (ls : Array Slot), lv_has ls 4 [(0, .ref (ad 16)), (1, .int a0), (2, .int x1), (3, .int x2)] → W p l e R s m args below meth c H locs 0 0 Q (F0 m 4 ls []) := by
    intro n
    induction n with
    | zero => intro x1 x2 hq; exact (lp_0 hq).elim
    | succ n ih1 =>
      intro x1 x2 hq H locs I ls hl
      obtain ⟨y1, hf, hK1⟩ := lp_go hq
      replace hf : C_SD_dominanceOf_s1 a0 G x1 x2 = some y1 := hf
      unfold C_SD_dominanceOf_s1 at hf
      refine lv_iload_n hx hb dX6_dominanceOf_4 rfl (lv_at hl 3 rfl) ?_
      refine lv_aload_n hx hb dX6_dominanceOf_5 rfl (lv_at hl 0 rfl) ?_
      refine kgtX6_9_16 F I dX6_dominanceOf_6 ?_
      refine lv_icmp_ge (tgt := 48) hx hb dX6_dominanceOf_9 (by decide) (fun c19 => ?_) (fun c19 => ?_)
      · replace hf := (if_pos c19).symm.trans hf
        cases hf
        cases (show x1 = r3 from hK1)
        exact K1 H locs I ls (lv_sub hl [2] rfl)
      · replace hf := (if_neg c19).symm.trans hf
        refine lv_aload_n hx hb dX6_dominanceOf_12 rfl (lv_at hl 0 rfl) ?_
        refine kgtX6_22_16 F I dX6_dominanceOf_13 ?_
        refine lv_iload_n hx hb dX6_dominanceOf_16 rfl (lv_at hl 1 rfl) ?_
        refine lv_iload_n hx hb dX6_dominanceOf_17 rfl (lv_at hl 3 rfl) ?_
        obtain ⟨r4, h5, hf⟩ := bd_some hf
        refine s_callVi (As := [.int a0, .int x2]) (rest := []) F I (cC_LE_isAhead_22 G E Dd P L pf a0 x2 r4 h5) kX6_145 ⟨rfl, rfl⟩ ⟨Nat.le_trans (Nat.le_of_ble_eq_true rfl) hRf, Nat.le_trans (Nat.le_of_ble_eq_true rfl) hRl⟩ 22 3 rfl rfl rfl rfl rfl hl.1 (Nat.le_of_ble_eq_true rfl) ⟨Nat.zero_le _, Nat.zero_le _⟩ dX6_dominanceOf_18 ?_
        intro H locs I
        obtain ⟨x7, hv16, hf⟩ := bd_some hf
        have J6 : ∀ (H : Heap) (locs : List Loc), sInv D (cT cI cJ cD cS) (cW ad cI cJ cD cS) A s H locs (G, E, Dd, P, L, pf) → ∀ (ls : Array Slot), lv_has ls 4 [(0, .ref (ad 16)), (1, .int a0), (2, .int x7), (3, .int x2)] → W p l e R s m args below meth c H locs 0 0 Q (F0 m 27 ls []) := by
          intro H locs I ls hl
          refine lv_aload_n hx hb dX6_dominanceOf_27 rfl (lv_at hl 0 rfl) ?_
          refine kgtX6_22_16 F I dX6_dominanceOf_28 ?_
          refine lv_iload_n hx hb dX6_dominanceOf_31 rfl (lv_at hl 3 rfl) ?_
          refine lv_iload_n hx hb dX6_dominanceOf_32 rfl (lv_at hl 1 rfl) ?_
          obtain ⟨r8, h9, hf⟩ := bd_some hf
          refine s_callVi (As := [.int x2, .int a0]) (rest := []) F I (cC_LE_isAhead_22 G E Dd P L pf x2 a0 r8 h9) kX6_145 ⟨rfl, rfl⟩ ⟨Nat.le_trans (Nat.le_of_ble_eq_true rfl) hRf, Nat.le_trans (Nat.le_of_ble_eq_true rfl) hRl⟩ 22 3 rfl rfl rfl rfl rfl hl.1 (Nat.le_of_ble_eq_true rfl) ⟨Nat.zero_le _, Nat.zero_le _⟩ dX6_dominanceOf_33 ?_
          intro H locs I
          obtain ⟨x11, hv13, hf⟩ := bd_some hf
          have J10 : ∀ (H : Heap) (locs : List Loc), sInv D (cT cI cJ cD cS) (cW ad cI cJ cD cS) A s H locs (G, E, Dd, P, L, pf) → ∀ (ls : Array Slot), lv_has ls 4 [(0, .ref (ad 16)), (1, .int a0), (2, .int x11), (3, .int x2)] → W p l e R s m args below meth c H locs 0 0 Q (F0 m 42 ls []) := by
            intro H locs I ls hl
            obtain ⟨x12, ex12⟩ : ∃ y : Int32, y = x2 + (1 : Int32) := ⟨_, rfl⟩
            replace hf := nm_some ex12 hf
            refine lv_iinc (v := x12) (lv' := [(3, .int x12), (0, .ref (ad 16)), (1, .int a0), (2, .int x11)]) hx hb dX6_dominanceOf_42 hl (k := 3) rfl (by rw [ex12]; rfl) (by decide) rfl (fun ls hl => ?_)
            refine lv_goto (tgt := 4) hx hb dX6_dominanceOf_45 (by decide) ?_
            cases hf
            exact ih1 _ _ hK1 H locs I ls (lv_sub hl [1, 2, 3, 0] rfl)
          replace hf := hv13
          refine lv_if_eq (tgt := 42) hx hb dX6_dominanceOf_36 (by decide) (fun c15 => ?_) (fun c15 => ?_)
          · replace hf := (if_pos c15).symm.trans hf
            cases hf
            exact J10 H locs I ls (lv_sub hl [0, 1, 2, 3] rfl)
          · replace hf := (if_neg c15).symm.trans hf
            obtain ⟨x14, ex14⟩ : ∃ y : Int32, y = x7 + (-1 : Int32) := ⟨_, rfl⟩
            replace hf := nm_some ex14 hf
            refine lv_iinc (v := x14) (lv' := [(2, .int x14), (0, .ref (ad 16)), (1, .int a0), (3, .int x2)]) hx hb dX6_dominanceOf_39 hl (k := 2) rfl (by rw [ex14]; rfl) (by decide) rfl (fun ls hl => ?_)
            cases hf
            exact J10 H locs I ls (lv_sub hl [1, 2, 0, 3] rfl)
        replace hf := hv16
        refine lv_if_eq (tgt := 27) hx hb dX6_dominanceOf_21 (by decide) (fun c18 => ?_) (fun c18 => ?_)
        · replace hf := (if_pos c18).symm.trans hf
          cases hf
          exact J6 H locs I ls (lv_sub hl [0, 1, 2, 3] rfl)
        · replace hf := (if_neg c18).symm.trans hf
          obtain ⟨x17, ex17⟩ : ∃ y : Int32, y = x1 + (1 : Int32) := ⟨_, rfl⟩
          replace hf := nm_some ex17 hf
          refine lv_iinc (v := x17) (lv' := [(2, .int x17), (0, .ref (ad 16)), (1, .int a0), (3, .int x2)]) hx hb dX6_dominanceOf_24 hl (k := 2) rfl (by rw [ex17]; rfl) (by decide) rfl (fun ls hl => ?_)
          cases hf
          exact J6 H locs I ls (lv_sub hl [1, 2, 0, 3] rfl)
  exact L1 FU _ _ hq1 H locs I ls (lv_sub hl [2, 3, 1, 0] rfl)
def C_SD_findBeaters_s2 (x1 : Int32) (x6 : Int32) (G7 : Nat → Nat → Int32) : Option ((Int32 × (Nat → Nat → Int32)) ⊕ ((Nat → Nat → Int32))) :=
if G7 21 0 ≤ x6 then
(some (.inr G7))
else
(bd (C_LE_isAhead_22 G7 x6 x1) fun r10 =>
bd (if r10 = 0 then
(some G7)
else
(ri 8 x1 <|
ri 8 x1 <|
nm (wr G7 25 x1 ((G7 25 x1.toNatClampNeg) ||| ((1 : Int32) <<< (x6 &&& 31)))) fun G18 =>
some G18)) fun G13 =>
nm (x6 + (1 : Int32) : Int32) fun x14 =>
some (.inl (x14, G13)))
def C_SD_findBeaters_s1  (x1 : Int32) (G2 : Nat → Nat → Int32) : Option ((Int32 × (Nat → Nat → Int32)) ⊕ ((Nat → Nat → Int32))) :=
if G2 21 0 ≤ x1 then
(some (.inr G2))
else
(ri 8 x1 <|
nm (wr G2 25 x1 (0 : Int32)) fun G5 =>
bd (lp (fun q => C_SD_findBeaters_s2 x1 q.1 q.2) FU ((0 : Int32), G5)) fun G8 =>
nm (x1 + (1 : Int32) : Int32) fun x9 =>
some (.inl (x9, G8)))
def C_SD_findBeaters (G : Nat → Nat → Int32) : Option ((Nat → Nat → Int32)) :=
bd (lp (fun q => C_SD_findBeaters_s1 q.1 q.2) FU ((0 : Int32), G)) fun G3 =>
some G3
set_option maxRecDepth 100000 in
set_option maxHeartbeats 4000000 in
theorem cC_SD_findBeaters (G : Nat → Nat → Int32) (E : Nat → Nat → Int64) (Dd : Nat → Nat → UInt64) (P : Nat → Option Nat) (L : List Nat) (pf : Nat → va_E)   (newG : Nat → Nat → Int32) (hf : C_SD_findBeaters G = some newG) : sMv D (cT cI cJ cD cS) (cW ad cI cJ cD cS) l yX6_findBeaters (ws1 yX6_findBeaters cX6_findBeaters 3 none) ({ frames := 2, cells := 0, slots := 0, locals := 43 }) [.ref (ad 16)] (G, E, Dd, P, L, pf) (newG, E, Dd, P, L, pf) := by
  unfold C_SD_findBeaters at hf
  refine sMv_of (by decide) (Nat.le_of_ble_eq_true rfl) ?_
  intro p e R s m args below meth c A Q ls H locs F hRf hRl I hl ret
  obtain ⟨hx, hb, hml, hown, hG⟩ := id F
  replace hl : lv_has ls 3 [(0, .ref (ad 16))] := hl
  refine lv_iconst (v := (0 : Int32)) hx hb dX6_findBeaters_0 (by decide) ?_
  refine lv_istore_n (lv' := [(1, .int (0 : Int32)), (0, .ref (ad 16))]) hx hb dX6_findBeaters_1 rfl hl (by decide) rfl (fun ls hl => ?_)
  obtain ⟨G3, hq1, hf⟩ := bd_some hf
  have K1 : ∀ (H : Heap) (locs : List Loc), sInv D (cT cI cJ cD cS) (cW ad cI cJ cD cS) A s H locs (G3, E, Dd, P, L, pf) → ∀ (ls : Array Slot), lv_has ls 3 [] → W p l e R s m args below meth c H locs 0 0 Q (F0 m 63 ls []) := by
    intro H locs I ls hl
    cases hf
    exact ret H locs _ ls I dX6_findBeaters_63
  have L1 : ∀ (n : Nat) (x1 : Int32) (G2 : Nat → Nat → Int32), lp (fun q => C_SD_findBeaters_s1 q.1 q.2) n (x1, G2) = some G3 → ∀ (H : Heap) (locs : List Loc), sInv D (cT cI cJ cD cS) (cW ad cI cJ cD cS) A s H locs (G2, E, Dd, P, L, pf) → ∀ (ls : Array Slot), lv_has ls 3 [(0, .ref (ad 16)), (1, .int x1)] → W p l e R s m args below meth c H locs 0 0 Q (F0 m 2 ls []) := by
    intro n
    induction n with
    | zero => intro x1 G2 hq; exact (lp_0 hq).elim
    | succ n ih1 =>
      intro x1 G2 hq H locs I ls hl
      obtain ⟨y1, hf, hK1⟩ := lp_go hq
      replace hf : C_SD_findBeaters_s1 x1 G2 = some y1 := hf
      unfold C_SD_findBeaters_s1 at hf
      refine lv_iload_n hx hb dX6_findBeaters_2 rfl (lv_at hl 1 rfl) ?_
      refine lv_aload_n hx hb dX6_findBeaters_3 rfl (lv_at hl 0 rfl) ?_
      refine kgtX6_9_16 F I dX6_findBeaters_4 ?_
      refine lv_icmp_ge (tgt := 63) hx hb dX6_findBeaters_7 (by decide) (fun c21 => ?_) (fun c21 => ?_)
      · replace hf := (if_pos c21).symm.trans hf
        cases hf
        cases (show G2 = G3 from hK1)
        exact K1 H locs I ls (lv_sub hl [] rfl)
      · replace hf := (if_neg c21).symm.trans hf
        refine lv_aload_n hx hb dX6_findBeaters_10 rfl (lv_at hl 0 rfl) ?_
        refine kgtX6_32_16 F I dX6_findBeaters_11 ?_
        refine lv_iload_n hx hb dX6_findBeaters_14 rfl (lv_at hl 1 rfl) ?_
        refine lv_iconst (v := (0 : Int32)) hx hb dX6_findBeaters_15 (by decide) ?_
        obtain ⟨g4, hf⟩ := ri_some hf
        refine kas20 F I g4 dX6_findBeaters_16 ?_
        intro H locs G5 eG5 I
        replace hf := nm_some eG5 hf
        refine lv_iconst (v := (0 : Int32)) hx hb dX6_findBeaters_17 (by decide) ?_
        refine lv_istore_n (lv' := [(2, .int (0 : Int32)), (0, .ref (ad 16)), (1, .int x1)]) hx hb dX6_findBeaters_18 rfl hl (by decide) rfl (fun ls hl => ?_)
        obtain ⟨G8, hq2, hf⟩ := bd_some hf
        have K2 : ∀ (H : Heap) (locs : List Loc), sInv D (cT cI cJ cD cS) (cW ad cI cJ cD cS) A s H locs (G8, E, Dd, P, L, pf) → ∀ (ls : Array Slot), lv_has ls 3 [(0, .ref (ad 16)), (1, .int x1)] → W p l e R s m args below meth c H locs 0 0 Q (F0 m 57 ls []) := by
          intro H locs I ls hl
          obtain ⟨x9, ex9⟩ : ∃ y : Int32, y = x1 + (1 : Int32) := ⟨_, rfl⟩
          replace hf := nm_some ex9 hf
          refine lv_iinc (v := x9) (lv' := [(1, .int x9), (0, .ref (ad 16))]) hx hb dX6_findBeaters_57 hl (k := 1) rfl (by rw [ex9]; rfl) (by decide) rfl (fun ls hl => ?_)
          refine lv_goto (tgt := 2) hx hb dX6_findBeaters_60 (by decide) ?_
          cases hf
          exact ih1 _ _ hK1 H locs I ls (lv_sub hl [1, 0] rfl)
        have L2 : ∀ (n : Nat) (x6 : Int32) (G7 : Nat → Nat → Int32), lp (fun q => C_SD_findBeaters_s2 x1 q.1 q.2) n (x6, G7) = some G8 → ∀ (H : Heap) (locs : List Loc), sInv D (cT cI cJ cD cS) (cW ad cI cJ cD cS) A s H locs (G7, E, Dd, P, L, pf) → ∀ (ls : Array Slot), lv_has ls 3 [(0, .ref (ad 16)), (1, .int x1), (2, .int x6)] → W p l e R s m args below meth c H locs 0 0 Q (F0 m 19 ls []) := by
          intro n
          induction n with
          | zero => intro x6 G7 hq; exact (lp_0 hq).elim
          | succ n ih2 =>
            intro x6 G7 hq H locs I ls hl
            obtain ⟨y2, hf, hK2⟩ := lp_go hq
            replace hf : C_SD_findBeaters_s2 x1 x6 G7 = some y2 := hf
            unfold C_SD_findBeaters_s2 at hf
            refine lv_iload_n hx hb dX6_findBeaters_19 rfl (lv_at hl 2 rfl) ?_
            refine lv_aload_n hx hb dX6_findBeaters_20 rfl (lv_at hl 0 rfl) ?_
            refine kgtX6_9_16 F I dX6_findBeaters_21 ?_
            refine lv_icmp_ge (tgt := 57) hx hb dX6_findBeaters_24 (by decide) (fun c20 => ?_) (fun c20 => ?_)
            · replace hf := (if_pos c20).symm.trans hf
              cases hf
              cases (show G7 = G8 from hK2)
              exact K2 H locs I ls (lv_sub hl [0, 1] rfl)
            · replace hf := (if_neg c20).symm.trans hf
              refine lv_aload_n hx hb dX6_findBeaters_27 rfl (lv_at hl 0 rfl) ?_
              refine kgtX6_22_16 F I dX6_findBeaters_28 ?_
              refine lv_iload_n hx hb dX6_findBeaters_31 rfl (lv_at hl 2 rfl) ?_
              refine lv_iload_n hx hb dX6_findBeaters_32 rfl (lv_at hl 1 rfl) ?_
              obtain ⟨r10, h11, hf⟩ := bd_some hf
              refine s_callVi (As := [.int x6, .int x1]) (rest := []) F I (cC_LE_isAhead_22 G7 E Dd P L pf x6 x1 r10 h11) kX6_145 ⟨rfl, rfl⟩ ⟨Nat.le_trans (Nat.le_of_ble_eq_true rfl) hRf, Nat.le_trans (Nat.le_of_ble_eq_true rfl) hRl⟩ 22 3 rfl rfl rfl rfl rfl hl.1 (Nat.le_of_ble_eq_true rfl) ⟨Nat.zero_le _, Nat.zero_le _⟩ dX6_findBeaters_33 ?_
              intro H locs I
              obtain ⟨G13, hv15, hf⟩ := bd_some hf
              have J12 : ∀ (H : Heap) (locs : List Loc), sInv D (cT cI cJ cD cS) (cW ad cI cJ cD cS) A s H locs (G13, E, Dd, P, L, pf) → ∀ (ls : Array Slot), lv_has ls 3 [(0, .ref (ad 16)), (1, .int x1), (2, .int x6)] → W p l e R s m args below meth c H locs 0 0 Q (F0 m 51 ls []) := by
                intro H locs I ls hl
                obtain ⟨x14, ex14⟩ : ∃ y : Int32, y = x6 + (1 : Int32) := ⟨_, rfl⟩
                replace hf := nm_some ex14 hf
                refine lv_iinc (v := x14) (lv' := [(2, .int x14), (0, .ref (ad 16)), (1, .int x1)]) hx hb dX6_findBeaters_51 hl (k := 2) rfl (by rw [ex14]; rfl) (by decide) rfl (fun ls hl => ?_)
                refine lv_goto (tgt := 19) hx hb dX6_findBeaters_54 (by decide) ?_
                cases hf
                exact ih2 _ _ hK2 H locs I ls (lv_sub hl [1, 2, 0] rfl)
              replace hf := hv15
              refine lv_if_eq (tgt := 51) hx hb dX6_findBeaters_36 (by decide) (fun c19 => ?_) (fun c19 => ?_)
              · replace hf := (if_pos c19).symm.trans hf
                cases hf
                exact J12 H locs I ls (lv_sub hl [0, 1, 2] rfl)
              · replace hf := (if_neg c19).symm.trans hf
                refine lv_aload_n hx hb dX6_findBeaters_39 rfl (lv_at hl 0 rfl) ?_
                refine kgtX6_32_16 F I dX6_findBeaters_40 ?_
                refine lv_iload_n hx hb dX6_findBeaters_43 rfl (lv_at hl 1 rfl) ?_
                refine lv_dup2_11 hx hb dX6_findBeaters_44 rfl rfl ?_
                obtain ⟨g16, hf⟩ := ri_some hf
                refine kal20 F I g16 dX6_findBeaters_45 ?_
                refine lv_iconst (v := (1 : Int32)) hx hb dX6_findBeaters_46 (by decide) ?_
                refine lv_iload_n hx hb dX6_findBeaters_47 rfl (lv_at hl 2 rfl) ?_
                refine lv_ishl hx hb dX6_findBeaters_48 ?_
                refine lv_ior hx hb dX6_findBeaters_49 ?_
                obtain ⟨g17, hf⟩ := ri_some hf
                refine kas20 F I g17 dX6_findBeaters_50 ?_
                intro H locs G18 eG18 I
                replace hf := nm_some eG18 hf
                cases hf
                exact J12 H locs I ls (lv_sub hl [0, 1, 2] rfl)
        exact L2 FU _ _ hq2 H locs I ls (lv_sub hl [1, 2, 0] rfl)
  exact L1 FU _ _ hq1 H locs I ls (lv_sub hl [1, 0] rfl)
def C_SD_closedSet_s2 (a1 : Int32) (G : Nat → Nat → Int32) (x3 : Int32) (x4 : Int32) : Option ((Int32 × Int32) ⊕ (Int32)) :=
if G 21 0 ≤ x4 then
(some (.inr x3))
else
(bd (C_LT_contains (a1 &&& (x3 ^^^ (-1 : Int32))) x4) fun r8 =>
bd (if r8 = 0 then
(some x3)
else
(ri 8 x4 <|
if x3 &&& ((G 25 x4.toNatClampNeg) ^^^ (-1 : Int32)) = 0 then
(some x3)
else
(nm (x3 ||| ((1 : Int32) <<< (x4 &&& 31)) : Int32) fun x15 =>
some x15))) fun x11 =>
nm (x4 + (1 : Int32) : Int32) fun x12 =>
some (.inl (x11, x12)))
def C_SD_closedSet_s1 (a1 : Int32) (G : Nat → Nat → Int32) (x1 : Int32) (x2 : Int32) : Option ((Int32 × Int32) ⊕ (Int32)) :=
if G 21 0 ≤ x2 then
(some (.inr x1))
else
(bd (lp (fun q => C_SD_closedSet_s2 a1 G q.1 q.2) FU (x1, (0 : Int32))) fun r5 =>
if r5 = x1 then
(some (.inr r5))
else
(nm (x2 + (1 : Int32) : Int32) fun x6 =>
some (.inl (r5, x6))))
def C_SD_closedSet (G : Nat → Nat → Int32) (a0 : Int32) (a1 : Int32) : Option (Int32) :=
lp (fun q => C_SD_closedSet_s1 a1 G q.1 q.2) FU (a0, (0 : Int32))
set_option maxRecDepth 100000 in
set_option maxHeartbeats 4000000 in
theorem cC_SD_closedSet (G : Nat → Nat → Int32) (E : Nat → Nat → Int64) (Dd : Nat → Nat → UInt64) (P : Nat → Option Nat) (L : List Nat) (pf : Nat → va_E) (a0 : Int32) (a1 : Int32) (rv : Int32)  (hf : C_SD_closedSet G a0 a1 = some rv) : sMi D (cT cI cJ cD cS) (cW ad cI cJ cD cS) l yX6_closedSet (ws1 yX6_closedSet cX6_closedSet 8 (some .int)) ({ frames := 1, cells := 0, slots := 0, locals := 21 }) [.ref (ad 16), .int a0, .int a1] (G, E, Dd, P, L, pf) (rv, (G, E, Dd, P, L, pf)) := by
  unfold C_SD_closedSet at hf
  refine sMi_of (by decide) (Nat.le_of_ble_eq_true rfl) ?_
  intro p e R s m args below meth c A Q ls H locs F hRf hRl I hl ret
  obtain ⟨hx, hb, hml, hown, hG⟩ := id F
  replace hl : lv_has ls 8 [(0, .ref (ad 16)), (1, .int a0), (2, .int a1)] := hl
  refine lv_iload_n hx hb dX6_closedSet_0 rfl (lv_at hl 1 rfl) ?_
  refine lv_istore_n (lv' := [(3, .int a0), (0, .ref (ad 16)), (1, .int a0), (2, .int a1)]) hx hb dX6_closedSet_1 rfl hl (by decide) rfl (fun ls hl => ?_)
  refine lv_iconst (v := (0 : Int32)) hx hb dX6_closedSet_2 (by decide) ?_
  refine lv_istore (lv' := [(4, .int (0 : Int32)), (3, .int a0), (0, .ref (ad 16)), (1, .int a0), (2, .int a1)]) hx hb dX6_closedSet_3 hl (by decide) rfl (fun ls hl => ?_)
  have hq1 : lp (fun q => C_SD_closedSet_s1 a1 G q.1 q.2) FU (a0, (0 : Int32)) = some rv := hf
  have L1 : ∀ (n : Nat) (x1 : Int32) (x2 : Int32), lp (fun q => C_SD_closedSet_s1 a1 G q.1 q.2) n (x1, x2) = some rv → ∀ (H : Heap) (locs : List Loc), sInv D (cT cI cJ cD cS) (cW ad cI cJ cD cS) A s H locs (G, E, Dd, P, L, pf) → ∀ (ls : Array Slot), lv_has ls 8 [(0, .ref (ad 16)), (2, .int a1), (3, .int x1), (4, .int x2)] → W p l e R s m args below meth c H locs 0 0 Q (F0 m 5 ls []) := by
    intro n
    induction n with
    | zero => intro x1 x2 hq; exact (lp_0 hq).elim
    | succ n ih1 =>
      intro x1 x2 hq H locs I ls hl
      obtain ⟨y1, hf, hK1⟩ := lp_go hq
      replace hf : C_SD_closedSet_s1 a1 G x1 x2 = some y1 := hf
      unfold C_SD_closedSet_s1 at hf
      refine lv_iload hx hb dX6_closedSet_5 (lv_at hl 3 rfl) ?_
      refine lv_aload_n hx hb dX6_closedSet_7 rfl (lv_at hl 0 rfl) ?_
      refine kgtX6_9_16 F I dX6_closedSet_8 ?_
      refine lv_icmp_ge (tgt := 88) hx hb dX6_closedSet_11 (by decide) (fun c19 => ?_) (fun c19 => ?_)
      · replace hf := (if_pos c19).symm.trans hf
        refine lv_iload_n hx hb dX6_closedSet_88 rfl (lv_at hl 2 rfl) ?_
        cases hf
        have hf := congrArg some (show _ = _ from hK1)
        cases hf
        exact ret H locs _ ls I dX6_closedSet_89
      · replace hf := (if_neg c19).symm.trans hf
        refine lv_iload_n hx hb dX6_closedSet_14 rfl (lv_at hl 2 rfl) ?_
        refine lv_istore (lv' := [(5, .int x1), (0, .ref (ad 16)), (2, .int a1), (3, .int x1), (4, .int x2)]) hx hb dX6_closedSet_15 hl (by decide) rfl (fun ls hl => ?_)
        refine lv_iconst (v := (0 : Int32)) hx hb dX6_closedSet_17 (by decide) ?_
        refine lv_istore (lv' := [(6, .int (0 : Int32)), (5, .int x1), (0, .ref (ad 16)), (2, .int a1), (3, .int x1), (4, .int x2)]) hx hb dX6_closedSet_18 hl (by decide) rfl (fun ls hl => ?_)
        obtain ⟨r5, hq2, hf⟩ := bd_some hf
        have K2 : ∀ (H : Heap) (locs : List Loc), sInv D (cT cI cJ cD cS) (cW ad cI cJ cD cS) A s H locs (G, E, Dd, P, L, pf) → ∀ (ls : Array Slot), lv_has ls 8 [(0, .ref (ad 16)), (2, .int a1), (3, .int r5), (4, .int x2), (5, .int x1)] → W p l e R s m args below meth c H locs 0 0 Q (F0 m 73 ls []) := by
          intro H locs I ls hl
          refine lv_iload_n hx hb dX6_closedSet_73 rfl (lv_at hl 2 rfl) ?_
          refine lv_iload hx hb dX6_closedSet_74 (lv_at hl 4 rfl) ?_
          refine lv_icmp_ne (tgt := 82) hx hb dX6_closedSet_76 (by decide) (fun c7 => ?_) (fun c7 => ?_)
          · replace hf := (if_neg c7).symm.trans hf
            obtain ⟨x6, ex6⟩ : ∃ y : Int32, y = x2 + (1 : Int32) := ⟨_, rfl⟩
            replace hf := nm_some ex6 hf
            refine lv_iinc (v := x6) (lv' := [(4, .int x6), (0, .ref (ad 16)), (2, .int a1), (3, .int r5), (5, .int x1)]) hx hb dX6_closedSet_82 hl (k := 3) rfl (by rw [ex6]; rfl) (by decide) rfl (fun ls hl => ?_)
            refine lv_goto (tgt := 5) hx hb dX6_closedSet_85 (by decide) ?_
            cases hf
            exact ih1 _ _ hK1 H locs I ls (lv_sub hl [1, 2, 3, 0] rfl)
          · replace hf := (if_pos c7).symm.trans hf
            refine lv_goto (tgt := 88) hx hb dX6_closedSet_79 (by decide) ?_
            refine lv_iload_n hx hb dX6_closedSet_88 rfl (lv_at hl 2 rfl) ?_
            cases hf
            have hf := congrArg some (show _ = _ from hK1)
            cases hf
            exact ret H locs _ ls I dX6_closedSet_89
        have L2 : ∀ (n : Nat) (x3 : Int32) (x4 : Int32), lp (fun q => C_SD_closedSet_s2 a1 G q.1 q.2) n (x3, x4) = some r5 → ∀ (H : Heap) (locs : List Loc), sInv D (cT cI cJ cD cS) (cW ad cI cJ cD cS) A s H locs (G, E, Dd, P, L, pf) → ∀ (ls : Array Slot), lv_has ls 8 [(0, .ref (ad 16)), (2, .int a1), (3, .int x3), (4, .int x2), (5, .int x1), (6, .int x4)] → W p l e R s m args below meth c H locs 0 0 Q (F0 m 20 ls []) := by
          intro n
          induction n with
          | zero => intro x3 x4 hq; exact (lp_0 hq).elim
          | succ n ih2 =>
            intro x3 x4 hq H locs I ls hl
            obtain ⟨y2, hf, hK2⟩ := lp_go hq
            replace hf : C_SD_closedSet_s2 a1 G x3 x4 = some y2 := hf
            unfold C_SD_closedSet_s2 at hf
            refine lv_iload hx hb dX6_closedSet_20 (lv_at hl 5 rfl) ?_
            refine lv_aload_n hx hb dX6_closedSet_22 rfl (lv_at hl 0 rfl) ?_
            refine kgtX6_9_16 F I dX6_closedSet_23 ?_
            refine lv_icmp_ge (tgt := 73) hx hb dX6_closedSet_26 (by decide) (fun c18 => ?_) (fun c18 => ?_)
            · replace hf := (if_pos c18).symm.trans hf
              cases hf
              cases (show x3 = r5 from hK2)
              exact K2 H locs I ls (lv_sub hl [0, 1, 2, 3, 4] rfl)
            · replace hf := (if_neg c18).symm.trans hf
              refine lv_iload_n hx hb dX6_closedSet_29 rfl (lv_at hl 1 rfl) ?_
              refine lv_iload_n hx hb dX6_closedSet_30 rfl (lv_at hl 2 rfl) ?_
              refine lv_iconst (v := (-1 : Int32)) hx hb dX6_closedSet_31 (by decide) ?_
              refine lv_ixor hx hb dX6_closedSet_32 ?_
              refine lv_iand hx hb dX6_closedSet_33 ?_
              refine lv_iload hx hb dX6_closedSet_34 (lv_at hl 5 rfl) ?_
              obtain ⟨r8, h9, hf⟩ := bd_some hf
              refine s_callSNi (As := [.int (a1 &&& (x3 ^^^ (-1 : Int32))), .int x4]) (rest := []) F I (cC_LT_contains G E Dd P L pf (a1 &&& (x3 ^^^ (-1 : Int32))) x4 r8 h9) kX6_155 ⟨rfl, rfl⟩ ⟨Nat.le_trans (Nat.le_of_ble_eq_true rfl) hRf, Nat.le_trans (Nat.le_of_ble_eq_true rfl) hRl⟩ rfl rfl hl.1 (Nat.le_of_ble_eq_true rfl) ⟨Nat.zero_le _, Nat.zero_le _⟩ dX6_closedSet_36 ?_
              intro H locs I
              refine lv_istore (lv' := [(7, .int r8), (0, .ref (ad 16)), (2, .int a1), (3, .int x3), (4, .int x2), (5, .int x1), (6, .int x4)]) hx hb dX6_closedSet_39 hl (by decide) rfl (fun ls hl => ?_)
              refine lv_iload hx hb dX6_closedSet_41 (lv_at hl 0 rfl) ?_
              obtain ⟨x11, hv13, hf⟩ := bd_some hf
              have J10 : ∀ (H : Heap) (locs : List Loc), sInv D (cT cI cJ cD cS) (cW ad cI cJ cD cS) A s H locs (G, E, Dd, P, L, pf) → ∀ (ls : Array Slot), lv_has ls 8 [(0, .ref (ad 16)), (2, .int a1), (3, .int x11), (4, .int x2), (5, .int x1), (6, .int x4)] → W p l e R s m args below meth c H locs 0 0 Q (F0 m 67 ls []) := by
                intro H locs I ls hl
                obtain ⟨x12, ex12⟩ : ∃ y : Int32, y = x4 + (1 : Int32) := ⟨_, rfl⟩
                replace hf := nm_some ex12 hf
                refine lv_iinc (v := x12) (lv' := [(6, .int x12), (0, .ref (ad 16)), (2, .int a1), (3, .int x11), (4, .int x2), (5, .int x1)]) hx hb dX6_closedSet_67 hl (k := 5) rfl (by rw [ex12]; rfl) (by decide) rfl (fun ls hl => ?_)
                refine lv_goto (tgt := 20) hx hb dX6_closedSet_70 (by decide) ?_
                cases hf
                exact ih2 _ _ hK2 H locs I ls (lv_sub hl [1, 2, 3, 4, 5, 0] rfl)
              replace hf := hv13
              refine lv_if_eq (tgt := 67) hx hb dX6_closedSet_43 (by decide) (fun c17 => ?_) (fun c17 => ?_)
              · replace hf := (if_pos c17).symm.trans hf
                cases hf
                exact J10 H locs I ls (lv_sub hl [1, 2, 3, 4, 5, 6] rfl)
              · replace hf := (if_neg c17).symm.trans hf
                refine lv_iload_n hx hb dX6_closedSet_46 rfl (lv_at hl 3 rfl) ?_
                refine lv_aload_n hx hb dX6_closedSet_47 rfl (lv_at hl 1 rfl) ?_
                refine kgtX6_32_16 F I dX6_closedSet_48 ?_
                refine lv_iload hx hb dX6_closedSet_51 (lv_at hl 6 rfl) ?_
                obtain ⟨g14, hf⟩ := ri_some hf
                refine kal20 F I g14 dX6_closedSet_53 ?_
                refine lv_iconst (v := (-1 : Int32)) hx hb dX6_closedSet_54 (by decide) ?_
                refine lv_ixor hx hb dX6_closedSet_55 ?_
                refine lv_iand hx hb dX6_closedSet_56 ?_
                refine lv_if_eq (tgt := 67) hx hb dX6_closedSet_57 (by decide) (fun c16 => ?_) (fun c16 => ?_)
                · replace hf := (if_pos c16).symm.trans hf
                  cases hf
                  exact J10 H locs I ls (lv_sub hl [1, 2, 3, 4, 5, 6] rfl)
                · replace hf := (if_neg c16).symm.trans hf
                  refine lv_iload_n hx hb dX6_closedSet_60 rfl (lv_at hl 3 rfl) ?_
                  refine lv_iconst (v := (1 : Int32)) hx hb dX6_closedSet_61 (by decide) ?_
                  refine lv_iload hx hb dX6_closedSet_62 (lv_at hl 6 rfl) ?_
                  refine lv_ishl hx hb dX6_closedSet_64 ?_
                  refine lv_ior hx hb dX6_closedSet_65 ?_
                  refine lv_topi (fun x15 ex15 => ?_)
                  replace hf := nm_some ex15 hf
                  refine lv_istore_n (lv' := [(3, .int x15), (7, .int r8), (0, .ref (ad 16)), (2, .int a1), (4, .int x2), (5, .int x1), (6, .int x4)]) hx hb dX6_closedSet_66 rfl hl (by decide) rfl (fun ls hl => ?_)
                  cases hf
                  exact J10 H locs I ls (lv_sub hl [2, 3, 0, 4, 5, 6] rfl)
        exact L2 FU _ _ hq2 H locs I ls (lv_sub hl [2, 3, 4, 5, 1, 0] rfl)
  exact L1 FU _ _ hq1 H locs I ls (lv_sub hl [2, 4, 1, 0] rfl)
def C_JI_bitCount_ (a0 : Int32) : Int32 :=
nm (a0 - (((a0.toUInt32 >>> ((1 : Int32).toUInt32 &&& Int32.toUInt32 31)).toInt32) &&& (1431655765 : Int32)) : Int32) fun x1 =>
nm ((x1 &&& (858993459 : Int32)) + (((x1.toUInt32 >>> ((2 : Int32).toUInt32 &&& Int32.toUInt32 31)).toInt32) &&& (858993459 : Int32)) : Int32) fun x2 =>
nm ((x2 + ((x2.toUInt32 >>> ((4 : Int32).toUInt32 &&& Int32.toUInt32 31)).toInt32)) &&& (252645135 : Int32) : Int32) fun x3 =>
nm (x3 + ((x3.toUInt32 >>> ((8 : Int32).toUInt32 &&& Int32.toUInt32 31)).toInt32) : Int32) fun x4 =>
nm (x4 + ((x4.toUInt32 >>> ((16 : Int32).toUInt32 &&& Int32.toUInt32 31)).toInt32) : Int32) fun x5 =>
(x5 &&& (63 : Int32))
set_option maxRecDepth 100000 in
set_option maxHeartbeats 4000000 in
theorem cC_JI_bitCount_ (G : Nat → Nat → Int32) (E : Nat → Nat → Int64) (Dd : Nat → Nat → UInt64) (P : Nat → Option Nat) (L : List Nat) (pf : Nat → va_E) (a0 : Int32) (rv : Int32)  (hv : rv = C_JI_bitCount_ a0) : sMi D (cT cI cJ cD cS) (cW ad cI cJ cD cS) l yJ6_bitCount_0f7a4 (ws1 yJ6_bitCount_0f7a4 cJ6_bitCount_0f7a4 1 (some .int)) ({ frames := 0, cells := 0, slots := 0, locals := 0 }) [.int a0] (G, E, Dd, P, L, pf) (rv, (G, E, Dd, P, L, pf)) := by
  have hf : (nm (a0 - (((a0.toUInt32 >>> ((1 : Int32).toUInt32 &&& Int32.toUInt32 31)).toInt32) &&& (1431655765 : Int32)) : Int32) fun x1 =>
nm ((x1 &&& (858993459 : Int32)) + (((x1.toUInt32 >>> ((2 : Int32).toUInt32 &&& Int32.toUInt32 31)).toInt32) &&& (858993459 : Int32)) : Int32) fun x2 =>
nm ((x2 + ((x2.toUInt32 >>> ((4 : Int32).toUInt32 &&& Int32.toUInt32 31)).toInt32)) &&& (252645135 : Int32) : Int32) fun x3 =>
nm (x3 + ((x3.toUInt32 >>> ((8 : Int32).toUInt32 &&& Int32.toUInt32 31)).toInt32) : Int32) fun x4 =>
nm (x4 + ((x4.toUInt32 >>> ((16 : Int32).toUInt32 &&& Int32.toUInt32 31)).toInt32) : Int32) fun x5 =>
some (x5 &&& (63 : Int32))) = some rv := by rw [hv]; rfl
  refine sMi_of (by decide) (Nat.le_of_ble_eq_true rfl) ?_
  intro p e R s m args below meth c A Q ls H locs F hRf hRl I hl ret
  obtain ⟨hx, hb, hml, hown, hG⟩ := id F
  replace hl : lv_has ls 1 [(0, .int a0)] := hl
  refine lv_iload_n hx hb dJ6_bitCount_0f7a4_0 rfl (lv_at hl 0 rfl) ?_
  refine lv_iload_n hx hb dJ6_bitCount_0f7a4_1 rfl (lv_at hl 0 rfl) ?_
  refine lv_iconst (v := (1 : Int32)) hx hb dJ6_bitCount_0f7a4_2 (by decide) ?_
  refine lv_iushr hx hb dJ6_bitCount_0f7a4_3 rfl ?_
  refine lv_ldcw (v := (1431655765 : Int32)) hx hb hown (hG _ q685) dJ6_bitCount_0f7a4_4 ?_
  refine lv_iand hx hb dJ6_bitCount_0f7a4_7 ?_
  refine lv_isub hx hb dJ6_bitCount_0f7a4_8 ?_
  refine lv_topi (fun x1 ex1 => ?_)
  replace hf := nm_some ex1 hf
  refine lv_istore_n (lv' := [(0, .int x1)]) hx hb dJ6_bitCount_0f7a4_9 rfl hl (by decide) rfl (fun ls hl => ?_)
  refine lv_iload_n hx hb dJ6_bitCount_0f7a4_10 rfl (lv_at hl 0 rfl) ?_
  refine lv_ldcw (v := (858993459 : Int32)) hx hb hown (hG _ q686) dJ6_bitCount_0f7a4_11 ?_
  refine lv_iand hx hb dJ6_bitCount_0f7a4_14 ?_
  refine lv_iload_n hx hb dJ6_bitCount_0f7a4_15 rfl (lv_at hl 0 rfl) ?_
  refine lv_iconst (v := (2 : Int32)) hx hb dJ6_bitCount_0f7a4_16 (by decide) ?_
  refine lv_iushr hx hb dJ6_bitCount_0f7a4_17 rfl ?_
  refine lv_ldcw (v := (858993459 : Int32)) hx hb hown (hG _ q686) dJ6_bitCount_0f7a4_18 ?_
  refine lv_iand hx hb dJ6_bitCount_0f7a4_21 ?_
  refine lv_iadd hx hb dJ6_bitCount_0f7a4_22 ?_
  refine lv_topi (fun x2 ex2 => ?_)
  replace hf := nm_some ex2 hf
  refine lv_istore_n (lv' := [(0, .int x2)]) hx hb dJ6_bitCount_0f7a4_23 rfl hl (by decide) rfl (fun ls hl => ?_)
  refine lv_iload_n hx hb dJ6_bitCount_0f7a4_24 rfl (lv_at hl 0 rfl) ?_
  refine lv_iload_n hx hb dJ6_bitCount_0f7a4_25 rfl (lv_at hl 0 rfl) ?_
  refine lv_iconst (v := (4 : Int32)) hx hb dJ6_bitCount_0f7a4_26 (by decide) ?_
  refine lv_iushr hx hb dJ6_bitCount_0f7a4_27 rfl ?_
  refine lv_iadd hx hb dJ6_bitCount_0f7a4_28 ?_
  refine lv_ldcw (v := (252645135 : Int32)) hx hb hown (hG _ q687) dJ6_bitCount_0f7a4_29 ?_
  refine lv_iand hx hb dJ6_bitCount_0f7a4_32 ?_
  refine lv_topi (fun x3 ex3 => ?_)
  replace hf := nm_some ex3 hf
  refine lv_istore_n (lv' := [(0, .int x3)]) hx hb dJ6_bitCount_0f7a4_33 rfl hl (by decide) rfl (fun ls hl => ?_)
  refine lv_iload_n hx hb dJ6_bitCount_0f7a4_34 rfl (lv_at hl 0 rfl) ?_
  refine lv_iload_n hx hb dJ6_bitCount_0f7a4_35 rfl (lv_at hl 0 rfl) ?_
  refine lv_bipush (v := (8 : Int32)) hx hb dJ6_bitCount_0f7a4_36 (by decide) ?_
  refine lv_iushr hx hb dJ6_bitCount_0f7a4_38 rfl ?_
  refine lv_iadd hx hb dJ6_bitCount_0f7a4_39 ?_
  refine lv_topi (fun x4 ex4 => ?_)
  replace hf := nm_some ex4 hf
  refine lv_istore_n (lv' := [(0, .int x4)]) hx hb dJ6_bitCount_0f7a4_40 rfl hl (by decide) rfl (fun ls hl => ?_)
  refine lv_iload_n hx hb dJ6_bitCount_0f7a4_41 rfl (lv_at hl 0 rfl) ?_
  refine lv_iload_n hx hb dJ6_bitCount_0f7a4_42 rfl (lv_at hl 0 rfl) ?_
  refine lv_bipush (v := (16 : Int32)) hx hb dJ6_bitCount_0f7a4_43 (by decide) ?_
  refine lv_iushr hx hb dJ6_bitCount_0f7a4_45 rfl ?_
  refine lv_iadd hx hb dJ6_bitCount_0f7a4_46 ?_
  refine lv_topi (fun x5 ex5 => ?_)
  replace hf := nm_some ex5 hf
  refine lv_istore_n (lv' := [(0, .int x5)]) hx hb dJ6_bitCount_0f7a4_47 rfl hl (by decide) rfl (fun ls hl => ?_)
  refine lv_iload_n hx hb dJ6_bitCount_0f7a4_48 rfl (lv_at hl 0 rfl) ?_
  refine lv_bipush (v := (63 : Int32)) hx hb dJ6_bitCount_0f7a4_49 (by decide) ?_
  refine lv_iand hx hb dJ6_bitCount_0f7a4_51 ?_
  cases hf
  exact ret H locs _ ls I dJ6_bitCount_0f7a4_52
def C_SD_topSetOf_s1 (a0 : Int32) (G : Nat → Nat → Int32) (x1 : Int32) (x2 : Int32) : Option ((Int32 × Int32) ⊕ (Int32)) :=
if G 21 0 ≤ x2 then
(some (.inr x1))
else
(bd (C_LT_contains a0 x2) fun r4 =>
bd (if r4 = 0 then
(some x1)
else
(bd (C_SD_closedSet G ((1 : Int32) <<< (x2 &&& 31)) a0) fun r10 =>
nm (C_JI_bitCount_ r10) fun r12 =>
nm (C_JI_bitCount_ x1) fun r14 =>
if r14 ≤ r12 then
(some x1)
else
(some r10))) fun x7 =>
nm (x2 + (1 : Int32) : Int32) fun x8 =>
some (.inl (x7, x8)))
def C_SD_topSetOf (G : Nat → Nat → Int32) (a0 : Int32) : Option (Int32) :=
bd (lp (fun q => C_SD_topSetOf_s1 a0 G q.1 q.2) FU (a0, (0 : Int32))) fun r3 =>
some r3
set_option maxRecDepth 100000 in
set_option maxHeartbeats 4000000 in
theorem cC_SD_topSetOf (G : Nat → Nat → Int32) (E : Nat → Nat → Int64) (Dd : Nat → Nat → UInt64) (P : Nat → Option Nat) (L : List Nat) (pf : Nat → va_E) (a0 : Int32) (rv : Int32)  (hf : C_SD_topSetOf G a0 = some rv) : sMi D (cT cI cJ cD cS) (cW ad cI cJ cD cS) l yX6_topSetOf (ws1 yX6_topSetOf cX6_topSetOf 5 (some .int)) ({ frames := 2, cells := 0, slots := 0, locals := 48 }) [.ref (ad 16), .int a0] (G, E, Dd, P, L, pf) (rv, (G, E, Dd, P, L, pf)) := by
  unfold C_SD_topSetOf at hf
  refine sMi_of (by decide) (Nat.le_of_ble_eq_true rfl) ?_
  intro p e R s m args below meth c A Q ls H locs F hRf hRl I hl ret
  obtain ⟨hx, hb, hml, hown, hG⟩ := id F
  replace hl : lv_has ls 5 [(0, .ref (ad 16)), (1, .int a0)] := hl
  refine lv_iload_n hx hb dX6_topSetOf_0 rfl (lv_at hl 1 rfl) ?_
  refine lv_istore_n (lv' := [(2, .int a0), (0, .ref (ad 16)), (1, .int a0)]) hx hb dX6_topSetOf_1 rfl hl (by decide) rfl (fun ls hl => ?_)
  refine lv_iconst (v := (0 : Int32)) hx hb dX6_topSetOf_2 (by decide) ?_
  refine lv_istore_n (lv' := [(3, .int (0 : Int32)), (2, .int a0), (0, .ref (ad 16)), (1, .int a0)]) hx hb dX6_topSetOf_3 rfl hl (by decide) rfl (fun ls hl => ?_)
  obtain ⟨r3, hq1, hf⟩ := bd_some hf
  have K1 : ∀ (H : Heap) (locs : List Loc), sInv D (cT cI cJ cD cS) (cW ad cI cJ cD cS) A s H locs (G, E, Dd, P, L, pf) → ∀ (ls : Array Slot), lv_has ls 5 [(2, .int r3)] → W p l e R s m args below meth c H locs 0 0 Q (F0 m 51 ls []) := by
    intro H locs I ls hl
    refine lv_iload_n hx hb dX6_topSetOf_51 rfl (lv_at hl 0 rfl) ?_
    cases hf
    exact ret H locs _ ls I dX6_topSetOf_52
  have L1 : ∀ (n : Nat) (x1 : Int32) (x2 : Int32), lp (fun q => C_SD_topSetOf_s1 a0 G q.1 q.2) n (x1, x2) = some r3 → ∀ (H : Heap) (locs : List Loc), sInv D (cT cI cJ cD cS) (cW ad cI cJ cD cS) A s H locs (G, E, Dd, P, L, pf) → ∀ (ls : Array Slot), lv_has ls 5 [(0, .ref (ad 16)), (1, .int a0), (2, .int x1), (3, .int x2)] → W p l e R s m args below meth c H locs 0 0 Q (F0 m 4 ls []) := by
    intro n
    induction n with
    | zero => intro x1 x2 hq; exact (lp_0 hq).elim
    | succ n ih1 =>
      intro x1 x2 hq H locs I ls hl
      obtain ⟨y1, hf, hK1⟩ := lp_go hq
      replace hf : C_SD_topSetOf_s1 a0 G x1 x2 = some y1 := hf
      unfold C_SD_topSetOf_s1 at hf
      refine lv_iload_n hx hb dX6_topSetOf_4 rfl (lv_at hl 3 rfl) ?_
      refine lv_aload_n hx hb dX6_topSetOf_5 rfl (lv_at hl 0 rfl) ?_
      refine kgtX6_9_16 F I dX6_topSetOf_6 ?_
      refine lv_icmp_ge (tgt := 51) hx hb dX6_topSetOf_9 (by decide) (fun c18 => ?_) (fun c18 => ?_)
      · replace hf := (if_pos c18).symm.trans hf
        cases hf
        cases (show x1 = r3 from hK1)
        exact K1 H locs I ls (lv_sub hl [2] rfl)
      · replace hf := (if_neg c18).symm.trans hf
        refine lv_iload_n hx hb dX6_topSetOf_12 rfl (lv_at hl 1 rfl) ?_
        refine lv_iload_n hx hb dX6_topSetOf_13 rfl (lv_at hl 3 rfl) ?_
        obtain ⟨r4, h5, hf⟩ := bd_some hf
        refine s_callSNi (As := [.int a0, .int x2]) (rest := []) F I (cC_LT_contains G E Dd P L pf a0 x2 r4 h5) kX6_155 ⟨rfl, rfl⟩ ⟨Nat.le_trans (Nat.le_of_ble_eq_true rfl) hRf, Nat.le_trans (Nat.le_of_ble_eq_true rfl) hRl⟩ rfl rfl hl.1 (Nat.le_of_ble_eq_true rfl) ⟨Nat.zero_le _, Nat.zero_le _⟩ dX6_topSetOf_14 ?_
        intro H locs I
        obtain ⟨x7, hv9, hf⟩ := bd_some hf
        have J6 : ∀ (H : Heap) (locs : List Loc), sInv D (cT cI cJ cD cS) (cW ad cI cJ cD cS) A s H locs (G, E, Dd, P, L, pf) → ∀ (ls : Array Slot), lv_has ls 5 [(0, .ref (ad 16)), (1, .int a0), (2, .int x7), (3, .int x2)] → W p l e R s m args below meth c H locs 0 0 Q (F0 m 45 ls []) := by
          intro H locs I ls hl
          obtain ⟨x8, ex8⟩ : ∃ y : Int32, y = x2 + (1 : Int32) := ⟨_, rfl⟩
          replace hf := nm_some ex8 hf
          refine lv_iinc (v := x8) (lv' := [(3, .int x8), (0, .ref (ad 16)), (1, .int a0), (2, .int x7)]) hx hb dX6_topSetOf_45 hl (k := 3) rfl (by rw [ex8]; rfl) (by decide) rfl (fun ls hl => ?_)
          refine lv_goto (tgt := 4) hx hb dX6_topSetOf_48 (by decide) ?_
          cases hf
          exact ih1 _ _ hK1 H locs I ls (lv_sub hl [1, 2, 3, 0] rfl)
        replace hf := hv9
        refine lv_if_eq (tgt := 45) hx hb dX6_topSetOf_17 (by decide) (fun c17 => ?_) (fun c17 => ?_)
        · replace hf := (if_pos c17).symm.trans hf
          cases hf
          exact J6 H locs I ls (lv_sub hl [0, 1, 2, 3] rfl)
        · replace hf := (if_neg c17).symm.trans hf
          refine lv_aload_n hx hb dX6_topSetOf_20 rfl (lv_at hl 0 rfl) ?_
          refine lv_iconst (v := (1 : Int32)) hx hb dX6_topSetOf_21 (by decide) ?_
          refine lv_iload_n hx hb dX6_topSetOf_22 rfl (lv_at hl 3 rfl) ?_
          refine lv_ishl hx hb dX6_topSetOf_23 ?_
          refine lv_iload_n hx hb dX6_topSetOf_24 rfl (lv_at hl 1 rfl) ?_
          obtain ⟨r10, h11, hf⟩ := bd_some hf
          refine s_callVi (As := [.int ((1 : Int32) <<< (x2 &&& 31)), .int a0]) (rest := []) F I (cC_SD_closedSet G E Dd P L pf ((1 : Int32) <<< (x2 &&& 31)) a0 r10 h11) kX6_158 ⟨rfl, rfl⟩ ⟨Nat.le_trans (Nat.le_of_ble_eq_true rfl) hRf, Nat.le_trans (Nat.le_of_ble_eq_true rfl) hRl⟩ 16 6 rfl rfl rfl rfl rfl hl.1 (Nat.le_of_ble_eq_true rfl) ⟨Nat.zero_le _, Nat.zero_le _⟩ dX6_topSetOf_25 ?_
          intro H locs I
          refine lv_istore (lv' := [(4, .int r10), (0, .ref (ad 16)), (1, .int a0), (2, .int x1), (3, .int x2)]) hx hb dX6_topSetOf_28 hl (by decide) rfl (fun ls hl => ?_)
          refine lv_iload hx hb dX6_topSetOf_30 (lv_at hl 0 rfl) ?_
          obtain ⟨r12, h13⟩ : ∃ z, z = C_JI_bitCount_ r10 := ⟨_, rfl⟩
          replace hf := nm_some h13 hf
          refine s_callSi (As := [.int r10]) (rest := []) F I (cC_JI_bitCount_ G E Dd P L pf r10 r12 h13) kX6_161 ⟨rfl, rfl⟩ ⟨Nat.le_trans (Nat.le_of_ble_eq_true rfl) hRf, Nat.le_trans (Nat.le_of_ble_eq_true rfl) hRl⟩ rfl rfl hl.1 (Nat.le_of_ble_eq_true rfl) ⟨Nat.zero_le _, Nat.zero_le _⟩ dX6_topSetOf_32 ?_
          intro H locs I
          refine lv_iload_n hx hb dX6_topSetOf_35 rfl (lv_at hl 3 rfl) ?_
          obtain ⟨r14, h15⟩ : ∃ z, z = C_JI_bitCount_ x1 := ⟨_, rfl⟩
          replace hf := nm_some h15 hf
          refine s_callSi (As := [.int x1]) (rest := [.int r12]) F I (cC_JI_bitCount_ G E Dd P L pf x1 r14 h15) kX6_161 ⟨rfl, rfl⟩ ⟨Nat.le_trans (Nat.le_of_ble_eq_true rfl) hRf, Nat.le_trans (Nat.le_of_ble_eq_true rfl) hRl⟩ rfl rfl hl.1 (Nat.le_of_ble_eq_true rfl) ⟨Nat.zero_le _, Nat.zero_le _⟩ dX6_topSetOf_36 ?_
          intro H locs I
          refine lv_icmp_ge (tgt := 45) hx hb dX6_topSetOf_39 (by decide) (fun c16 => ?_) (fun c16 => ?_)
          · replace hf := (if_pos c16).symm.trans hf
            cases hf
            exact J6 H locs I ls (lv_sub hl [1, 2, 3, 4] rfl)
          · replace hf := (if_neg c16).symm.trans hf
            refine lv_iload hx hb dX6_topSetOf_42 (lv_at hl 0 rfl) ?_
            refine lv_istore_n (lv' := [(2, .int r10), (4, .int r10), (0, .ref (ad 16)), (1, .int a0), (3, .int x2)]) hx hb dX6_topSetOf_44 rfl hl (by decide) rfl (fun ls hl => ?_)
            cases hf
            exact J6 H locs I ls (lv_sub hl [2, 3, 0, 4] rfl)
  exact L1 FU _ _ hq1 H locs I ls (lv_sub hl [2, 3, 1, 0] rfl)
def C_SD_findLayers_s2 (x10 : Int32) (r13 : Int32) (x15 : Int32) (G16 : Nat → Nat → Int32) : Option ((Int32 × (Nat → Nat → Int32)) ⊕ ((Nat → Nat → Int32))) :=
if G16 21 0 ≤ x15 then
(some (.inr G16))
else
(bd (C_LT_contains r13 x15) fun r21 =>
bd (if r21 = 0 then
(some G16)
else
(ri 8 x15 <|
nm (wr G16 26 x15 x10) fun G28 =>
some G28)) fun G24 =>
nm (x15 + (1 : Int32) : Int32) fun x25 =>
some (.inl (x25, G24)))
def C_SD_findLayers_s1  (x9 : Int32) (x10 : Int32) (G11 : Nat → Nat → Int32) : Option ((Int32 × Int32 × (Nat → Nat → Int32)) ⊕ ((Nat → Nat → Int32))) :=
if G11 21 0 ≤ x10 then
(some (.inr G11))
else
(if x9 = 0 then
(some (.inr G11))
else
(bd (C_SD_topSetOf G11 x9) fun r13 =>
bd (lp (fun q => C_SD_findLayers_s2 x10 r13 q.1 q.2) FU ((0 : Int32), G11)) fun G17 =>
nm (wf G17 27 ((G17 27 0) + (1 : Int32))) fun G18 =>
nm (x9 &&& (r13 ^^^ (-1 : Int32)) : Int32) fun x19 =>
nm (x10 + (1 : Int32) : Int32) fun x20 =>
some (.inl (x19, x20, G18))))
def C_SD_findLayers (G : Nat → Nat → Int32) : Option ((Nat → Nat → Int32)) :=
if G 29 0 = 0 then
(nm (wf G 29 (1 : Int32)) fun G1 =>
bd (C_SD_findBeaters G1) fun G2 =>
nm (((1 : Int32) <<< ((G2 21 0) &&& 31)) - (1 : Int32) : Int32) fun x4 =>
bd (C_SD_topSetOf G2 x4) fun r5 =>
nm (wf G2 28 r5) fun G7 =>
nm (wf G7 27 (0 : Int32)) fun G8 =>
bd (lp (fun q => C_SD_findLayers_s1 q.1 q.2.1 q.2.2) FU (x4, (0 : Int32), G8)) fun G12 =>
some G12)
else
(some G)
set_option maxRecDepth 100000 in
set_option maxHeartbeats 4000000 in
theorem cC_SD_findLayers (G : Nat → Nat → Int32) (E : Nat → Nat → Int64) (Dd : Nat → Nat → UInt64) (P : Nat → Option Nat) (L : List Nat) (pf : Nat → va_E)   (newG : Nat → Nat → Int32) (hf : C_SD_findLayers G = some newG) : sMv D (cT cI cJ cD cS) (cW ad cI cJ cD cS) l yX6_findLayers (ws1 yX6_findLayers cX6_findLayers 5 none) ({ frames := 3, cells := 0, slots := 0, locals := 72 }) [.ref (ad 16)] (G, E, Dd, P, L, pf) (newG, E, Dd, P, L, pf) := by
  unfold C_SD_findLayers at hf
  refine sMv_of (by decide) (Nat.le_of_ble_eq_true rfl) ?_
  intro p e R s m args below meth c A Q ls H locs F hRf hRl I hl ret
  obtain ⟨hx, hb, hml, hown, hG⟩ := id F
  replace hl : lv_has ls 5 [(0, .ref (ad 16))] := hl
  refine lv_aload_n hx hb dX6_findLayers_0 rfl (lv_at hl 0 rfl) ?_
  refine kgtX6_44_16 F I dX6_findLayers_1 ?_
  refine lv_if_eq (tgt := 8) hx hb dX6_findLayers_4 (by decide) (fun c33 => ?_) (fun c33 => ?_)
  · replace hf := (if_pos c33).symm.trans hf
    refine lv_aload_n hx hb dX6_findLayers_8 rfl (lv_at hl 0 rfl) ?_
    refine lv_iconst (v := (1 : Int32)) hx hb dX6_findLayers_9 (by decide) ?_
    refine kptX6_44_16 F I (by decide) dX6_findLayers_10 ?_
    intro H locs G1 eG1 I
    replace hf := nm_some eG1 hf
    refine lv_aload_n hx hb dX6_findLayers_13 rfl (lv_at hl 0 rfl) ?_
    obtain ⟨G2, h3, hf⟩ := bd_some hf
    refine s_callVv (As := []) (rest := []) F I (cC_SD_findBeaters G1 E Dd P L pf G2 h3) kX6_149 ⟨rfl, rfl⟩ ⟨Nat.le_trans (Nat.le_of_ble_eq_true rfl) hRf, Nat.le_trans (Nat.le_of_ble_eq_true rfl) hRl⟩ 16 6 rfl rfl rfl rfl rfl hl.1 (Nat.le_of_ble_eq_true rfl) ⟨Nat.zero_le _, Nat.zero_le _⟩ dX6_findLayers_14 ?_
    intro H locs I
    refine lv_iconst (v := (1 : Int32)) hx hb dX6_findLayers_17 (by decide) ?_
    refine lv_aload_n hx hb dX6_findLayers_18 rfl (lv_at hl 0 rfl) ?_
    refine kgtX6_9_16 F I dX6_findLayers_19 ?_
    refine lv_ishl hx hb dX6_findLayers_22 ?_
    refine lv_iconst (v := (1 : Int32)) hx hb dX6_findLayers_23 (by decide) ?_
    refine lv_isub hx hb dX6_findLayers_24 ?_
    refine lv_topi (fun x4 ex4 => ?_)
    replace hf := nm_some ex4 hf
    refine lv_istore_n (lv' := [(1, .int x4), (0, .ref (ad 16))]) hx hb dX6_findLayers_25 rfl hl (by decide) rfl (fun ls hl => ?_)
    refine lv_aload_n hx hb dX6_findLayers_26 rfl (lv_at hl 1 rfl) ?_
    refine lv_aload_n hx hb dX6_findLayers_27 rfl (lv_at hl 1 rfl) ?_
    refine lv_iload_n hx hb dX6_findLayers_28 rfl (lv_at hl 0 rfl) ?_
    obtain ⟨r5, h6, hf⟩ := bd_some hf
    refine s_callVi (As := [.int x4]) (rest := [.ref (ad 16)]) F I (cC_SD_topSetOf G2 E Dd P L pf x4 r5 h6) kX6_152 ⟨rfl, rfl⟩ ⟨Nat.le_trans (Nat.le_of_ble_eq_true rfl) hRf, Nat.le_trans (Nat.le_of_ble_eq_true rfl) hRl⟩ 16 6 rfl rfl rfl rfl rfl hl.1 (Nat.le_of_ble_eq_true rfl) ⟨Nat.zero_le _, Nat.zero_le _⟩ dX6_findLayers_29 ?_
    intro H locs I
    refine kptX6_41_16 F I dX6_findLayers_32 ?_
    intro H locs G7 eG7 I
    replace hf := nm_some eG7 hf
    refine lv_aload_n hx hb dX6_findLayers_35 rfl (lv_at hl 1 rfl) ?_
    refine lv_iconst (v := (0 : Int32)) hx hb dX6_findLayers_36 (by decide) ?_
    refine kptX6_38_16 F I dX6_findLayers_37 ?_
    intro H locs G8 eG8 I
    replace hf := nm_some eG8 hf
    refine lv_iconst (v := (0 : Int32)) hx hb dX6_findLayers_40 (by decide) ?_
    refine lv_istore_n (lv' := [(2, .int (0 : Int32)), (1, .int x4), (0, .ref (ad 16))]) hx hb dX6_findLayers_41 rfl hl (by decide) rfl (fun ls hl => ?_)
    obtain ⟨G12, hq1, hf⟩ := bd_some hf
    have K1 : ∀ (H : Heap) (locs : List Loc), sInv D (cT cI cJ cD cS) (cW ad cI cJ cD cS) A s H locs (G12, E, Dd, P, L, pf) → ∀ (ls : Array Slot), lv_has ls 5 [] → W p l e R s m args below meth c H locs 0 0 Q (F0 m 117 ls []) := by
      intro H locs I ls hl
      cases hf
      exact ret H locs _ ls I dX6_findLayers_117
    have L1 : ∀ (n : Nat) (x9 : Int32) (x10 : Int32) (G11 : Nat → Nat → Int32), lp (fun q => C_SD_findLayers_s1 q.1 q.2.1 q.2.2) n (x9, x10, G11) = some G12 → ∀ (H : Heap) (locs : List Loc), sInv D (cT cI cJ cD cS) (cW ad cI cJ cD cS) A s H locs (G11, E, Dd, P, L, pf) → ∀ (ls : Array Slot), lv_has ls 5 [(0, .ref (ad 16)), (1, .int x9), (2, .int x10)] → W p l e R s m args below meth c H locs 0 0 Q (F0 m 42 ls []) := by
      intro n
      induction n with
      | zero => intro x9 x10 G11 hq; exact (lp_0 hq).elim
      | succ n ih1 =>
        intro x9 x10 G11 hq H locs I ls hl
        obtain ⟨y1, hf, hK1⟩ := lp_go hq
        replace hf : C_SD_findLayers_s1 x9 x10 G11 = some y1 := hf
        unfold C_SD_findLayers_s1 at hf
        refine lv_iload_n hx hb dX6_findLayers_42 rfl (lv_at hl 2 rfl) ?_
        refine lv_aload_n hx hb dX6_findLayers_43 rfl (lv_at hl 0 rfl) ?_
        refine kgtX6_9_16 F I dX6_findLayers_44 ?_
        refine lv_icmp_ge (tgt := 117) hx hb dX6_findLayers_47 (by decide) (fun c32 => ?_) (fun c32 => ?_)
        · replace hf := (if_pos c32).symm.trans hf
          cases hf
          cases (show G11 = G12 from hK1)
          exact K1 H locs I ls (lv_sub hl [] rfl)
        · replace hf := (if_neg c32).symm.trans hf
          refine lv_iload_n hx hb dX6_findLayers_50 rfl (lv_at hl 1 rfl) ?_
          refine lv_if_eq (tgt := 117) hx hb dX6_findLayers_51 (by decide) (fun c31 => ?_) (fun c31 => ?_)
          · replace hf := (if_pos c31).symm.trans hf
            cases hf
            cases (show G11 = G12 from hK1)
            exact K1 H locs I ls (lv_sub hl [] rfl)
          · replace hf := (if_neg c31).symm.trans hf
            refine lv_aload_n hx hb dX6_findLayers_54 rfl (lv_at hl 0 rfl) ?_
            refine lv_iload_n hx hb dX6_findLayers_55 rfl (lv_at hl 1 rfl) ?_
            obtain ⟨r13, h14, hf⟩ := bd_some hf
            refine s_callVi (As := [.int x9]) (rest := []) F I (cC_SD_topSetOf G11 E Dd P L pf x9 r13 h14) kX6_152 ⟨rfl, rfl⟩ ⟨Nat.le_trans (Nat.le_of_ble_eq_true rfl) hRf, Nat.le_trans (Nat.le_of_ble_eq_true rfl) hRl⟩ 16 6 rfl rfl rfl rfl rfl hl.1 (Nat.le_of_ble_eq_true rfl) ⟨Nat.zero_le _, Nat.zero_le _⟩ dX6_findLayers_56 ?_
            intro H locs I
            refine lv_istore_n (lv' := [(3, .int r13), (0, .ref (ad 16)), (1, .int x9), (2, .int x10)]) hx hb dX6_findLayers_59 rfl hl (by decide) rfl (fun ls hl => ?_)
            refine lv_iconst (v := (0 : Int32)) hx hb dX6_findLayers_60 (by decide) ?_
            refine lv_istore (lv' := [(4, .int (0 : Int32)), (3, .int r13), (0, .ref (ad 16)), (1, .int x9), (2, .int x10)]) hx hb dX6_findLayers_61 hl (by decide) rfl (fun ls hl => ?_)
            obtain ⟨G17, hq2, hf⟩ := bd_some hf
            have K2 : ∀ (H : Heap) (locs : List Loc), sInv D (cT cI cJ cD cS) (cW ad cI cJ cD cS) A s H locs (G17, E, Dd, P, L, pf) → ∀ (ls : Array Slot), lv_has ls 5 [(0, .ref (ad 16)), (1, .int x9), (2, .int x10), (3, .int r13)] → W p l e R s m args below meth c H locs 0 0 Q (F0 m 95 ls []) := by
              intro H locs I ls hl
              refine lv_aload_n hx hb dX6_findLayers_95 rfl (lv_at hl 0 rfl) ?_
              refine lv_dup hx hb dX6_findLayers_96 rfl ?_
              refine kgtX6_38_16 F I dX6_findLayers_97 ?_
              refine lv_iconst (v := (1 : Int32)) hx hb dX6_findLayers_100 (by decide) ?_
              refine lv_iadd hx hb dX6_findLayers_101 ?_
              refine kptX6_38_16 F I dX6_findLayers_102 ?_
              intro H locs G18 eG18 I
              replace hf := nm_some eG18 hf
              refine lv_iload_n hx hb dX6_findLayers_105 rfl (lv_at hl 1 rfl) ?_
              refine lv_iload_n hx hb dX6_findLayers_106 rfl (lv_at hl 3 rfl) ?_
              refine lv_iconst (v := (-1 : Int32)) hx hb dX6_findLayers_107 (by decide) ?_
              refine lv_ixor hx hb dX6_findLayers_108 ?_
              refine lv_iand hx hb dX6_findLayers_109 ?_
              refine lv_topi (fun x19 ex19 => ?_)
              replace hf := nm_some ex19 hf
              refine lv_istore_n (lv' := [(1, .int x19), (0, .ref (ad 16)), (2, .int x10), (3, .int r13)]) hx hb dX6_findLayers_110 rfl hl (by decide) rfl (fun ls hl => ?_)
              obtain ⟨x20, ex20⟩ : ∃ y : Int32, y = x10 + (1 : Int32) := ⟨_, rfl⟩
              replace hf := nm_some ex20 hf
              refine lv_iinc (v := x20) (lv' := [(2, .int x20), (1, .int x19), (0, .ref (ad 16)), (3, .int r13)]) hx hb dX6_findLayers_111 hl (k := 2) rfl (by rw [ex20]; rfl) (by decide) rfl (fun ls hl => ?_)
              refine lv_goto (tgt := 42) hx hb dX6_findLayers_114 (by decide) ?_
              cases hf
              exact ih1 _ _ _ hK1 H locs I ls (lv_sub hl [2, 1, 0] rfl)
            have L2 : ∀ (n : Nat) (x15 : Int32) (G16 : Nat → Nat → Int32), lp (fun q => C_SD_findLayers_s2 x10 r13 q.1 q.2) n (x15, G16) = some G17 → ∀ (H : Heap) (locs : List Loc), sInv D (cT cI cJ cD cS) (cW ad cI cJ cD cS) A s H locs (G16, E, Dd, P, L, pf) → ∀ (ls : Array Slot), lv_has ls 5 [(0, .ref (ad 16)), (1, .int x9), (2, .int x10), (3, .int r13), (4, .int x15)] → W p l e R s m args below meth c H locs 0 0 Q (F0 m 63 ls []) := by
              intro n
              induction n with
              | zero => intro x15 G16 hq; exact (lp_0 hq).elim
              | succ n ih2 =>
                intro x15 G16 hq H locs I ls hl
                obtain ⟨y2, hf, hK2⟩ := lp_go hq
                replace hf : C_SD_findLayers_s2 x10 r13 x15 G16 = some y2 := hf
                unfold C_SD_findLayers_s2 at hf
                refine lv_iload hx hb dX6_findLayers_63 (lv_at hl 4 rfl) ?_
                refine lv_aload_n hx hb dX6_findLayers_65 rfl (lv_at hl 0 rfl) ?_
                refine kgtX6_9_16 F I dX6_findLayers_66 ?_
                refine lv_icmp_ge (tgt := 95) hx hb dX6_findLayers_69 (by decide) (fun c30 => ?_) (fun c30 => ?_)
                · replace hf := (if_pos c30).symm.trans hf
                  cases hf
                  cases (show G16 = G17 from hK2)
                  exact K2 H locs I ls (lv_sub hl [0, 1, 2, 3] rfl)
                · replace hf := (if_neg c30).symm.trans hf
                  refine lv_iload_n hx hb dX6_findLayers_72 rfl (lv_at hl 3 rfl) ?_
                  refine lv_iload hx hb dX6_findLayers_73 (lv_at hl 4 rfl) ?_
                  obtain ⟨r21, h22, hf⟩ := bd_some hf
                  refine s_callSNi (As := [.int r13, .int x15]) (rest := []) F I (cC_LT_contains G16 E Dd P L pf r13 x15 r21 h22) kX6_155 ⟨rfl, rfl⟩ ⟨Nat.le_trans (Nat.le_of_ble_eq_true rfl) hRf, Nat.le_trans (Nat.le_of_ble_eq_true rfl) hRl⟩ rfl rfl hl.1 (Nat.le_of_ble_eq_true rfl) ⟨Nat.zero_le _, Nat.zero_le _⟩ dX6_findLayers_75 ?_
                  intro H locs I
                  obtain ⟨G24, hv26, hf⟩ := bd_some hf
                  have J23 : ∀ (H : Heap) (locs : List Loc), sInv D (cT cI cJ cD cS) (cW ad cI cJ cD cS) A s H locs (G24, E, Dd, P, L, pf) → ∀ (ls : Array Slot), lv_has ls 5 [(0, .ref (ad 16)), (1, .int x9), (2, .int x10), (3, .int r13), (4, .int x15)] → W p l e R s m args below meth c H locs 0 0 Q (F0 m 89 ls []) := by
                    intro H locs I ls hl
                    obtain ⟨x25, ex25⟩ : ∃ y : Int32, y = x15 + (1 : Int32) := ⟨_, rfl⟩
                    replace hf := nm_some ex25 hf
                    refine lv_iinc (v := x25) (lv' := [(4, .int x25), (0, .ref (ad 16)), (1, .int x9), (2, .int x10), (3, .int r13)]) hx hb dX6_findLayers_89 hl (k := 4) rfl (by rw [ex25]; rfl) (by decide) rfl (fun ls hl => ?_)
                    refine lv_goto (tgt := 63) hx hb dX6_findLayers_92 (by decide) ?_
                    cases hf
                    exact ih2 _ _ hK2 H locs I ls (lv_sub hl [1, 2, 3, 4, 0] rfl)
                  replace hf := hv26
                  refine lv_if_eq (tgt := 89) hx hb dX6_findLayers_78 (by decide) (fun c29 => ?_) (fun c29 => ?_)
                  · replace hf := (if_pos c29).symm.trans hf
                    cases hf
                    exact J23 H locs I ls (lv_sub hl [0, 1, 2, 3, 4] rfl)
                  · replace hf := (if_neg c29).symm.trans hf
                    refine lv_aload_n hx hb dX6_findLayers_81 rfl (lv_at hl 0 rfl) ?_
                    refine kgtX6_35_16 F I dX6_findLayers_82 ?_
                    refine lv_iload hx hb dX6_findLayers_85 (lv_at hl 4 rfl) ?_
                    refine lv_iload_n hx hb dX6_findLayers_87 rfl (lv_at hl 2 rfl) ?_
                    obtain ⟨g27, hf⟩ := ri_some hf
                    refine kas21 F I g27 dX6_findLayers_88 ?_
                    intro H locs G28 eG28 I
                    replace hf := nm_some eG28 hf
                    cases hf
                    exact J23 H locs I ls (lv_sub hl [0, 1, 2, 3, 4] rfl)
            exact L2 FU _ _ hq2 H locs I ls (lv_sub hl [2, 3, 4, 1, 0] rfl)
    exact L1 FU _ _ _ hq1 H locs I ls (lv_sub hl [2, 1, 0] rfl)
  · replace hf := (if_neg c33).symm.trans hf
    cases hf
    exact ret H locs _ ls I dX6_findLayers_7
def C_SD_propertyOf (G : Nat → Nat → Int32) (a1 : Int32) (a2 : Int32) : Option (Int32 × (Nat → Nat → Int32)) :=
if a2 = (0 : Int32) then
(ri 8 (a1 &&& (7 : Int32)) <|
some (G 23 (a1 &&& (7 : Int32)).toNatClampNeg, G))
else if a2 = (1 : Int32) then
(bd (C_SD_rankIn_18 G a1) fun r4 =>
some (r4, G))
else if a2 = (2 : Int32) then
(bd2 (C_SD_isStable G a1) fun r7 G8 =>
if r7 = 0 then
(some ((0 : Int32), G8))
else
(some ((1 : Int32), G8)))
else if a2 = (3 : Int32) then
(bd (C_SD_dominanceOf G a1) fun r12 =>
some (r12, G))
else if a2 = (4 : Int32) then
(bd (C_SD_findLayers G) fun G15 =>
ri 8 (a1 &&& (7 : Int32)) <|
some (G15 26 (a1 &&& (7 : Int32)).toNatClampNeg, G15))
else (bd (C_BO_find_22 G (G 21 0)) fun G18 =>
bd (C_BO_placeOf G18 a1) fun r20 =>
some (r20, G18))
set_option maxRecDepth 100000 in
set_option maxHeartbeats 4000000 in
theorem cC_SD_propertyOf (G : Nat → Nat → Int32) (E : Nat → Nat → Int64) (Dd : Nat → Nat → UInt64) (P : Nat → Option Nat) (L : List Nat) (pf : Nat → va_E) (a1 : Int32) (a2 : Int32) (rv : Int32) (newG : Nat → Nat → Int32) (hf : C_SD_propertyOf G a1 a2 = some (rv, newG)) : sMi D (cT cI cJ cD cS) (cW ad cI cJ cD cS) l yX6_propertyOf (ws1 yX6_propertyOf cX6_propertyOf 4 (some .int)) ({ frames := 4, cells := 0, slots := 0, locals := 96 }) [.ref (ad 16), .ref (ad 2), .int a1, .int a2] (G, E, Dd, P, L, pf) (rv, (newG, E, Dd, P, L, pf)) := by
  unfold C_SD_propertyOf at hf
  refine sMi_of (by decide) (Nat.le_of_ble_eq_true rfl) ?_
  intro p e R s m args below meth c A Q ls H locs F hRf hRl I hl ret
  obtain ⟨hx, hb, hml, hown, hG⟩ := id F
  replace hl : lv_has ls 4 [(0, .ref (ad 16)), (1, .ref (ad 2)), (2, .int a1), (3, .int a2)] := hl
  refine lv_iload_n hx hb dX6_propertyOf_0 rfl (lv_at hl 3 rfl) ?_
  by_cases c1 : a2 = (0 : Int32)
  · replace hf := (if_pos c1).symm.trans hf
    refine lv_tableIn (off := 35) (tgt := 36) hx hb dX6_propertyOf_1 (by rw [c1]; decide) (by rw [c1]; decide) (by rw [c1]; rfl) (by decide) ?_
    refine lv_aload_n hx hb dX6_propertyOf_36 rfl (lv_at hl 0 rfl) ?_
    refine kgtX6_26_16 F I dX6_propertyOf_37 ?_
    refine lv_iload_n hx hb dX6_propertyOf_40 rfl (lv_at hl 2 rfl) ?_
    refine lv_bipush (v := (7 : Int32)) hx hb dX6_propertyOf_41 (by decide) ?_
    refine lv_iand hx hb dX6_propertyOf_43 ?_
    obtain ⟨g2, hf⟩ := ri_some hf
    refine kal18 F I g2 dX6_propertyOf_44 ?_
    cases hf
    exact ret H locs _ ls I dX6_propertyOf_45
  replace hf := (if_neg c1).symm.trans hf
  by_cases c3 : a2 = (1 : Int32)
  · replace hf := (if_pos c3).symm.trans hf
    refine lv_tableIn (off := 45) (tgt := 46) hx hb dX6_propertyOf_1 (by rw [c3]; decide) (by rw [c3]; decide) (by rw [c3]; rfl) (by decide) ?_
    refine lv_aload_n hx hb dX6_propertyOf_46 rfl (lv_at hl 0 rfl) ?_
    refine lv_aload_n hx hb dX6_propertyOf_47 rfl (lv_at hl 0 rfl) ?_
    refine kgtX6_26_16 F I dX6_propertyOf_48 ?_
    refine lv_iload_n hx hb dX6_propertyOf_51 rfl (lv_at hl 2 rfl) ?_
    obtain ⟨r4, h5, hf⟩ := bd_some hf
    refine s_callVi (As := [.ref (ad 18), .int a1]) (rest := []) F I (cC_SD_rankIn_18 G E Dd P L pf a1 r4 h5) kX6_93 ⟨rfl, rfl⟩ ⟨Nat.le_trans (Nat.le_of_ble_eq_true rfl) hRf, Nat.le_trans (Nat.le_of_ble_eq_true rfl) hRl⟩ 16 6 rfl rfl rfl rfl rfl hl.1 (Nat.le_of_ble_eq_true rfl) ⟨Nat.zero_le _, Nat.zero_le _⟩ dX6_propertyOf_52 ?_
    intro H locs I
    cases hf
    exact ret H locs _ ls I dX6_propertyOf_55
  replace hf := (if_neg c3).symm.trans hf
  by_cases c6 : a2 = (2 : Int32)
  · replace hf := (if_pos c6).symm.trans hf
    refine lv_tableIn (off := 55) (tgt := 56) hx hb dX6_propertyOf_1 (by rw [c6]; decide) (by rw [c6]; decide) (by rw [c6]; rfl) (by decide) ?_
    refine lv_aload_n hx hb dX6_propertyOf_56 rfl (lv_at hl 0 rfl) ?_
    refine lv_aload_n hx hb dX6_propertyOf_57 rfl (lv_at hl 1 rfl) ?_
    refine lv_iload_n hx hb dX6_propertyOf_58 rfl (lv_at hl 2 rfl) ?_
    obtain ⟨r7, G8, h9, hf⟩ := bd2_some hf
    refine s_callVi (As := [.ref (ad 2), .int a1]) (rest := []) F I (cC_SD_isStable G E Dd P L pf a1 r7 G8 h9) kX6_97 ⟨rfl, rfl⟩ ⟨Nat.le_trans (Nat.le_of_ble_eq_true rfl) hRf, Nat.le_trans (Nat.le_of_ble_eq_true rfl) hRl⟩ 16 6 rfl rfl rfl rfl rfl hl.1 (Nat.le_of_ble_eq_true rfl) ⟨Nat.zero_le _, Nat.zero_le _⟩ dX6_propertyOf_59 ?_
    intro H locs I
    refine lv_if_eq (tgt := 69) hx hb dX6_propertyOf_62 (by decide) (fun c10 => ?_) (fun c10 => ?_)
    · replace hf := (if_pos c10).symm.trans hf
      refine lv_iconst (v := (0 : Int32)) hx hb dX6_propertyOf_69 (by decide) ?_
      cases hf
      exact ret H locs _ ls I dX6_propertyOf_70
    · replace hf := (if_neg c10).symm.trans hf
      refine lv_iconst (v := (1 : Int32)) hx hb dX6_propertyOf_65 (by decide) ?_
      refine lv_goto (tgt := 70) hx hb dX6_propertyOf_66 (by decide) ?_
      cases hf
      exact ret H locs _ ls I dX6_propertyOf_70
  replace hf := (if_neg c6).symm.trans hf
  by_cases c11 : a2 = (3 : Int32)
  · replace hf := (if_pos c11).symm.trans hf
    refine lv_tableIn (off := 70) (tgt := 71) hx hb dX6_propertyOf_1 (by rw [c11]; decide) (by rw [c11]; decide) (by rw [c11]; rfl) (by decide) ?_
    refine lv_aload_n hx hb dX6_propertyOf_71 rfl (lv_at hl 0 rfl) ?_
    refine lv_iload_n hx hb dX6_propertyOf_72 rfl (lv_at hl 2 rfl) ?_
    obtain ⟨r12, h13, hf⟩ := bd_some hf
    refine s_callVi (As := [.int a1]) (rest := []) F I (cC_SD_dominanceOf G E Dd P L pf a1 r12 h13) kX6_101 ⟨rfl, rfl⟩ ⟨Nat.le_trans (Nat.le_of_ble_eq_true rfl) hRf, Nat.le_trans (Nat.le_of_ble_eq_true rfl) hRl⟩ 16 6 rfl rfl rfl rfl rfl hl.1 (Nat.le_of_ble_eq_true rfl) ⟨Nat.zero_le _, Nat.zero_le _⟩ dX6_propertyOf_73 ?_
    intro H locs I
    cases hf
    exact ret H locs _ ls I dX6_propertyOf_76
  replace hf := (if_neg c11).symm.trans hf
  by_cases c14 : a2 = (4 : Int32)
  · replace hf := (if_pos c14).symm.trans hf
    refine lv_tableIn (off := 76) (tgt := 77) hx hb dX6_propertyOf_1 (by rw [c14]; decide) (by rw [c14]; decide) (by rw [c14]; rfl) (by decide) ?_
    refine lv_aload_n hx hb dX6_propertyOf_77 rfl (lv_at hl 0 rfl) ?_
    obtain ⟨G15, h16, hf⟩ := bd_some hf
    refine s_callVv (As := []) (rest := []) F I (cC_SD_findLayers G E Dd P L pf G15 h16) kX6_104 ⟨rfl, rfl⟩ ⟨Nat.le_trans (Nat.le_of_ble_eq_true rfl) hRf, Nat.le_trans (Nat.le_of_ble_eq_true rfl) hRl⟩ 16 6 rfl rfl rfl rfl rfl hl.1 (Nat.le_of_ble_eq_true rfl) ⟨Nat.zero_le _, Nat.zero_le _⟩ dX6_propertyOf_78 ?_
    intro H locs I
    refine lv_aload_n hx hb dX6_propertyOf_81 rfl (lv_at hl 0 rfl) ?_
    refine kgtX6_35_16 F I dX6_propertyOf_82 ?_
    refine lv_iload_n hx hb dX6_propertyOf_85 rfl (lv_at hl 2 rfl) ?_
    refine lv_bipush (v := (7 : Int32)) hx hb dX6_propertyOf_86 (by decide) ?_
    refine lv_iand hx hb dX6_propertyOf_88 ?_
    obtain ⟨g17, hf⟩ := ri_some hf
    refine kal21 F I g17 dX6_propertyOf_89 ?_
    cases hf
    exact ret H locs _ ls I dX6_propertyOf_90
  replace hf := (if_neg c14).symm.trans hf
  refine lv_tableOut (tgt := 91) hx hb dX6_propertyOf_1 (tsw4 c1 c3 c6 c11 c14) (by decide) ?_
  refine lv_aload_n hx hb dX6_propertyOf_91 rfl (lv_at hl 0 rfl) ?_
  refine kgtX6_51_16 F I dX6_propertyOf_92 ?_
  refine lv_aload_n hx hb dX6_propertyOf_95 rfl (lv_at hl 0 rfl) ?_
  refine kgtX6_22_16 F I dX6_propertyOf_96 ?_
  refine lv_aload_n hx hb dX6_propertyOf_99 rfl (lv_at hl 0 rfl) ?_
  refine kgtX6_9_16 F I dX6_propertyOf_100 ?_
  obtain ⟨G18, h19, hf⟩ := bd_some hf
  refine s_callVv (As := [.ref (ad 22), .int (G 21 0)]) (rest := []) F I (cC_BO_find_22 G E Dd P L pf (G 21 0) G18 h19) kX6_107 ⟨rfl, rfl⟩ ⟨Nat.le_trans (Nat.le_of_ble_eq_true rfl) hRf, Nat.le_trans (Nat.le_of_ble_eq_true rfl) hRl⟩ 24 0 rfl rfl rfl rfl rfl hl.1 (Nat.le_of_ble_eq_true rfl) ⟨Nat.zero_le _, Nat.zero_le _⟩ dX6_propertyOf_103 ?_
  intro H locs I
  refine lv_aload_n hx hb dX6_propertyOf_106 rfl (lv_at hl 0 rfl) ?_
  refine kgtX6_51_16 F I dX6_propertyOf_107 ?_
  refine lv_iload_n hx hb dX6_propertyOf_110 rfl (lv_at hl 2 rfl) ?_
  obtain ⟨r20, h21, hf⟩ := bd_some hf
  refine s_callVi (As := [.int a1]) (rest := []) F I (cC_BO_placeOf G18 E Dd P L pf a1 r20 h21) kX6_111 ⟨rfl, rfl⟩ ⟨Nat.le_trans (Nat.le_of_ble_eq_true rfl) hRf, Nat.le_trans (Nat.le_of_ble_eq_true rfl) hRl⟩ 24 0 rfl rfl rfl rfl rfl hl.1 (Nat.le_of_ble_eq_true rfl) ⟨Nat.zero_le _, Nat.zero_le _⟩ dX6_propertyOf_111 ?_
  intro H locs I
  cases hf
  exact ret H locs _ ls I dX6_propertyOf_114
def C_LE_isRing_22 (G : Nat → Nat → Int32) (a0 : Int32) (a1 : Int32) (a2 : Int32) : Option (Int32) :=
bd (C_LE_isAhead_22 G a0 a1) fun r1 =>
if r1 = 0 then
(some (0 : Int32))
else
(bd (C_LE_isAhead_22 G a1 a2) fun r3 =>
if r3 = 0 then
(some (0 : Int32))
else
(bd (C_LE_isAhead_22 G a2 a0) fun r5 =>
if r5 = 0 then
(some (0 : Int32))
else
(some (1 : Int32))))
set_option maxRecDepth 100000 in
set_option maxHeartbeats 4000000 in
theorem cC_LE_isRing_22 (G : Nat → Nat → Int32) (E : Nat → Nat → Int64) (Dd : Nat → Nat → UInt64) (P : Nat → Option Nat) (L : List Nat) (pf : Nat → va_E) (a0 : Int32) (a1 : Int32) (a2 : Int32) (rv : Int32)  (hf : C_LE_isRing_22 G a0 a1 a2 = some rv) : sMi D (cT cI cJ cD cS) (cW ad cI cJ cD cS) l yX3_isRing (ws1 yX3_isRing cX3_isRing 4 (some .boolean)) ({ frames := 2, cells := 0, slots := 0, locals := 43 }) [.ref (ad 22), .int a0, .int a1, .int a2] (G, E, Dd, P, L, pf) (rv, (G, E, Dd, P, L, pf)) := by
  unfold C_LE_isRing_22 at hf
  refine sMz_of (by decide) (Nat.le_of_ble_eq_true rfl) ?_
  intro p e R s m args below meth c A Q ls H locs F hRf hRl I hl ret
  obtain ⟨hx, hb, hml, hown, hG⟩ := id F
  replace hl : lv_has ls 4 [(0, .ref (ad 22)), (1, .int a0), (2, .int a1), (3, .int a2)] := hl
  refine lv_aload_n hx hb dX3_isRing_0 rfl (lv_at hl 0 rfl) ?_
  refine lv_iload_n hx hb dX3_isRing_1 rfl (lv_at hl 1 rfl) ?_
  refine lv_iload_n hx hb dX3_isRing_2 rfl (lv_at hl 2 rfl) ?_
  obtain ⟨r1, h2, hf⟩ := bd_some hf
  refine s_callVi (As := [.int a0, .int a1]) (rest := []) F I (cC_LE_isAhead_22 G E Dd P L pf a0 a1 r1 h2) kX3_61 ⟨rfl, rfl⟩ ⟨Nat.le_trans (Nat.le_of_ble_eq_true rfl) hRf, Nat.le_trans (Nat.le_of_ble_eq_true rfl) hRl⟩ 22 3 rfl rfl rfl rfl rfl hl.1 (Nat.le_of_ble_eq_true rfl) ⟨Nat.zero_le _, Nat.zero_le _⟩ dX3_isRing_3 ?_
  intro H locs I
  refine lv_if_eq (tgt := 31) hx hb dX3_isRing_6 (by decide) (fun c9 => ?_) (fun c9 => ?_)
  · replace hf := (if_pos c9).symm.trans hf
    refine lv_iconst (v := (0 : Int32)) hx hb dX3_isRing_31 (by decide) ?_
    cases hf
    exact ret H locs _ ls I (Or.inl rfl) dX3_isRing_32
  · replace hf := (if_neg c9).symm.trans hf
    refine lv_aload_n hx hb dX3_isRing_9 rfl (lv_at hl 0 rfl) ?_
    refine lv_iload_n hx hb dX3_isRing_10 rfl (lv_at hl 2 rfl) ?_
    refine lv_iload_n hx hb dX3_isRing_11 rfl (lv_at hl 3 rfl) ?_
    obtain ⟨r3, h4, hf⟩ := bd_some hf
    refine s_callVi (As := [.int a1, .int a2]) (rest := []) F I (cC_LE_isAhead_22 G E Dd P L pf a1 a2 r3 h4) kX3_61 ⟨rfl, rfl⟩ ⟨Nat.le_trans (Nat.le_of_ble_eq_true rfl) hRf, Nat.le_trans (Nat.le_of_ble_eq_true rfl) hRl⟩ 22 3 rfl rfl rfl rfl rfl hl.1 (Nat.le_of_ble_eq_true rfl) ⟨Nat.zero_le _, Nat.zero_le _⟩ dX3_isRing_12 ?_
    intro H locs I
    refine lv_if_eq (tgt := 31) hx hb dX3_isRing_15 (by decide) (fun c8 => ?_) (fun c8 => ?_)
    · replace hf := (if_pos c8).symm.trans hf
      refine lv_iconst (v := (0 : Int32)) hx hb dX3_isRing_31 (by decide) ?_
      cases hf
      exact ret H locs _ ls I (Or.inl rfl) dX3_isRing_32
    · replace hf := (if_neg c8).symm.trans hf
      refine lv_aload_n hx hb dX3_isRing_18 rfl (lv_at hl 0 rfl) ?_
      refine lv_iload_n hx hb dX3_isRing_19 rfl (lv_at hl 3 rfl) ?_
      refine lv_iload_n hx hb dX3_isRing_20 rfl (lv_at hl 1 rfl) ?_
      obtain ⟨r5, h6, hf⟩ := bd_some hf
      refine s_callVi (As := [.int a2, .int a0]) (rest := []) F I (cC_LE_isAhead_22 G E Dd P L pf a2 a0 r5 h6) kX3_61 ⟨rfl, rfl⟩ ⟨Nat.le_trans (Nat.le_of_ble_eq_true rfl) hRf, Nat.le_trans (Nat.le_of_ble_eq_true rfl) hRl⟩ 22 3 rfl rfl rfl rfl rfl hl.1 (Nat.le_of_ble_eq_true rfl) ⟨Nat.zero_le _, Nat.zero_le _⟩ dX3_isRing_21 ?_
      intro H locs I
      refine lv_if_eq (tgt := 31) hx hb dX3_isRing_24 (by decide) (fun c7 => ?_) (fun c7 => ?_)
      · replace hf := (if_pos c7).symm.trans hf
        refine lv_iconst (v := (0 : Int32)) hx hb dX3_isRing_31 (by decide) ?_
        cases hf
        exact ret H locs _ ls I (Or.inl rfl) dX3_isRing_32
      · replace hf := (if_neg c7).symm.trans hf
        refine lv_iconst (v := (1 : Int32)) hx hb dX3_isRing_27 (by decide) ?_
        refine lv_goto (tgt := 32) hx hb dX3_isRing_28 (by decide) ?_
        cases hf
        exact ret H locs _ ls I (Or.inr rfl) dX3_isRing_32
def C_LE_countRings_22_s3 (a0 : Int32) (x2 : Int32) (x6 : Int32) (G : Nat → Nat → Int32) (x10 : Int32) (x11 : Int32) : Option ((Int32 × Int32) ⊕ (Int32)) :=
if a0 ≤ x11 then
(some (.inr x10))
else
(bd (C_LE_isRing_22 G x2 x6 x11) fun r14 =>
bd (if r14 = 0 then
(bd (C_LE_isRing_22 G x11 x6 x2) fun r21 =>
if r21 = 0 then
(some x10)
else
(nm (x10 + (1 : Int32) : Int32) fun x23 =>
some x23))
else
(nm (x10 + (1 : Int32) : Int32) fun x20 =>
some x20)) fun x17 =>
nm (x11 + (1 : Int32) : Int32) fun x18 =>
some (.inl (x17, x18)))
def C_LE_countRings_22_s2 (a0 : Int32) (x2 : Int32) (G : Nat → Nat → Int32) (x5 : Int32) (x6 : Int32) : Option ((Int32 × Int32) ⊕ (Int32)) :=
if a0 ≤ x6 then
(some (.inr x5))
else
(nm (x6 + (1 : Int32) : Int32) fun x9 =>
bd (lp (fun q => C_LE_countRings_22_s3 a0 x2 x6 G q.1 q.2) FU (x5, x9)) fun r12 =>
nm (x6 + (1 : Int32) : Int32) fun x13 =>
some (.inl (r12, x13)))
def C_LE_countRings_22_s1 (a0 : Int32) (G : Nat → Nat → Int32) (x1 : Int32) (x2 : Int32) : Option ((Int32 × Int32) ⊕ (Int32)) :=
if a0 ≤ x2 then
(some (.inr x1))
else
(nm (x2 + (1 : Int32) : Int32) fun x4 =>
bd (lp (fun q => C_LE_countRings_22_s2 a0 x2 G q.1 q.2) FU (x1, x4)) fun r7 =>
nm (x2 + (1 : Int32) : Int32) fun x8 =>
some (.inl (r7, x8)))
def C_LE_countRings_22 (G : Nat → Nat → Int32) (a0 : Int32) : Option (Int32) :=
bd (lp (fun q => C_LE_countRings_22_s1 a0 G q.1 q.2) FU ((0 : Int32), (0 : Int32))) fun r3 =>
some r3
set_option maxRecDepth 100000 in
set_option maxHeartbeats 4000000 in
theorem cC_LE_countRings_22 (G : Nat → Nat → Int32) (E : Nat → Nat → Int64) (Dd : Nat → Nat → UInt64) (P : Nat → Option Nat) (L : List Nat) (pf : Nat → va_E) (a0 : Int32) (rv : Int32)  (hf : C_LE_countRings_22 G a0 = some rv) : sMi D (cT cI cJ cD cS) (cW ad cI cJ cD cS) l yX3_countRings (ws1 yX3_countRings cX3_countRings 6 (some .int)) ({ frames := 3, cells := 0, slots := 0, locals := 66 }) [.ref (ad 22), .int a0] (G, E, Dd, P, L, pf) (rv, (G, E, Dd, P, L, pf)) := by
  unfold C_LE_countRings_22 at hf
  refine sMi_of (by decide) (Nat.le_of_ble_eq_true rfl) ?_
  intro p e R s m args below meth c A Q ls H locs F hRf hRl I hl ret
  obtain ⟨hx, hb, hml, hown, hG⟩ := id F
  replace hl : lv_has ls 6 [(0, .ref (ad 22)), (1, .int a0)] := hl
  refine lv_iconst (v := (0 : Int32)) hx hb dX3_countRings_0 (by decide) ?_
  refine lv_istore_n (lv' := [(2, .int (0 : Int32)), (0, .ref (ad 22)), (1, .int a0)]) hx hb dX3_countRings_1 rfl hl (by decide) rfl (fun ls hl => ?_)
  refine lv_iconst (v := (0 : Int32)) hx hb dX3_countRings_2 (by decide) ?_
  refine lv_istore_n (lv' := [(3, .int (0 : Int32)), (2, .int (0 : Int32)), (0, .ref (ad 22)), (1, .int a0)]) hx hb dX3_countRings_3 rfl hl (by decide) rfl (fun ls hl => ?_)
  obtain ⟨r3, hq1, hf⟩ := bd_some hf
  have K1 : ∀ (H : Heap) (locs : List Loc), sInv D (cT cI cJ cD cS) (cW ad cI cJ cD cS) A s H locs (G, E, Dd, P, L, pf) → ∀ (ls : Array Slot), lv_has ls 6 [(2, .int r3)] → W p l e R s m args below meth c H locs 0 0 Q (F0 m 77 ls []) := by
    intro H locs I ls hl
    refine lv_iload_n hx hb dX3_countRings_77 rfl (lv_at hl 0 rfl) ?_
    cases hf
    exact ret H locs _ ls I dX3_countRings_78
  have L1 : ∀ (n : Nat) (x1 : Int32) (x2 : Int32), lp (fun q => C_LE_countRings_22_s1 a0 G q.1 q.2) n (x1, x2) = some r3 → ∀ (H : Heap) (locs : List Loc), sInv D (cT cI cJ cD cS) (cW ad cI cJ cD cS) A s H locs (G, E, Dd, P, L, pf) → ∀ (ls : Array Slot), lv_has ls 6 [(0, .ref (ad 22)), (1, .int a0), (2, .int x1), (3, .int x2)] → W p l e R s m args below meth c H locs 0 0 Q (F0 m 4 ls []) := by
    intro n
    induction n with
    | zero => intro x1 x2 hq; exact (lp_0 hq).elim
    | succ n ih1 =>
      intro x1 x2 hq H locs I ls hl
      obtain ⟨y1, hf, hK1⟩ := lp_go hq
      replace hf : C_LE_countRings_22_s1 a0 G x1 x2 = some y1 := hf
      unfold C_LE_countRings_22_s1 at hf
      refine lv_iload_n hx hb dX3_countRings_4 rfl (lv_at hl 3 rfl) ?_
      refine lv_iload_n hx hb dX3_countRings_5 rfl (lv_at hl 1 rfl) ?_
      refine lv_icmp_ge (tgt := 77) hx hb dX3_countRings_6 (by decide) (fun c28 => ?_) (fun c28 => ?_)
      · replace hf := (if_pos c28).symm.trans hf
        cases hf
        cases (show x1 = r3 from hK1)
        exact K1 H locs I ls (lv_sub hl [2] rfl)
      · replace hf := (if_neg c28).symm.trans hf
        refine lv_iload_n hx hb dX3_countRings_9 rfl (lv_at hl 3 rfl) ?_
        refine lv_iconst (v := (1 : Int32)) hx hb dX3_countRings_10 (by decide) ?_
        refine lv_iadd hx hb dX3_countRings_11 ?_
        refine lv_topi (fun x4 ex4 => ?_)
        replace hf := nm_some ex4 hf
        refine lv_istore (lv' := [(4, .int x4), (0, .ref (ad 22)), (1, .int a0), (2, .int x1), (3, .int x2)]) hx hb dX3_countRings_12 hl (by decide) rfl (fun ls hl => ?_)
        obtain ⟨r7, hq2, hf⟩ := bd_some hf
        have K2 : ∀ (H : Heap) (locs : List Loc), sInv D (cT cI cJ cD cS) (cW ad cI cJ cD cS) A s H locs (G, E, Dd, P, L, pf) → ∀ (ls : Array Slot), lv_has ls 6 [(0, .ref (ad 22)), (1, .int a0), (2, .int r7), (3, .int x2)] → W p l e R s m args below meth c H locs 0 0 Q (F0 m 71 ls []) := by
          intro H locs I ls hl
          obtain ⟨x8, ex8⟩ : ∃ y : Int32, y = x2 + (1 : Int32) := ⟨_, rfl⟩
          replace hf := nm_some ex8 hf
          refine lv_iinc (v := x8) (lv' := [(3, .int x8), (0, .ref (ad 22)), (1, .int a0), (2, .int r7)]) hx hb dX3_countRings_71 hl (k := 3) rfl (by rw [ex8]; rfl) (by decide) rfl (fun ls hl => ?_)
          refine lv_goto (tgt := 4) hx hb dX3_countRings_74 (by decide) ?_
          cases hf
          exact ih1 _ _ hK1 H locs I ls (lv_sub hl [1, 2, 3, 0] rfl)
        have L2 : ∀ (n : Nat) (x5 : Int32) (x6 : Int32), lp (fun q => C_LE_countRings_22_s2 a0 x2 G q.1 q.2) n (x5, x6) = some r7 → ∀ (H : Heap) (locs : List Loc), sInv D (cT cI cJ cD cS) (cW ad cI cJ cD cS) A s H locs (G, E, Dd, P, L, pf) → ∀ (ls : Array Slot), lv_has ls 6 [(0, .ref (ad 22)), (1, .int a0), (2, .int x5), (3, .int x2), (4, .int x6)] → W p l e R s m args below meth c H locs 0 0 Q (F0 m 14 ls []) := by
          intro n
          induction n with
          | zero => intro x5 x6 hq; exact (lp_0 hq).elim
          | succ n ih2 =>
            intro x5 x6 hq H locs I ls hl
            obtain ⟨y2, hf, hK2⟩ := lp_go hq
            replace hf : C_LE_countRings_22_s2 a0 x2 G x5 x6 = some y2 := hf
            unfold C_LE_countRings_22_s2 at hf
            refine lv_iload hx hb dX3_countRings_14 (lv_at hl 4 rfl) ?_
            refine lv_iload_n hx hb dX3_countRings_16 rfl (lv_at hl 1 rfl) ?_
            refine lv_icmp_ge (tgt := 71) hx hb dX3_countRings_17 (by decide) (fun c27 => ?_) (fun c27 => ?_)
            · replace hf := (if_pos c27).symm.trans hf
              cases hf
              cases (show x5 = r7 from hK2)
              exact K2 H locs I ls (lv_sub hl [0, 1, 2, 3] rfl)
            · replace hf := (if_neg c27).symm.trans hf
              refine lv_iload hx hb dX3_countRings_20 (lv_at hl 4 rfl) ?_
              refine lv_iconst (v := (1 : Int32)) hx hb dX3_countRings_22 (by decide) ?_
              refine lv_iadd hx hb dX3_countRings_23 ?_
              refine lv_topi (fun x9 ex9 => ?_)
              replace hf := nm_some ex9 hf
              refine lv_istore (lv' := [(5, .int x9), (0, .ref (ad 22)), (1, .int a0), (2, .int x5), (3, .int x2), (4, .int x6)]) hx hb dX3_countRings_24 hl (by decide) rfl (fun ls hl => ?_)
              obtain ⟨r12, hq3, hf⟩ := bd_some hf
              have K3 : ∀ (H : Heap) (locs : List Loc), sInv D (cT cI cJ cD cS) (cW ad cI cJ cD cS) A s H locs (G, E, Dd, P, L, pf) → ∀ (ls : Array Slot), lv_has ls 6 [(0, .ref (ad 22)), (1, .int a0), (2, .int r12), (3, .int x2), (4, .int x6)] → W p l e R s m args below meth c H locs 0 0 Q (F0 m 65 ls []) := by
                intro H locs I ls hl
                obtain ⟨x13, ex13⟩ : ∃ y : Int32, y = x6 + (1 : Int32) := ⟨_, rfl⟩
                replace hf := nm_some ex13 hf
                refine lv_iinc (v := x13) (lv' := [(4, .int x13), (0, .ref (ad 22)), (1, .int a0), (2, .int r12), (3, .int x2)]) hx hb dX3_countRings_65 hl (k := 4) rfl (by rw [ex13]; rfl) (by decide) rfl (fun ls hl => ?_)
                refine lv_goto (tgt := 14) hx hb dX3_countRings_68 (by decide) ?_
                cases hf
                exact ih2 _ _ hK2 H locs I ls (lv_sub hl [1, 2, 3, 4, 0] rfl)
              have L3 : ∀ (n : Nat) (x10 : Int32) (x11 : Int32), lp (fun q => C_LE_countRings_22_s3 a0 x2 x6 G q.1 q.2) n (x10, x11) = some r12 → ∀ (H : Heap) (locs : List Loc), sInv D (cT cI cJ cD cS) (cW ad cI cJ cD cS) A s H locs (G, E, Dd, P, L, pf) → ∀ (ls : Array Slot), lv_has ls 6 [(0, .ref (ad 22)), (1, .int a0), (2, .int x10), (3, .int x2), (4, .int x6), (5, .int x11)] → W p l e R s m args below meth c H locs 0 0 Q (F0 m 26 ls []) := by
                intro n
                induction n with
                | zero => intro x10 x11 hq; exact (lp_0 hq).elim
                | succ n ih3 =>
                  intro x10 x11 hq H locs I ls hl
                  obtain ⟨y3, hf, hK3⟩ := lp_go hq
                  replace hf : C_LE_countRings_22_s3 a0 x2 x6 G x10 x11 = some y3 := hf
                  unfold C_LE_countRings_22_s3 at hf
                  refine lv_iload hx hb dX3_countRings_26 (lv_at hl 5 rfl) ?_
                  refine lv_iload_n hx hb dX3_countRings_28 rfl (lv_at hl 1 rfl) ?_
                  refine lv_icmp_ge (tgt := 65) hx hb dX3_countRings_29 (by decide) (fun c26 => ?_) (fun c26 => ?_)
                  · replace hf := (if_pos c26).symm.trans hf
                    cases hf
                    cases (show x10 = r12 from hK3)
                    exact K3 H locs I ls (lv_sub hl [0, 1, 2, 3, 4] rfl)
                  · replace hf := (if_neg c26).symm.trans hf
                    refine lv_aload_n hx hb dX3_countRings_32 rfl (lv_at hl 0 rfl) ?_
                    refine lv_iload_n hx hb dX3_countRings_33 rfl (lv_at hl 3 rfl) ?_
                    refine lv_iload hx hb dX3_countRings_34 (lv_at hl 4 rfl) ?_
                    refine lv_iload hx hb dX3_countRings_36 (lv_at hl 5 rfl) ?_
                    obtain ⟨r14, h15, hf⟩ := bd_some hf
                    refine s_callVi (As := [.int x2, .int x6, .int x11]) (rest := []) F I (cC_LE_isRing_22 G E Dd P L pf x2 x6 x11 r14 h15) kX3_57 ⟨rfl, rfl⟩ ⟨Nat.le_trans (Nat.le_of_ble_eq_true rfl) hRf, Nat.le_trans (Nat.le_of_ble_eq_true rfl) hRl⟩ 22 3 rfl rfl rfl rfl rfl hl.1 (Nat.le_of_ble_eq_true rfl) ⟨Nat.zero_le _, Nat.zero_le _⟩ dX3_countRings_38 ?_
                    intro H locs I
                    obtain ⟨x17, hv19, hf⟩ := bd_some hf
                    have J16 : ∀ (H : Heap) (locs : List Loc), sInv D (cT cI cJ cD cS) (cW ad cI cJ cD cS) A s H locs (G, E, Dd, P, L, pf) → ∀ (ls : Array Slot), lv_has ls 6 [(0, .ref (ad 22)), (1, .int a0), (2, .int x17), (3, .int x2), (4, .int x6), (5, .int x11)] → W p l e R s m args below meth c H locs 0 0 Q (F0 m 59 ls []) := by
                      intro H locs I ls hl
                      obtain ⟨x18, ex18⟩ : ∃ y : Int32, y = x11 + (1 : Int32) := ⟨_, rfl⟩
                      replace hf := nm_some ex18 hf
                      refine lv_iinc (v := x18) (lv' := [(5, .int x18), (0, .ref (ad 22)), (1, .int a0), (2, .int x17), (3, .int x2), (4, .int x6)]) hx hb dX3_countRings_59 hl (k := 5) rfl (by rw [ex18]; rfl) (by decide) rfl (fun ls hl => ?_)
                      refine lv_goto (tgt := 26) hx hb dX3_countRings_62 (by decide) ?_
                      cases hf
                      exact ih3 _ _ hK3 H locs I ls (lv_sub hl [1, 2, 3, 4, 5, 0] rfl)
                    replace hf := hv19
                    refine lv_if_ne (tgt := 56) hx hb dX3_countRings_41 (by decide) (fun c25 => ?_) (fun c25 => ?_)
                    · replace hf := (if_neg c25).symm.trans hf
                      obtain ⟨x20, ex20⟩ : ∃ y : Int32, y = x10 + (1 : Int32) := ⟨_, rfl⟩
                      replace hf := nm_some ex20 hf
                      refine lv_iinc (v := x20) (lv' := [(2, .int x20), (0, .ref (ad 22)), (1, .int a0), (3, .int x2), (4, .int x6), (5, .int x11)]) hx hb dX3_countRings_56 hl (k := 2) rfl (by rw [ex20]; rfl) (by decide) rfl (fun ls hl => ?_)
                      cases hf
                      exact J16 H locs I ls (lv_sub hl [1, 2, 0, 3, 4, 5] rfl)
                    · replace hf := (if_pos c25).symm.trans hf
                      refine lv_aload_n hx hb dX3_countRings_44 rfl (lv_at hl 0 rfl) ?_
                      refine lv_iload hx hb dX3_countRings_45 (lv_at hl 5 rfl) ?_
                      refine lv_iload hx hb dX3_countRings_47 (lv_at hl 4 rfl) ?_
                      refine lv_iload_n hx hb dX3_countRings_49 rfl (lv_at hl 3 rfl) ?_
                      obtain ⟨r21, h22, hf⟩ := bd_some hf
                      refine s_callVi (As := [.int x11, .int x6, .int x2]) (rest := []) F I (cC_LE_isRing_22 G E Dd P L pf x11 x6 x2 r21 h22) kX3_57 ⟨rfl, rfl⟩ ⟨Nat.le_trans (Nat.le_of_ble_eq_true rfl) hRf, Nat.le_trans (Nat.le_of_ble_eq_true rfl) hRl⟩ 22 3 rfl rfl rfl rfl rfl hl.1 (Nat.le_of_ble_eq_true rfl) ⟨Nat.zero_le _, Nat.zero_le _⟩ dX3_countRings_50 ?_
                      intro H locs I
                      refine lv_if_eq (tgt := 59) hx hb dX3_countRings_53 (by decide) (fun c24 => ?_) (fun c24 => ?_)
                      · replace hf := (if_pos c24).symm.trans hf
                        cases hf
                        exact J16 H locs I ls (lv_sub hl [0, 1, 2, 3, 4, 5] rfl)
                      · replace hf := (if_neg c24).symm.trans hf
                        obtain ⟨x23, ex23⟩ : ∃ y : Int32, y = x10 + (1 : Int32) := ⟨_, rfl⟩
                        replace hf := nm_some ex23 hf
                        refine lv_iinc (v := x23) (lv' := [(2, .int x23), (0, .ref (ad 22)), (1, .int a0), (3, .int x2), (4, .int x6), (5, .int x11)]) hx hb dX3_countRings_56 hl (k := 2) rfl (by rw [ex23]; rfl) (by decide) rfl (fun ls hl => ?_)
                        cases hf
                        exact J16 H locs I ls (lv_sub hl [1, 2, 0, 3, 4, 5] rfl)
              exact L3 FU _ _ hq3 H locs I ls (lv_sub hl [1, 2, 3, 4, 5, 0] rfl)
        exact L2 FU _ _ hq2 H locs I ls (lv_sub hl [1, 2, 3, 4, 0] rfl)
  exact L1 FU _ _ hq1 H locs I ls (lv_sub hl [2, 3, 1, 0] rfl)
def C_SD_countStable_s1  (x1 : Int32) (x2 : Int32) (G3 : Nat → Nat → Int32) : Option ((Int32 × Int32 × (Nat → Nat → Int32)) ⊕ (Int32 × (Nat → Nat → Int32))) :=
if G3 21 0 ≤ x2 then
(some (.inr (x1, G3)))
else
(bd2 (C_SD_isStable G3 x2) fun r6 G7 =>
bd (if r6 = 0 then
(some x1)
else
(nm (x1 + (1 : Int32) : Int32) fun x13 =>
some x13)) fun x10 =>
nm (x2 + (1 : Int32) : Int32) fun x11 =>
some (.inl (x10, x11, G7)))
def C_SD_countStable (G : Nat → Nat → Int32) : Option (Int32 × (Nat → Nat → Int32)) :=
bd2 (lp (fun q => C_SD_countStable_s1 q.1 q.2.1 q.2.2) FU ((0 : Int32), (0 : Int32), G)) fun r4 G5 =>
some (r4, G5)
set_option maxRecDepth 100000 in
set_option maxHeartbeats 4000000 in
theorem cC_SD_countStable (G : Nat → Nat → Int32) (E : Nat → Nat → Int64) (Dd : Nat → Nat → UInt64) (P : Nat → Option Nat) (L : List Nat) (pf : Nat → va_E)  (rv : Int32) (newG : Nat → Nat → Int32) (hf : C_SD_countStable G = some (rv, newG)) : sMi D (cT cI cJ cD cS) (cW ad cI cJ cD cS) l yX6_countStable (ws1 yX6_countStable cX6_countStable 4 (some .int)) ({ frames := 3, cells := 0, slots := 0, locals := 69 }) [.ref (ad 16), .ref (ad 2)] (G, E, Dd, P, L, pf) (rv, (newG, E, Dd, P, L, pf)) := by
  unfold C_SD_countStable at hf
  refine sMi_of (by decide) (Nat.le_of_ble_eq_true rfl) ?_
  intro p e R s m args below meth c A Q ls H locs F hRf hRl I hl ret
  obtain ⟨hx, hb, hml, hown, hG⟩ := id F
  replace hl : lv_has ls 4 [(0, .ref (ad 16)), (1, .ref (ad 2))] := hl
  refine lv_iconst (v := (0 : Int32)) hx hb dX6_countStable_0 (by decide) ?_
  refine lv_istore_n (lv' := [(2, .int (0 : Int32)), (0, .ref (ad 16)), (1, .ref (ad 2))]) hx hb dX6_countStable_1 rfl hl (by decide) rfl (fun ls hl => ?_)
  refine lv_iconst (v := (0 : Int32)) hx hb dX6_countStable_2 (by decide) ?_
  refine lv_istore_n (lv' := [(3, .int (0 : Int32)), (2, .int (0 : Int32)), (0, .ref (ad 16)), (1, .ref (ad 2))]) hx hb dX6_countStable_3 rfl hl (by decide) rfl (fun ls hl => ?_)
  obtain ⟨r4, G5, hq1, hf⟩ := bd2_some hf
  have K1 : ∀ (H : Heap) (locs : List Loc), sInv D (cT cI cJ cD cS) (cW ad cI cJ cD cS) A s H locs (G5, E, Dd, P, L, pf) → ∀ (ls : Array Slot), lv_has ls 4 [(2, .int r4)] → W p l e R s m args below meth c H locs 0 0 Q (F0 m 30 ls []) := by
    intro H locs I ls hl
    refine lv_iload_n hx hb dX6_countStable_30 rfl (lv_at hl 0 rfl) ?_
    cases hf
    exact ret H locs _ ls I dX6_countStable_31
  have L1 : ∀ (n : Nat) (x1 : Int32) (x2 : Int32) (G3 : Nat → Nat → Int32), lp (fun q => C_SD_countStable_s1 q.1 q.2.1 q.2.2) n (x1, x2, G3) = some (r4, G5) → ∀ (H : Heap) (locs : List Loc), sInv D (cT cI cJ cD cS) (cW ad cI cJ cD cS) A s H locs (G3, E, Dd, P, L, pf) → ∀ (ls : Array Slot), lv_has ls 4 [(0, .ref (ad 16)), (1, .ref (ad 2)), (2, .int x1), (3, .int x2)] → W p l e R s m args below meth c H locs 0 0 Q (F0 m 4 ls []) := by
    intro n
    induction n with
    | zero => intro x1 x2 G3 hq; exact (lp_0 hq).elim
    | succ n ih1 =>
      intro x1 x2 G3 hq H locs I ls hl
      obtain ⟨y1, hf, hK1⟩ := lp_go hq
      replace hf : C_SD_countStable_s1 x1 x2 G3 = some y1 := hf
      unfold C_SD_countStable_s1 at hf
      refine lv_iload_n hx hb dX6_countStable_4 rfl (lv_at hl 3 rfl) ?_
      refine lv_aload_n hx hb dX6_countStable_5 rfl (lv_at hl 0 rfl) ?_
      refine kgtX6_9_16 F I dX6_countStable_6 ?_
      refine lv_icmp_ge (tgt := 30) hx hb dX6_countStable_9 (by decide) (fun c15 => ?_) (fun c15 => ?_)
      · replace hf := (if_pos c15).symm.trans hf
        cases hf
        cases (show (x1, G3) = (r4, G5) from hK1)
        exact K1 H locs I ls (lv_sub hl [2] rfl)
      · replace hf := (if_neg c15).symm.trans hf
        refine lv_aload_n hx hb dX6_countStable_12 rfl (lv_at hl 0 rfl) ?_
        refine lv_aload_n hx hb dX6_countStable_13 rfl (lv_at hl 1 rfl) ?_
        refine lv_iload_n hx hb dX6_countStable_14 rfl (lv_at hl 3 rfl) ?_
        obtain ⟨r6, G7, h8, hf⟩ := bd2_some hf
        refine s_callVi (As := [.ref (ad 2), .int x2]) (rest := []) F I (cC_SD_isStable G3 E Dd P L pf x2 r6 G7 h8) kX6_97 ⟨rfl, rfl⟩ ⟨Nat.le_trans (Nat.le_of_ble_eq_true rfl) hRf, Nat.le_trans (Nat.le_of_ble_eq_true rfl) hRl⟩ 16 6 rfl rfl rfl rfl rfl hl.1 (Nat.le_of_ble_eq_true rfl) ⟨Nat.zero_le _, Nat.zero_le _⟩ dX6_countStable_15 ?_
        intro H locs I
        obtain ⟨x10, hv12, hf⟩ := bd_some hf
        have J9 : ∀ (H : Heap) (locs : List Loc), sInv D (cT cI cJ cD cS) (cW ad cI cJ cD cS) A s H locs (G7, E, Dd, P, L, pf) → ∀ (ls : Array Slot), lv_has ls 4 [(0, .ref (ad 16)), (1, .ref (ad 2)), (2, .int x10), (3, .int x2)] → W p l e R s m args below meth c H locs 0 0 Q (F0 m 24 ls []) := by
          intro H locs I ls hl
          obtain ⟨x11, ex11⟩ : ∃ y : Int32, y = x2 + (1 : Int32) := ⟨_, rfl⟩
          replace hf := nm_some ex11 hf
          refine lv_iinc (v := x11) (lv' := [(3, .int x11), (0, .ref (ad 16)), (1, .ref (ad 2)), (2, .int x10)]) hx hb dX6_countStable_24 hl (k := 3) rfl (by rw [ex11]; rfl) (by decide) rfl (fun ls hl => ?_)
          refine lv_goto (tgt := 4) hx hb dX6_countStable_27 (by decide) ?_
          cases hf
          exact ih1 _ _ _ hK1 H locs I ls (lv_sub hl [1, 2, 3, 0] rfl)
        replace hf := hv12
        refine lv_if_eq (tgt := 24) hx hb dX6_countStable_18 (by decide) (fun c14 => ?_) (fun c14 => ?_)
        · replace hf := (if_pos c14).symm.trans hf
          cases hf
          exact J9 H locs I ls (lv_sub hl [0, 1, 2, 3] rfl)
        · replace hf := (if_neg c14).symm.trans hf
          obtain ⟨x13, ex13⟩ : ∃ y : Int32, y = x1 + (1 : Int32) := ⟨_, rfl⟩
          replace hf := nm_some ex13 hf
          refine lv_iinc (v := x13) (lv' := [(2, .int x13), (0, .ref (ad 16)), (1, .ref (ad 2)), (3, .int x2)]) hx hb dX6_countStable_21 hl (k := 2) rfl (by rw [ex13]; rfl) (by decide) rfl (fun ls hl => ?_)
          cases hf
          exact J9 H locs I ls (lv_sub hl [1, 2, 0, 3] rfl)
  exact L1 FU _ _ _ hq1 H locs I ls (lv_sub hl [2, 3, 1, 0] rfl)
def C_SD_numberOf (G : Nat → Nat → Int32) (a1 : Int32) : Option (Int32 × (Nat → Nat → Int32)) :=
if a1 = (0 : Int32) then
(bd (C_BO_find_22 G (G 21 0)) fun G2 =>
some (G2 32 0, G2))
else if a1 = (1 : Int32) then
(bd (C_BO_find_22 G (G 21 0)) fun G5 =>
some (G5 33 0, G5))
else if a1 = (2 : Int32) then
(bd (C_SD_findLayers G) fun G8 =>
some (G8 27 0, G8))
else if a1 = (3 : Int32) then
(bd (C_SD_findLayers G) fun G11 =>
some (G11 28 0, G11))
else if a1 = (4 : Int32) then
(bd (C_LE_countRings_22 G (G 21 0)) fun r14 =>
some (r14, G))
else (bd2 (C_SD_countStable G) fun r16 G17 =>
some (r16, G17))
set_option maxRecDepth 100000 in
set_option maxHeartbeats 4000000 in
theorem cC_SD_numberOf (G : Nat → Nat → Int32) (E : Nat → Nat → Int64) (Dd : Nat → Nat → UInt64) (P : Nat → Option Nat) (L : List Nat) (pf : Nat → va_E) (a1 : Int32) (rv : Int32) (newG : Nat → Nat → Int32) (hf : C_SD_numberOf G a1 = some (rv, newG)) : sMi D (cT cI cJ cD cS) (cW ad cI cJ cD cS) l yX6_numberOf (ws1 yX6_numberOf cX6_numberOf 3 (some .int)) ({ frames := 4, cells := 0, slots := 0, locals := 96 }) [.ref (ad 16), .ref (ad 2), .int a1] (G, E, Dd, P, L, pf) (rv, (newG, E, Dd, P, L, pf)) := by
  unfold C_SD_numberOf at hf
  refine sMi_of (by decide) (Nat.le_of_ble_eq_true rfl) ?_
  intro p e R s m args below meth c A Q ls H locs F hRf hRl I hl ret
  obtain ⟨hx, hb, hml, hown, hG⟩ := id F
  replace hl : lv_has ls 3 [(0, .ref (ad 16)), (1, .ref (ad 2)), (2, .int a1)] := hl
  refine lv_iload_n hx hb dX6_numberOf_0 rfl (lv_at hl 2 rfl) ?_
  by_cases c1 : a1 = (0 : Int32)
  · replace hf := (if_pos c1).symm.trans hf
    refine lv_tableIn (off := 35) (tgt := 36) hx hb dX6_numberOf_1 (by rw [c1]; decide) (by rw [c1]; decide) (by rw [c1]; rfl) (by decide) ?_
    refine lv_aload_n hx hb dX6_numberOf_36 rfl (lv_at hl 0 rfl) ?_
    refine kgtX6_51_16 F I dX6_numberOf_37 ?_
    refine lv_aload_n hx hb dX6_numberOf_40 rfl (lv_at hl 0 rfl) ?_
    refine kgtX6_22_16 F I dX6_numberOf_41 ?_
    refine lv_aload_n hx hb dX6_numberOf_44 rfl (lv_at hl 0 rfl) ?_
    refine kgtX6_9_16 F I dX6_numberOf_45 ?_
    obtain ⟨G2, h3, hf⟩ := bd_some hf
    refine s_callVv (As := [.ref (ad 22), .int (G 21 0)]) (rest := []) F I (cC_BO_find_22 G E Dd P L pf (G 21 0) G2 h3) kX6_107 ⟨rfl, rfl⟩ ⟨Nat.le_trans (Nat.le_of_ble_eq_true rfl) hRf, Nat.le_trans (Nat.le_of_ble_eq_true rfl) hRl⟩ 24 0 rfl rfl rfl rfl rfl hl.1 (Nat.le_of_ble_eq_true rfl) ⟨Nat.zero_le _, Nat.zero_le _⟩ dX6_numberOf_48 ?_
    intro H locs I
    refine lv_aload_n hx hb dX6_numberOf_51 rfl (lv_at hl 0 rfl) ?_
    refine kgtX6_51_16 F I dX6_numberOf_52 ?_
    refine kgtX6_114_24 F I dX6_numberOf_55 ?_
    cases hf
    exact ret H locs _ ls I dX6_numberOf_58
  replace hf := (if_neg c1).symm.trans hf
  by_cases c4 : a1 = (1 : Int32)
  · replace hf := (if_pos c4).symm.trans hf
    refine lv_tableIn (off := 58) (tgt := 59) hx hb dX6_numberOf_1 (by rw [c4]; decide) (by rw [c4]; decide) (by rw [c4]; rfl) (by decide) ?_
    refine lv_aload_n hx hb dX6_numberOf_59 rfl (lv_at hl 0 rfl) ?_
    refine kgtX6_51_16 F I dX6_numberOf_60 ?_
    refine lv_aload_n hx hb dX6_numberOf_63 rfl (lv_at hl 0 rfl) ?_
    refine kgtX6_22_16 F I dX6_numberOf_64 ?_
    refine lv_aload_n hx hb dX6_numberOf_67 rfl (lv_at hl 0 rfl) ?_
    refine kgtX6_9_16 F I dX6_numberOf_68 ?_
    obtain ⟨G5, h6, hf⟩ := bd_some hf
    refine s_callVv (As := [.ref (ad 22), .int (G 21 0)]) (rest := []) F I (cC_BO_find_22 G E Dd P L pf (G 21 0) G5 h6) kX6_107 ⟨rfl, rfl⟩ ⟨Nat.le_trans (Nat.le_of_ble_eq_true rfl) hRf, Nat.le_trans (Nat.le_of_ble_eq_true rfl) hRl⟩ 24 0 rfl rfl rfl rfl rfl hl.1 (Nat.le_of_ble_eq_true rfl) ⟨Nat.zero_le _, Nat.zero_le _⟩ dX6_numberOf_71 ?_
    intro H locs I
    refine lv_aload_n hx hb dX6_numberOf_74 rfl (lv_at hl 0 rfl) ?_
    refine kgtX6_51_16 F I dX6_numberOf_75 ?_
    refine kgtX6_117_24 F I dX6_numberOf_78 ?_
    cases hf
    exact ret H locs _ ls I dX6_numberOf_81
  replace hf := (if_neg c4).symm.trans hf
  by_cases c7 : a1 = (2 : Int32)
  · replace hf := (if_pos c7).symm.trans hf
    refine lv_tableIn (off := 81) (tgt := 82) hx hb dX6_numberOf_1 (by rw [c7]; decide) (by rw [c7]; decide) (by rw [c7]; rfl) (by decide) ?_
    refine lv_aload_n hx hb dX6_numberOf_82 rfl (lv_at hl 0 rfl) ?_
    obtain ⟨G8, h9, hf⟩ := bd_some hf
    refine s_callVv (As := []) (rest := []) F I (cC_SD_findLayers G E Dd P L pf G8 h9) kX6_104 ⟨rfl, rfl⟩ ⟨Nat.le_trans (Nat.le_of_ble_eq_true rfl) hRf, Nat.le_trans (Nat.le_of_ble_eq_true rfl) hRl⟩ 16 6 rfl rfl rfl rfl rfl hl.1 (Nat.le_of_ble_eq_true rfl) ⟨Nat.zero_le _, Nat.zero_le _⟩ dX6_numberOf_83 ?_
    intro H locs I
    refine lv_aload_n hx hb dX6_numberOf_86 rfl (lv_at hl 0 rfl) ?_
    refine kgtX6_38_16 F I dX6_numberOf_87 ?_
    cases hf
    exact ret H locs _ ls I dX6_numberOf_90
  replace hf := (if_neg c7).symm.trans hf
  by_cases c10 : a1 = (3 : Int32)
  · replace hf := (if_pos c10).symm.trans hf
    refine lv_tableIn (off := 90) (tgt := 91) hx hb dX6_numberOf_1 (by rw [c10]; decide) (by rw [c10]; decide) (by rw [c10]; rfl) (by decide) ?_
    refine lv_aload_n hx hb dX6_numberOf_91 rfl (lv_at hl 0 rfl) ?_
    obtain ⟨G11, h12, hf⟩ := bd_some hf
    refine s_callVv (As := []) (rest := []) F I (cC_SD_findLayers G E Dd P L pf G11 h12) kX6_104 ⟨rfl, rfl⟩ ⟨Nat.le_trans (Nat.le_of_ble_eq_true rfl) hRf, Nat.le_trans (Nat.le_of_ble_eq_true rfl) hRl⟩ 16 6 rfl rfl rfl rfl rfl hl.1 (Nat.le_of_ble_eq_true rfl) ⟨Nat.zero_le _, Nat.zero_le _⟩ dX6_numberOf_92 ?_
    intro H locs I
    refine lv_aload_n hx hb dX6_numberOf_95 rfl (lv_at hl 0 rfl) ?_
    refine kgtX6_41_16 F I dX6_numberOf_96 ?_
    cases hf
    exact ret H locs _ ls I dX6_numberOf_99
  replace hf := (if_neg c10).symm.trans hf
  by_cases c13 : a1 = (4 : Int32)
  · replace hf := (if_pos c13).symm.trans hf
    refine lv_tableIn (off := 99) (tgt := 100) hx hb dX6_numberOf_1 (by rw [c13]; decide) (by rw [c13]; decide) (by rw [c13]; rfl) (by decide) ?_
    refine lv_aload_n hx hb dX6_numberOf_100 rfl (lv_at hl 0 rfl) ?_
    refine kgtX6_22_16 F I dX6_numberOf_101 ?_
    refine lv_aload_n hx hb dX6_numberOf_104 rfl (lv_at hl 0 rfl) ?_
    refine kgtX6_9_16 F I dX6_numberOf_105 ?_
    obtain ⟨r14, h15, hf⟩ := bd_some hf
    refine s_callVi (As := [.int (G 21 0)]) (rest := []) F I (cC_LE_countRings_22 G E Dd P L pf (G 21 0) r14 h15) kX6_120 ⟨rfl, rfl⟩ ⟨Nat.le_trans (Nat.le_of_ble_eq_true rfl) hRf, Nat.le_trans (Nat.le_of_ble_eq_true rfl) hRl⟩ 22 3 rfl rfl rfl rfl rfl hl.1 (Nat.le_of_ble_eq_true rfl) ⟨Nat.zero_le _, Nat.zero_le _⟩ dX6_numberOf_108 ?_
    intro H locs I
    cases hf
    exact ret H locs _ ls I dX6_numberOf_111
  replace hf := (if_neg c13).symm.trans hf
  refine lv_tableOut (tgt := 112) hx hb dX6_numberOf_1 (tsw4 c1 c4 c7 c10 c13) (by decide) ?_
  refine lv_aload_n hx hb dX6_numberOf_112 rfl (lv_at hl 0 rfl) ?_
  refine lv_aload_n hx hb dX6_numberOf_113 rfl (lv_at hl 1 rfl) ?_
  obtain ⟨r16, G17, h18, hf⟩ := bd2_some hf
  refine s_callVi (As := [.ref (ad 2)]) (rest := []) F I (cC_SD_countStable G E Dd P L pf r16 G17 h18) kX6_123 ⟨rfl, rfl⟩ ⟨Nat.le_trans (Nat.le_of_ble_eq_true rfl) hRf, Nat.le_trans (Nat.le_of_ble_eq_true rfl) hRl⟩ 16 6 rfl rfl rfl rfl rfl hl.1 (Nat.le_of_ble_eq_true rfl) ⟨Nat.zero_le _, Nat.zero_le _⟩ dX6_numberOf_114 ?_
  intro H locs I
  cases hf
  exact ret H locs _ ls I dX6_numberOf_117
def C_SD_sampleAt (G : Nat → Nat → Int32) (a0 : Int32) : Option (Int32 × (Nat → Nat → Int32)) :=
bd (C_BO_find_22 G (G 21 0)) fun G1 =>
bd (C_BO_sampleAt G1 a0) fun r3 =>
some (r3, G1)
set_option maxRecDepth 100000 in
set_option maxHeartbeats 4000000 in
theorem cC_SD_sampleAt (G : Nat → Nat → Int32) (E : Nat → Nat → Int64) (Dd : Nat → Nat → UInt64) (P : Nat → Option Nat) (L : List Nat) (pf : Nat → va_E) (a0 : Int32) (rv : Int32) (newG : Nat → Nat → Int32) (hf : C_SD_sampleAt G a0 = some (rv, newG)) : sMi D (cT cI cJ cD cS) (cW ad cI cJ cD cS) l yX6_sampleAt (ws1 yX6_sampleAt cX6_sampleAt 2 (some .int)) ({ frames := 4, cells := 0, slots := 0, locals := 94 }) [.ref (ad 16), .int a0] (G, E, Dd, P, L, pf) (rv, (newG, E, Dd, P, L, pf)) := by
  unfold C_SD_sampleAt at hf
  refine sMi_of (by decide) (Nat.le_of_ble_eq_true rfl) ?_
  intro p e R s m args below meth c A Q ls H locs F hRf hRl I hl ret
  obtain ⟨hx, hb, hml, hown, hG⟩ := id F
  replace hl : lv_has ls 2 [(0, .ref (ad 16)), (1, .int a0)] := hl
  refine lv_aload_n hx hb dX6_sampleAt_0 rfl (lv_at hl 0 rfl) ?_
  refine kgtX6_51_16 F I dX6_sampleAt_1 ?_
  refine lv_aload_n hx hb dX6_sampleAt_4 rfl (lv_at hl 0 rfl) ?_
  refine kgtX6_22_16 F I dX6_sampleAt_5 ?_
  refine lv_aload_n hx hb dX6_sampleAt_8 rfl (lv_at hl 0 rfl) ?_
  refine kgtX6_9_16 F I dX6_sampleAt_9 ?_
  obtain ⟨G1, h2, hf⟩ := bd_some hf
  refine s_callVv (As := [.ref (ad 22), .int (G 21 0)]) (rest := []) F I (cC_BO_find_22 G E Dd P L pf (G 21 0) G1 h2) kX6_107 ⟨rfl, rfl⟩ ⟨Nat.le_trans (Nat.le_of_ble_eq_true rfl) hRf, Nat.le_trans (Nat.le_of_ble_eq_true rfl) hRl⟩ 24 0 rfl rfl rfl rfl rfl hl.1 (Nat.le_of_ble_eq_true rfl) ⟨Nat.zero_le _, Nat.zero_le _⟩ dX6_sampleAt_12 ?_
  intro H locs I
  refine lv_aload_n hx hb dX6_sampleAt_15 rfl (lv_at hl 0 rfl) ?_
  refine kgtX6_51_16 F I dX6_sampleAt_16 ?_
  refine lv_iload_n hx hb dX6_sampleAt_19 rfl (lv_at hl 1 rfl) ?_
  obtain ⟨r3, h4, hf⟩ := bd_some hf
  refine s_callVi (As := [.int a0]) (rest := []) F I (cC_BO_sampleAt G1 E Dd P L pf a0 r3 h4) kX6_127 ⟨rfl, rfl⟩ ⟨Nat.le_trans (Nat.le_of_ble_eq_true rfl) hRf, Nat.le_trans (Nat.le_of_ble_eq_true rfl) hRl⟩ 24 0 rfl rfl rfl rfl rfl hl.1 (Nat.le_of_ble_eq_true rfl) ⟨Nat.zero_le _, Nat.zero_le _⟩ dX6_sampleAt_20 ?_
  intro H locs I
  cases hf
  exact ret H locs _ ls I dX6_sampleAt_23
def C_JA_fill_i_10_s1 (a1 : Int32) (x1 : Int32) (G2 : Nat → Nat → Int32) : Option ((Int32 × (Nat → Nat → Int32)) ⊕ ((Nat → Nat → Int32))) :=
if (64 : Int32) ≤ x1 then
(some (.inr G2))
else
(ri 64 x1 <|
nm (wr G2 16 x1 a1) fun G5 =>
nm (x1 + (1 : Int32) : Int32) fun x6 =>
some (.inl (x6, G5)))
def C_JA_fill_i_10 (G : Nat → Nat → Int32) (a1 : Int32) : Option ((Nat → Nat → Int32)) :=
bd (lp (fun q => C_JA_fill_i_10_s1 a1 q.1 q.2) FU ((0 : Int32), G)) fun G3 =>
some G3
set_option maxRecDepth 100000 in
set_option maxHeartbeats 4000000 in
theorem cC_JA_fill_i_10 (G : Nat → Nat → Int32) (E : Nat → Nat → Int64) (Dd : Nat → Nat → UInt64) (P : Nat → Option Nat) (L : List Nat) (pf : Nat → va_E) (a1 : Int32)  (newG : Nat → Nat → Int32) (hf : C_JA_fill_i_10 G a1 = some newG) : sMv D (cT cI cJ cD cS) (cW ad cI cJ cD cS) l yJ7_fill_53178 (ws1 yJ7_fill_53178 cJ7_fill_53178 4 none) ({ frames := 0, cells := 0, slots := 0, locals := 0 }) [.ref (ad 10), .int a1] (G, E, Dd, P, L, pf) (newG, E, Dd, P, L, pf) := by
  unfold C_JA_fill_i_10 at hf
  refine sMv_of (by decide) (Nat.le_of_ble_eq_true rfl) ?_
  intro p e R s m args below meth c A Q ls H locs F hRf hRl I hl ret
  obtain ⟨hx, hb, hml, hown, hG⟩ := id F
  replace hl : lv_has ls 4 [(0, .ref (ad 10)), (1, .int a1)] := hl
  refine lv_iconst (v := (0 : Int32)) hx hb dJ7_fill_53178_0 (by decide) ?_
  refine lv_istore_n (lv' := [(2, .int (0 : Int32)), (0, .ref (ad 10)), (1, .int a1)]) hx hb dJ7_fill_53178_1 rfl hl (by decide) rfl (fun ls hl => ?_)
  refine lv_aload_n hx hb dJ7_fill_53178_2 rfl (lv_at hl 1 rfl) ?_
  refine kln10 F I dJ7_fill_53178_3 ?_
  refine lv_istore_n (lv' := [(3, .int (64 : Int32)), (2, .int (0 : Int32)), (0, .ref (ad 10)), (1, .int a1)]) hx hb dJ7_fill_53178_4 rfl hl (by decide) rfl (fun ls hl => ?_)
  obtain ⟨G3, hq1, hf⟩ := bd_some hf
  have K1 : ∀ (H : Heap) (locs : List Loc), sInv D (cT cI cJ cD cS) (cW ad cI cJ cD cS) A s H locs (G3, E, Dd, P, L, pf) → ∀ (ls : Array Slot), lv_has ls 4 [] → W p l e R s m args below meth c H locs 0 0 Q (F0 m 20 ls []) := by
    intro H locs I ls hl
    cases hf
    exact ret H locs _ ls I dJ7_fill_53178_20
  have L1 : ∀ (n : Nat) (x1 : Int32) (G2 : Nat → Nat → Int32), lp (fun q => C_JA_fill_i_10_s1 a1 q.1 q.2) n (x1, G2) = some G3 → ∀ (H : Heap) (locs : List Loc), sInv D (cT cI cJ cD cS) (cW ad cI cJ cD cS) A s H locs (G2, E, Dd, P, L, pf) → ∀ (ls : Array Slot), lv_has ls 4 [(0, .ref (ad 10)), (1, .int a1), (2, .int x1), (3, .int (64 : Int32))] → W p l e R s m args below meth c H locs 0 0 Q (F0 m 5 ls []) := by
    intro n
    induction n with
    | zero => intro x1 G2 hq; exact (lp_0 hq).elim
    | succ n ih1 =>
      intro x1 G2 hq H locs I ls hl
      obtain ⟨y1, hf, hK1⟩ := lp_go hq
      replace hf : C_JA_fill_i_10_s1 a1 x1 G2 = some y1 := hf
      unfold C_JA_fill_i_10_s1 at hf
      refine lv_iload_n hx hb dJ7_fill_53178_5 rfl (lv_at hl 2 rfl) ?_
      refine lv_iload_n hx hb dJ7_fill_53178_6 rfl (lv_at hl 3 rfl) ?_
      refine lv_icmp_ge (tgt := 20) hx hb dJ7_fill_53178_7 (by decide) (fun c7 => ?_) (fun c7 => ?_)
      · replace hf := (if_pos c7).symm.trans hf
        cases hf
        cases (show G2 = G3 from hK1)
        exact K1 H locs I ls (lv_sub hl [] rfl)
      · replace hf := (if_neg c7).symm.trans hf
        refine lv_aload_n hx hb dJ7_fill_53178_10 rfl (lv_at hl 0 rfl) ?_
        refine lv_iload_n hx hb dJ7_fill_53178_11 rfl (lv_at hl 2 rfl) ?_
        refine lv_iload_n hx hb dJ7_fill_53178_12 rfl (lv_at hl 1 rfl) ?_
        obtain ⟨g4, hf⟩ := ri_some hf
        refine kas10 F I g4 dJ7_fill_53178_13 ?_
        intro H locs G5 eG5 I
        replace hf := nm_some eG5 hf
        obtain ⟨x6, ex6⟩ : ∃ y : Int32, y = x1 + (1 : Int32) := ⟨_, rfl⟩
        replace hf := nm_some ex6 hf
        refine lv_iinc (v := x6) (lv' := [(2, .int x6), (0, .ref (ad 10)), (1, .int a1), (3, .int (64 : Int32))]) hx hb dJ7_fill_53178_14 hl (k := 2) rfl (by rw [ex6]; rfl) (by decide) rfl (fun ls hl => ?_)
        refine lv_goto (tgt := 5) hx hb dJ7_fill_53178_17 (by decide) ?_
        cases hf
        exact ih1 _ _ hK1 H locs I ls (lv_sub hl [1, 2, 0, 3] rfl)
  exact L1 FU _ _ hq1 H locs I ls (lv_sub hl [2, 3, 1, 0] rfl)
def C_JA_fill_i_11_s1 (a1 : Int32) (x1 : Int32) (G2 : Nat → Nat → Int32) : Option ((Int32 × (Nat → Nat → Int32)) ⊕ ((Nat → Nat → Int32))) :=
if (64 : Int32) ≤ x1 then
(some (.inr G2))
else
(ri 64 x1 <|
nm (wr G2 17 x1 a1) fun G5 =>
nm (x1 + (1 : Int32) : Int32) fun x6 =>
some (.inl (x6, G5)))
def C_JA_fill_i_11 (G : Nat → Nat → Int32) (a1 : Int32) : Option ((Nat → Nat → Int32)) :=
bd (lp (fun q => C_JA_fill_i_11_s1 a1 q.1 q.2) FU ((0 : Int32), G)) fun G3 =>
some G3
set_option maxRecDepth 100000 in
set_option maxHeartbeats 4000000 in
theorem cC_JA_fill_i_11 (G : Nat → Nat → Int32) (E : Nat → Nat → Int64) (Dd : Nat → Nat → UInt64) (P : Nat → Option Nat) (L : List Nat) (pf : Nat → va_E) (a1 : Int32)  (newG : Nat → Nat → Int32) (hf : C_JA_fill_i_11 G a1 = some newG) : sMv D (cT cI cJ cD cS) (cW ad cI cJ cD cS) l yJ7_fill_53178 (ws1 yJ7_fill_53178 cJ7_fill_53178 4 none) ({ frames := 0, cells := 0, slots := 0, locals := 0 }) [.ref (ad 11), .int a1] (G, E, Dd, P, L, pf) (newG, E, Dd, P, L, pf) := by
  unfold C_JA_fill_i_11 at hf
  refine sMv_of (by decide) (Nat.le_of_ble_eq_true rfl) ?_
  intro p e R s m args below meth c A Q ls H locs F hRf hRl I hl ret
  obtain ⟨hx, hb, hml, hown, hG⟩ := id F
  replace hl : lv_has ls 4 [(0, .ref (ad 11)), (1, .int a1)] := hl
  refine lv_iconst (v := (0 : Int32)) hx hb dJ7_fill_53178_0 (by decide) ?_
  refine lv_istore_n (lv' := [(2, .int (0 : Int32)), (0, .ref (ad 11)), (1, .int a1)]) hx hb dJ7_fill_53178_1 rfl hl (by decide) rfl (fun ls hl => ?_)
  refine lv_aload_n hx hb dJ7_fill_53178_2 rfl (lv_at hl 1 rfl) ?_
  refine kln11 F I dJ7_fill_53178_3 ?_
  refine lv_istore_n (lv' := [(3, .int (64 : Int32)), (2, .int (0 : Int32)), (0, .ref (ad 11)), (1, .int a1)]) hx hb dJ7_fill_53178_4 rfl hl (by decide) rfl (fun ls hl => ?_)
  obtain ⟨G3, hq1, hf⟩ := bd_some hf
  have K1 : ∀ (H : Heap) (locs : List Loc), sInv D (cT cI cJ cD cS) (cW ad cI cJ cD cS) A s H locs (G3, E, Dd, P, L, pf) → ∀ (ls : Array Slot), lv_has ls 4 [] → W p l e R s m args below meth c H locs 0 0 Q (F0 m 20 ls []) := by
    intro H locs I ls hl
    cases hf
    exact ret H locs _ ls I dJ7_fill_53178_20
  have L1 : ∀ (n : Nat) (x1 : Int32) (G2 : Nat → Nat → Int32), lp (fun q => C_JA_fill_i_11_s1 a1 q.1 q.2) n (x1, G2) = some G3 → ∀ (H : Heap) (locs : List Loc), sInv D (cT cI cJ cD cS) (cW ad cI cJ cD cS) A s H locs (G2, E, Dd, P, L, pf) → ∀ (ls : Array Slot), lv_has ls 4 [(0, .ref (ad 11)), (1, .int a1), (2, .int x1), (3, .int (64 : Int32))] → W p l e R s m args below meth c H locs 0 0 Q (F0 m 5 ls []) := by
    intro n
    induction n with
    | zero => intro x1 G2 hq; exact (lp_0 hq).elim
    | succ n ih1 =>
      intro x1 G2 hq H locs I ls hl
      obtain ⟨y1, hf, hK1⟩ := lp_go hq
      replace hf : C_JA_fill_i_11_s1 a1 x1 G2 = some y1 := hf
      unfold C_JA_fill_i_11_s1 at hf
      refine lv_iload_n hx hb dJ7_fill_53178_5 rfl (lv_at hl 2 rfl) ?_
      refine lv_iload_n hx hb dJ7_fill_53178_6 rfl (lv_at hl 3 rfl) ?_
      refine lv_icmp_ge (tgt := 20) hx hb dJ7_fill_53178_7 (by decide) (fun c7 => ?_) (fun c7 => ?_)
      · replace hf := (if_pos c7).symm.trans hf
        cases hf
        cases (show G2 = G3 from hK1)
        exact K1 H locs I ls (lv_sub hl [] rfl)
      · replace hf := (if_neg c7).symm.trans hf
        refine lv_aload_n hx hb dJ7_fill_53178_10 rfl (lv_at hl 0 rfl) ?_
        refine lv_iload_n hx hb dJ7_fill_53178_11 rfl (lv_at hl 2 rfl) ?_
        refine lv_iload_n hx hb dJ7_fill_53178_12 rfl (lv_at hl 1 rfl) ?_
        obtain ⟨g4, hf⟩ := ri_some hf
        refine kas11 F I g4 dJ7_fill_53178_13 ?_
        intro H locs G5 eG5 I
        replace hf := nm_some eG5 hf
        obtain ⟨x6, ex6⟩ : ∃ y : Int32, y = x1 + (1 : Int32) := ⟨_, rfl⟩
        replace hf := nm_some ex6 hf
        refine lv_iinc (v := x6) (lv' := [(2, .int x6), (0, .ref (ad 11)), (1, .int a1), (3, .int (64 : Int32))]) hx hb dJ7_fill_53178_14 hl (k := 2) rfl (by rw [ex6]; rfl) (by decide) rfl (fun ls hl => ?_)
        refine lv_goto (tgt := 5) hx hb dJ7_fill_53178_17 (by decide) ?_
        cases hf
        exact ih1 _ _ hK1 H locs I ls (lv_sub hl [1, 2, 0, 3] rfl)
  exact L1 FU _ _ hq1 H locs I ls (lv_sub hl [2, 3, 1, 0] rfl)
def C_TA_take_s1  (x5 : Int32) (G6 : Nat → Nat → Int32) : Option ((Int32 × (Nat → Nat → Int32)) ⊕ ((Nat → Nat → Int32))) :=
if G6 5 0 ≤ x5 then
(some (.inr G6))
else
(bd (C_CO_at G6 x5) fun r8 =>
nm (C_CO_answerOf r8) fun r10 =>
bd (if r10 = 0 then
(nm (C_CO_firstOf r8) fun r25 =>
nm (C_CO_secondOf r8) fun r27 =>
nm (C_LT_cell r25 r27) fun r29 =>
ri 64 r29 <|
ri 64 r29 <|
nm (wr G6 17 r29 ((G6 17 r29.toNatClampNeg) + (1 : Int32))) fun G33 =>
nm (C_CO_secondOf r8) fun r34 =>
nm (C_CO_firstOf r8) fun r36 =>
nm (C_LT_cell r34 r36) fun r38 =>
ri 64 r38 <|
ri 64 r38 <|
nm (wr G33 17 r38 ((G33 17 r38.toNatClampNeg) + (1 : Int32))) fun G42 =>
some G42)
else
(bd (C_CO_winnerOf r8) fun r16 =>
bd (C_CO_loserOf r8) fun r18 =>
nm (C_LT_cell r16 r18) fun r20 =>
ri 64 r20 <|
ri 64 r20 <|
nm (wr G6 16 r20 ((G6 16 r20.toNatClampNeg) + (1 : Int32))) fun G24 =>
some G24)) fun G13 =>
nm (x5 + (1 : Int32) : Int32) fun x14 =>
some (.inl (x14, G13)))
def C_TA_take (G : Nat → Nat → Int32) : Option ((Nat → Nat → Int32)) :=
bd (C_JA_fill_i_10 G (0 : Int32)) fun G1 =>
bd (C_JA_fill_i_11 G1 (0 : Int32)) fun G3 =>
bd (lp (fun q => C_TA_take_s1 q.1 q.2) FU ((0 : Int32), G3)) fun G7 =>
some G7
set_option maxRecDepth 100000 in
set_option maxHeartbeats 4000000 in
theorem cC_TA_take (G : Nat → Nat → Int32) (E : Nat → Nat → Int64) (Dd : Nat → Nat → UInt64) (P : Nat → Option Nat) (L : List Nat) (pf : Nat → va_E)   (newG : Nat → Nat → Int32) (hf : C_TA_take G = some newG) : sMv D (cT cI cJ cD cS) (cW ad cI cJ cD cS) l yX9_take (ws1 yX9_take cX9_take 4 none) ({ frames := 2, cells := 0, slots := 0, locals := 40 }) [.ref (ad 9), .ref (ad 2)] (G, E, Dd, P, L, pf) (newG, E, Dd, P, L, pf) := by
  unfold C_TA_take at hf
  refine sMv_of (by decide) (Nat.le_of_ble_eq_true rfl) ?_
  intro p e R s m args below meth c A Q ls H locs F hRf hRl I hl ret
  obtain ⟨hx, hb, hml, hown, hG⟩ := id F
  replace hl : lv_has ls 4 [(0, .ref (ad 9)), (1, .ref (ad 2))] := hl
  refine lv_aload_n hx hb dX9_take_0 rfl (lv_at hl 0 rfl) ?_
  refine kgtX9_9_9 F I dX9_take_1 ?_
  refine lv_iconst (v := (0 : Int32)) hx hb dX9_take_4 (by decide) ?_
  obtain ⟨G1, h2, hf⟩ := bd_some hf
  refine s_callSv (As := [.ref (ad 10), .int (0 : Int32)]) (rest := []) F I (cC_JA_fill_i_10 G E Dd P L pf (0 : Int32) G1 h2) kX9_18 ⟨rfl, rfl⟩ ⟨Nat.le_trans (Nat.le_of_ble_eq_true rfl) hRf, Nat.le_trans (Nat.le_of_ble_eq_true rfl) hRl⟩ rfl rfl hl.1 (Nat.le_of_ble_eq_true rfl) ⟨Nat.zero_le _, Nat.zero_le _⟩ dX9_take_5 ?_
  intro H locs I
  refine lv_aload_n hx hb dX9_take_8 rfl (lv_at hl 0 rfl) ?_
  refine kgtX9_15_9 F I dX9_take_9 ?_
  refine lv_iconst (v := (0 : Int32)) hx hb dX9_take_12 (by decide) ?_
  obtain ⟨G3, h4, hf⟩ := bd_some hf
  refine s_callSv (As := [.ref (ad 11), .int (0 : Int32)]) (rest := []) F I (cC_JA_fill_i_11 G1 E Dd P L pf (0 : Int32) G3 h4) kX9_18 ⟨rfl, rfl⟩ ⟨Nat.le_trans (Nat.le_of_ble_eq_true rfl) hRf, Nat.le_trans (Nat.le_of_ble_eq_true rfl) hRl⟩ rfl rfl hl.1 (Nat.le_of_ble_eq_true rfl) ⟨Nat.zero_le _, Nat.zero_le _⟩ dX9_take_13 ?_
  intro H locs I
  refine lv_iconst (v := (0 : Int32)) hx hb dX9_take_16 (by decide) ?_
  refine lv_istore_n (lv' := [(2, .int (0 : Int32)), (0, .ref (ad 9)), (1, .ref (ad 2))]) hx hb dX9_take_17 rfl hl (by decide) rfl (fun ls hl => ?_)
  obtain ⟨G7, hq1, hf⟩ := bd_some hf
  have K1 : ∀ (H : Heap) (locs : List Loc), sInv D (cT cI cJ cD cS) (cW ad cI cJ cD cS) A s H locs (G7, E, Dd, P, L, pf) → ∀ (ls : Array Slot), lv_has ls 4 [] → W p l e R s m args below meth c H locs 0 0 Q (F0 m 108 ls []) := by
    intro H locs I ls hl
    cases hf
    exact ret H locs _ ls I dX9_take_108
  have L1 : ∀ (n : Nat) (x5 : Int32) (G6 : Nat → Nat → Int32), lp (fun q => C_TA_take_s1 q.1 q.2) n (x5, G6) = some G7 → ∀ (H : Heap) (locs : List Loc), sInv D (cT cI cJ cD cS) (cW ad cI cJ cD cS) A s H locs (G6, E, Dd, P, L, pf) → ∀ (ls : Array Slot), lv_has ls 4 [(0, .ref (ad 9)), (1, .ref (ad 2)), (2, .int x5)] → W p l e R s m args below meth c H locs 0 0 Q (F0 m 18 ls []) := by
    intro n
    induction n with
    | zero => intro x5 G6 hq; exact (lp_0 hq).elim
    | succ n ih1 =>
      intro x5 G6 hq H locs I ls hl
      obtain ⟨y1, hf, hK1⟩ := lp_go hq
      replace hf : C_TA_take_s1 x5 G6 = some y1 := hf
      unfold C_TA_take_s1 at hf
      refine lv_iload_n hx hb dX9_take_18 rfl (lv_at hl 2 rfl) ?_
      refine lv_aload_n hx hb dX9_take_19 rfl (lv_at hl 1 rfl) ?_
      refine kgtX9_24_2 F I dX9_take_20 ?_
      refine lv_icmp_ge (tgt := 108) hx hb dX9_take_23 (by decide) (fun c44 => ?_) (fun c44 => ?_)
      · replace hf := (if_pos c44).symm.trans hf
        cases hf
        cases (show G6 = G7 from hK1)
        exact K1 H locs I ls (lv_sub hl [] rfl)
      · replace hf := (if_neg c44).symm.trans hf
        refine lv_aload_n hx hb dX9_take_26 rfl (lv_at hl 1 rfl) ?_
        refine lv_iload_n hx hb dX9_take_27 rfl (lv_at hl 2 rfl) ?_
        obtain ⟨r8, h9, hf⟩ := bd_some hf
        refine s_callVi (As := [.int x5]) (rest := []) F I (cC_CO_at G6 E Dd P L pf x5 r8 h9) kX9_30 ⟨rfl, rfl⟩ ⟨Nat.le_trans (Nat.le_of_ble_eq_true rfl) hRf, Nat.le_trans (Nat.le_of_ble_eq_true rfl) hRl⟩ 2 1 rfl rfl rfl rfl rfl hl.1 (Nat.le_of_ble_eq_true rfl) ⟨Nat.zero_le _, Nat.zero_le _⟩ dX9_take_28 ?_
        intro H locs I
        refine lv_istore_n (lv' := [(3, .int r8), (0, .ref (ad 9)), (1, .ref (ad 2)), (2, .int x5)]) hx hb dX9_take_31 rfl hl (by decide) rfl (fun ls hl => ?_)
        refine lv_iload_n hx hb dX9_take_32 rfl (lv_at hl 0 rfl) ?_
        obtain ⟨r10, h11⟩ : ∃ z, z = C_CO_answerOf r8 := ⟨_, rfl⟩
        replace hf := nm_some h11 hf
        refine s_callSi (As := [.int r8]) (rest := []) F I (cC_CO_answerOf G6 E Dd P L pf r8 r10 h11) kX9_34 ⟨rfl, rfl⟩ ⟨Nat.le_trans (Nat.le_of_ble_eq_true rfl) hRf, Nat.le_trans (Nat.le_of_ble_eq_true rfl) hRl⟩ rfl rfl hl.1 (Nat.le_of_ble_eq_true rfl) ⟨Nat.zero_le _, Nat.zero_le _⟩ dX9_take_33 ?_
        intro H locs I
        obtain ⟨G13, hv15, hf⟩ := bd_some hf
        have J12 : ∀ (H : Heap) (locs : List Loc), sInv D (cT cI cJ cD cS) (cW ad cI cJ cD cS) A s H locs (G13, E, Dd, P, L, pf) → ∀ (ls : Array Slot), lv_has ls 4 [(0, .ref (ad 9)), (1, .ref (ad 2)), (2, .int x5)] → W p l e R s m args below meth c H locs 0 0 Q (F0 m 102 ls []) := by
          intro H locs I ls hl
          obtain ⟨x14, ex14⟩ : ∃ y : Int32, y = x5 + (1 : Int32) := ⟨_, rfl⟩
          replace hf := nm_some ex14 hf
          refine lv_iinc (v := x14) (lv' := [(2, .int x14), (0, .ref (ad 9)), (1, .ref (ad 2))]) hx hb dX9_take_102 hl (k := 2) rfl (by rw [ex14]; rfl) (by decide) rfl (fun ls hl => ?_)
          refine lv_goto (tgt := 18) hx hb dX9_take_105 (by decide) ?_
          cases hf
          exact ih1 _ _ hK1 H locs I ls (lv_sub hl [1, 2, 0] rfl)
        replace hf := hv15
        refine lv_if_ne (tgt := 82) hx hb dX9_take_36 (by decide) (fun c43 => ?_) (fun c43 => ?_)
        · replace hf := (if_neg c43).symm.trans hf
          refine lv_aload_n hx hb dX9_take_82 rfl (lv_at hl 1 rfl) ?_
          refine kgtX9_9_9 F I dX9_take_83 ?_
          refine lv_iload_n hx hb dX9_take_86 rfl (lv_at hl 0 rfl) ?_
          obtain ⟨r16, h17, hf⟩ := bd_some hf
          refine s_callSi (As := [.int r8]) (rest := [.ref (ad 10)]) F I (cC_CO_winnerOf G6 E Dd P L pf r8 r16 h17) kX9_47 ⟨rfl, rfl⟩ ⟨Nat.le_trans (Nat.le_of_ble_eq_true rfl) hRf, Nat.le_trans (Nat.le_of_ble_eq_true rfl) hRl⟩ rfl rfl hl.1 (Nat.le_of_ble_eq_true rfl) ⟨Nat.zero_le _, Nat.zero_le _⟩ dX9_take_87 ?_
          intro H locs I
          refine lv_iload_n hx hb dX9_take_90 rfl (lv_at hl 0 rfl) ?_
          obtain ⟨r18, h19, hf⟩ := bd_some hf
          refine s_callSi (As := [.int r8]) (rest := [.int r16, .ref (ad 10)]) F I (cC_CO_loserOf G6 E Dd P L pf r8 r18 h19) kX9_50 ⟨rfl, rfl⟩ ⟨Nat.le_trans (Nat.le_of_ble_eq_true rfl) hRf, Nat.le_trans (Nat.le_of_ble_eq_true rfl) hRl⟩ rfl rfl hl.1 (Nat.le_of_ble_eq_true rfl) ⟨Nat.zero_le _, Nat.zero_le _⟩ dX9_take_91 ?_
          intro H locs I
          obtain ⟨r20, h21⟩ : ∃ z, z = C_LT_cell r16 r18 := ⟨_, rfl⟩
          replace hf := nm_some h21 hf
          refine s_callSNi (As := [.int r16, .int r18]) (rest := [.ref (ad 10)]) F I (cC_LT_cell G6 E Dd P L pf r16 r18 r20 h21) kX9_43 ⟨rfl, rfl⟩ ⟨Nat.le_trans (Nat.le_of_ble_eq_true rfl) hRf, Nat.le_trans (Nat.le_of_ble_eq_true rfl) hRl⟩ rfl rfl hl.1 (Nat.le_of_ble_eq_true rfl) ⟨Nat.zero_le _, Nat.zero_le _⟩ dX9_take_94 ?_
          intro H locs I
          refine lv_dup2_11 hx hb dX9_take_97 rfl rfl ?_
          obtain ⟨g22, hf⟩ := ri_some hf
          refine kal10 F I g22 dX9_take_98 ?_
          refine lv_iconst (v := (1 : Int32)) hx hb dX9_take_99 (by decide) ?_
          refine lv_iadd hx hb dX9_take_100 ?_
          obtain ⟨g23, hf⟩ := ri_some hf
          refine kas10 F I g23 dX9_take_101 ?_
          intro H locs G24 eG24 I
          replace hf := nm_some eG24 hf
          cases hf
          exact J12 H locs I ls (lv_sub hl [1, 2, 3] rfl)
        · replace hf := (if_pos c43).symm.trans hf
          refine lv_aload_n hx hb dX9_take_39 rfl (lv_at hl 1 rfl) ?_
          refine kgtX9_15_9 F I dX9_take_40 ?_
          refine lv_iload_n hx hb dX9_take_43 rfl (lv_at hl 0 rfl) ?_
          obtain ⟨r25, h26⟩ : ∃ z, z = C_CO_firstOf r8 := ⟨_, rfl⟩
          replace hf := nm_some h26 hf
          refine s_callSi (As := [.int r8]) (rest := [.ref (ad 11)]) F I (cC_CO_firstOf G6 E Dd P L pf r8 r25 h26) kX9_37 ⟨rfl, rfl⟩ ⟨Nat.le_trans (Nat.le_of_ble_eq_true rfl) hRf, Nat.le_trans (Nat.le_of_ble_eq_true rfl) hRl⟩ rfl rfl hl.1 (Nat.le_of_ble_eq_true rfl) ⟨Nat.zero_le _, Nat.zero_le _⟩ dX9_take_44 ?_
          intro H locs I
          refine lv_iload_n hx hb dX9_take_47 rfl (lv_at hl 0 rfl) ?_
          obtain ⟨r27, h28⟩ : ∃ z, z = C_CO_secondOf r8 := ⟨_, rfl⟩
          replace hf := nm_some h28 hf
          refine s_callSi (As := [.int r8]) (rest := [.int r25, .ref (ad 11)]) F I (cC_CO_secondOf G6 E Dd P L pf r8 r27 h28) kX9_40 ⟨rfl, rfl⟩ ⟨Nat.le_trans (Nat.le_of_ble_eq_true rfl) hRf, Nat.le_trans (Nat.le_of_ble_eq_true rfl) hRl⟩ rfl rfl hl.1 (Nat.le_of_ble_eq_true rfl) ⟨Nat.zero_le _, Nat.zero_le _⟩ dX9_take_48 ?_
          intro H locs I
          obtain ⟨r29, h30⟩ : ∃ z, z = C_LT_cell r25 r27 := ⟨_, rfl⟩
          replace hf := nm_some h30 hf
          refine s_callSNi (As := [.int r25, .int r27]) (rest := [.ref (ad 11)]) F I (cC_LT_cell G6 E Dd P L pf r25 r27 r29 h30) kX9_43 ⟨rfl, rfl⟩ ⟨Nat.le_trans (Nat.le_of_ble_eq_true rfl) hRf, Nat.le_trans (Nat.le_of_ble_eq_true rfl) hRl⟩ rfl rfl hl.1 (Nat.le_of_ble_eq_true rfl) ⟨Nat.zero_le _, Nat.zero_le _⟩ dX9_take_51 ?_
          intro H locs I
          refine lv_dup2_11 hx hb dX9_take_54 rfl rfl ?_
          obtain ⟨g31, hf⟩ := ri_some hf
          refine kal11 F I g31 dX9_take_55 ?_
          refine lv_iconst (v := (1 : Int32)) hx hb dX9_take_56 (by decide) ?_
          refine lv_iadd hx hb dX9_take_57 ?_
          obtain ⟨g32, hf⟩ := ri_some hf
          refine kas11 F I g32 dX9_take_58 ?_
          intro H locs G33 eG33 I
          replace hf := nm_some eG33 hf
          refine lv_aload_n hx hb dX9_take_59 rfl (lv_at hl 1 rfl) ?_
          refine kgtX9_15_9 F I dX9_take_60 ?_
          refine lv_iload_n hx hb dX9_take_63 rfl (lv_at hl 0 rfl) ?_
          obtain ⟨r34, h35⟩ : ∃ z, z = C_CO_secondOf r8 := ⟨_, rfl⟩
          replace hf := nm_some h35 hf
          refine s_callSi (As := [.int r8]) (rest := [.ref (ad 11)]) F I (cC_CO_secondOf G33 E Dd P L pf r8 r34 h35) kX9_40 ⟨rfl, rfl⟩ ⟨Nat.le_trans (Nat.le_of_ble_eq_true rfl) hRf, Nat.le_trans (Nat.le_of_ble_eq_true rfl) hRl⟩ rfl rfl hl.1 (Nat.le_of_ble_eq_true rfl) ⟨Nat.zero_le _, Nat.zero_le _⟩ dX9_take_64 ?_
          intro H locs I
          refine lv_iload_n hx hb dX9_take_67 rfl (lv_at hl 0 rfl) ?_
          obtain ⟨r36, h37⟩ : ∃ z, z = C_CO_firstOf r8 := ⟨_, rfl⟩
          replace hf := nm_some h37 hf
          refine s_callSi (As := [.int r8]) (rest := [.int r34, .ref (ad 11)]) F I (cC_CO_firstOf G33 E Dd P L pf r8 r36 h37) kX9_37 ⟨rfl, rfl⟩ ⟨Nat.le_trans (Nat.le_of_ble_eq_true rfl) hRf, Nat.le_trans (Nat.le_of_ble_eq_true rfl) hRl⟩ rfl rfl hl.1 (Nat.le_of_ble_eq_true rfl) ⟨Nat.zero_le _, Nat.zero_le _⟩ dX9_take_68 ?_
          intro H locs I
          obtain ⟨r38, h39⟩ : ∃ z, z = C_LT_cell r34 r36 := ⟨_, rfl⟩
          replace hf := nm_some h39 hf
          refine s_callSNi (As := [.int r34, .int r36]) (rest := [.ref (ad 11)]) F I (cC_LT_cell G33 E Dd P L pf r34 r36 r38 h39) kX9_43 ⟨rfl, rfl⟩ ⟨Nat.le_trans (Nat.le_of_ble_eq_true rfl) hRf, Nat.le_trans (Nat.le_of_ble_eq_true rfl) hRl⟩ rfl rfl hl.1 (Nat.le_of_ble_eq_true rfl) ⟨Nat.zero_le _, Nat.zero_le _⟩ dX9_take_71 ?_
          intro H locs I
          refine lv_dup2_11 hx hb dX9_take_74 rfl rfl ?_
          obtain ⟨g40, hf⟩ := ri_some hf
          refine kal11 F I g40 dX9_take_75 ?_
          refine lv_iconst (v := (1 : Int32)) hx hb dX9_take_76 (by decide) ?_
          refine lv_iadd hx hb dX9_take_77 ?_
          obtain ⟨g41, hf⟩ := ri_some hf
          refine kas11 F I g41 dX9_take_78 ?_
          intro H locs G42 eG42 I
          replace hf := nm_some eG42 hf
          refine lv_goto (tgt := 102) hx hb dX9_take_79 (by decide) ?_
          cases hf
          exact J12 H locs I ls (lv_sub hl [1, 2, 3] rfl)
  exact L1 FU _ _ hq1 H locs I ls (lv_sub hl [1, 2, 0] rfl)
end Meth
