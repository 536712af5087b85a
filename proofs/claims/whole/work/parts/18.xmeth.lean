/-! THROW MODE: which exception a call throws, and the memory that it leaves -/
def xc {α : Type} (m k : Option α) : Option α := match m with
  | some r => some r
  | none => k
theorem xc_cases {α : Type} {m k : Option α} {r : α} (h : xc m k = some r) : m = some r ∨ (m = none ∧ k = some r) := by
  cases m with
  | none => exact Or.inr ⟨rfl, h⟩
  | some a => exact Or.inl h
section XM
variable {D : va_G} {l : Launch} {ad : Nat → Nat} {cI cJ cD cS : ClassId}
def X_LT_requireIndex (G : Nat → Nat → Int32) (E : Nat → Nat → Int64) (a0 : Int32) (a1 : Int32) : Option (String × (Nat → Nat → Int32) × (Nat → Nat → Int64)) :=
if a0 < 0 then
(some ("java/lang/IndexOutOfBoundsException", G, E))
else
(if a0 < a1 then
(none)
else
(some ("java/lang/IndexOutOfBoundsException", G, E)))
set_option maxRecDepth 100000 in
set_option maxHeartbeats 4000000 in
theorem xX_LT_requireIndex (G : Nat → Nat → Int32) (E : Nat → Nat → Int64) (Dd : Nat → Nat → UInt64) (P : Nat → Option PRec) (Z : List PRec) (hl0 : l.stackTraces = false) (a0 : Int32) (a1 : Int32) (ex : String) (newG : Nat → Nat → Int32) (newE : Nat → Nat → Int64) (hf : X_LT_requireIndex G E a0 a1 = some (ex, newG, newE)) : sX D (cT cI cJ cD cS) (cW ad cI cJ cD cS) l yX11_requireIndex (ws1 yX11_requireIndex cX11_requireIndex 2 none) ({ frames := 6, cells := 1, slots := 6, locals := 82 }) [.int a0, .int a1] (G, E, Dd, P, Z) (newG, newE, Dd, P, Z) ex := by
  unfold X_LT_requireIndex at hf
  refine sX_of (by decide) (Nat.le_of_ble_eq_true rfl) ?_
  intro p e R s m args below meth c A ls F hRf hRl hRc hRs htab hlk I hX hl
  obtain ⟨hx, hb, hml, hown, hG⟩ := id F
  replace hl : lv_has ls 2 [(0, .int a0), (1, .int a1)] := hl
  refine lv_iload_n hx hb dX11_requireIndex_0 rfl (lv_at hl 0 rfl) ?_
  refine lv_if_lt (tgt := 9) hx hb dX11_requireIndex_1 (by decide) (fun c2 => ?_) (fun c2 => ?_)
  · replace hf := (if_pos c2).symm.trans hf
    cases hf
    exact x_thrW (ik := 344) (is := 346) (ic := 348) (text := "there is no such number") F I hX hl0 htab hlk hl.1 (by decide +kernel) q868 q123 (by decide) (xatB hG hX) xgoB (Nat.le_trans (Nat.le_of_ble_eq_true rfl) hRf) (Nat.le_trans (Nat.le_of_ble_eq_true rfl) hRl) hRc hRs dX11_requireIndex_9 dX11_requireIndex_12 dX11_requireIndex_13 dX11_requireIndex_16 dX11_requireIndex_19
  · replace hf := (if_neg c2).symm.trans hf
    refine lv_iload_n hx hb dX11_requireIndex_4 rfl (lv_at hl 0 rfl) ?_
    refine lv_iload_n hx hb dX11_requireIndex_5 rfl (lv_at hl 1 rfl) ?_
    refine lv_icmp_lt (tgt := 20) hx hb dX11_requireIndex_6 (by decide) (fun c1 => ?_) (fun c1 => ?_)
    · replace hf := (if_pos c1).symm.trans hf
      cases hf
    · replace hf := (if_neg c1).symm.trans hf
      cases hf
      exact x_thrW (ik := 344) (is := 346) (ic := 348) (text := "there is no such number") F I hX hl0 htab hlk hl.1 (by decide +kernel) q868 q123 (by decide) (xatB hG hX) xgoB (Nat.le_trans (Nat.le_of_ble_eq_true rfl) hRf) (Nat.le_trans (Nat.le_of_ble_eq_true rfl) hRl) hRc hRs dX11_requireIndex_9 dX11_requireIndex_12 dX11_requireIndex_13 dX11_requireIndex_16 dX11_requireIndex_19
def X_LT_requireArgument (G : Nat → Nat → Int32) (E : Nat → Nat → Int64) (a0 : Int32) : Option (String × (Nat → Nat → Int32) × (Nat → Nat → Int64)) :=
if a0 = 0 then
(some ("java/lang/IllegalArgumentException", G, E))
else
(none)
set_option maxRecDepth 100000 in
set_option maxHeartbeats 4000000 in
theorem xX_LT_requireArgument (G : Nat → Nat → Int32) (E : Nat → Nat → Int64) (Dd : Nat → Nat → UInt64) (P : Nat → Option PRec) (Z : List PRec) (hl0 : l.stackTraces = false) (a0 : Int32) (ex : String) (newG : Nat → Nat → Int32) (newE : Nat → Nat → Int64) (hf : X_LT_requireArgument G E a0 = some (ex, newG, newE)) : sX D (cT cI cJ cD cS) (cW ad cI cJ cD cS) l yX11_requireArgument (ws1 yX11_requireArgument cX11_requireArgument 1 none) ({ frames := 6, cells := 1, slots := 6, locals := 82 }) [.int a0] (G, E, Dd, P, Z) (newG, newE, Dd, P, Z) ex := by
  unfold X_LT_requireArgument at hf
  refine sX_of (by decide) (Nat.le_of_ble_eq_true rfl) ?_
  intro p e R s m args below meth c A ls F hRf hRl hRc hRs htab hlk I hX hl
  obtain ⟨hx, hb, hml, hown, hG⟩ := id F
  replace hl : lv_has ls 1 [(0, .int a0)] := hl
  refine lv_iload_n hx hb dX11_requireArgument_0 rfl (lv_at hl 0 rfl) ?_
  refine lv_if_ne (tgt := 15) hx hb dX11_requireArgument_1 (by decide) (fun c1 => ?_) (fun c1 => ?_)
  · replace hf := (if_neg c1).symm.trans hf
    cases hf
  · replace hf := (if_pos c1).symm.trans hf
    cases hf
    exact x_thrW (ik := 349) (is := 351) (ic := 353) (text := "an argument is not allowed") F I hX hl0 htab hlk hl.1 (by decide +kernel) q789 q122 (by decide) (xatA hG hX) xgoA (Nat.le_trans (Nat.le_of_ble_eq_true rfl) hRf) (Nat.le_trans (Nat.le_of_ble_eq_true rfl) hRl) hRc hRs dX11_requireArgument_4 dX11_requireArgument_7 dX11_requireArgument_8 dX11_requireArgument_11 dX11_requireArgument_14
def X_LT_requireRoom (G : Nat → Nat → Int32) (E : Nat → Nat → Int64) (a0 : Int32) : Option (String × (Nat → Nat → Int32) × (Nat → Nat → Int64)) :=
if (G 5 0) + a0 ≤ (48 : Int32) then
(none)
else
(some ("java/lang/IllegalStateException", G, E))
set_option maxRecDepth 100000 in
set_option maxHeartbeats 4000000 in
theorem xX_LT_requireRoom (G : Nat → Nat → Int32) (E : Nat → Nat → Int64) (Dd : Nat → Nat → UInt64) (P : Nat → Option PRec) (Z : List PRec) (hl0 : l.stackTraces = false) (a0 : Int32) (ex : String) (newG : Nat → Nat → Int32) (newE : Nat → Nat → Int64) (hf : X_LT_requireRoom G E a0 = some (ex, newG, newE)) : sX D (cT cI cJ cD cS) (cW ad cI cJ cD cS) l yX11_requireRoom (ws1 yX11_requireRoom cX11_requireRoom 2 none) ({ frames := 6, cells := 1, slots := 6, locals := 82 }) [.ref (ad 0), .int a0] (G, E, Dd, P, Z) (newG, newE, Dd, P, Z) ex := by
  unfold X_LT_requireRoom at hf
  refine sX_of (by decide) (Nat.le_of_ble_eq_true rfl) ?_
  intro p e R s m args below meth c A ls F hRf hRl hRc hRs htab hlk I hX hl
  obtain ⟨hx, hb, hml, hown, hG⟩ := id F
  replace hl : lv_has ls 2 [(0, .ref (ad 0)), (1, .int a0)] := hl
  refine lv_aload_n hx hb dX11_requireRoom_0 rfl (lv_at hl 0 rfl) ?_
  refine kgtX11_16_0 F I dX11_requireRoom_1 ?_
  refine kgtX11_149_2 F I dX11_requireRoom_4 ?_
  refine lv_iload_n hx hb dX11_requireRoom_7 rfl (lv_at hl 1 rfl) ?_
  refine lv_iadd hx hb dX11_requireRoom_8 ?_
  refine lv_bipush (v := (48 : Int32)) hx hb dX11_requireRoom_9 (by decide) ?_
  refine lv_icmp_le (tgt := 25) hx hb dX11_requireRoom_11 (by decide) (fun c1 => ?_) (fun c1 => ?_)
  · replace hf := (if_pos c1).symm.trans hf
    cases hf
  · replace hf := (if_neg c1).symm.trans hf
    cases hf
    exact x_thrW (ik := 106) (is := 342) (ic := 110) (text := "too many comparisons") F I hX hl0 htab hlk hl.1 (by decide +kernel) q938 q125 (by decide) (xatS hG hX) xgoS (Nat.le_trans (Nat.le_of_ble_eq_true rfl) hRf) (Nat.le_trans (Nat.le_of_ble_eq_true rfl) hRl) hRc hRs dX11_requireRoom_14 dX11_requireRoom_17 dX11_requireRoom_18 dX11_requireRoom_21 dX11_requireRoom_24
def X_LT_requireAnswer (G : Nat → Nat → Int32) (E : Nat → Nat → Int64) (a0 : Int32) : Option (String × (Nat → Nat → Int32) × (Nat → Nat → Int64)) :=
if a0 < 0 then
(xc (X_LT_requireArgument G E (0 : Int32)) <|
none)
else
(if (2 : Int32) < a0 then
(xc (X_LT_requireArgument G E (0 : Int32)) <|
none)
else
(xc (X_LT_requireArgument G E (1 : Int32)) <|
none))
set_option maxRecDepth 100000 in
set_option maxHeartbeats 4000000 in
theorem xX_LT_requireAnswer (G : Nat → Nat → Int32) (E : Nat → Nat → Int64) (Dd : Nat → Nat → UInt64) (P : Nat → Option PRec) (Z : List PRec) (hl0 : l.stackTraces = false) (a0 : Int32) (ex : String) (newG : Nat → Nat → Int32) (newE : Nat → Nat → Int64) (hf : X_LT_requireAnswer G E a0 = some (ex, newG, newE)) : sX D (cT cI cJ cD cS) (cW ad cI cJ cD cS) l yX11_requireAnswer (ws1 yX11_requireAnswer cX11_requireAnswer 1 none) ({ frames := 7, cells := 1, slots := 6, locals := 102 }) [.int a0] (G, E, Dd, P, Z) (newG, newE, Dd, P, Z) ex := by
  unfold X_LT_requireAnswer at hf
  refine sX_of (by decide) (Nat.le_of_ble_eq_true rfl) ?_
  intro p e R s m args below meth c A ls F hRf hRl hRc hRs htab hlk I hX hl
  obtain ⟨hx, hb, hml, hown, hG⟩ := id F
  replace hl : lv_has ls 1 [(0, .int a0)] := hl
  refine lv_iload_n hx hb dX11_requireAnswer_0 rfl (lv_at hl 0 rfl) ?_
  refine lv_if_lt (tgt := 13) hx hb dX11_requireAnswer_1 (by decide) (fun c8 => ?_) (fun c8 => ?_)
  · replace hf := (if_pos c8).symm.trans hf
    refine lv_iconst (v := (0 : Int32)) hx hb dX11_requireAnswer_13 (by decide) ?_
    rcases xc_cases hf with hx1 | ⟨hn2, hf⟩
    · exact x_callS (As := [.int (0 : Int32)]) (rest := []) F I hX htab hlk (xX_LT_requireArgument _ _ _ _ _ hl0 _ _ _ _ hx1) kX11_76 ⟨rfl, rfl⟩ ⟨Nat.le_trans (Nat.le_of_ble_eq_true rfl) hRf, Nat.le_trans (Nat.le_of_ble_eq_true rfl) hRl⟩ rfl rfl hl.1 (Nat.le_of_ble_eq_true rfl) ⟨hRc, hRs⟩ dX11_requireAnswer_14
    cases hf
  · replace hf := (if_neg c8).symm.trans hf
    refine lv_iload_n hx hb dX11_requireAnswer_4 rfl (lv_at hl 0 rfl) ?_
    refine lv_iconst (v := (2 : Int32)) hx hb dX11_requireAnswer_5 (by decide) ?_
    refine lv_icmp_gt (tgt := 13) hx hb dX11_requireAnswer_6 (by decide) (fun c7 => ?_) (fun c7 => ?_)
    · replace hf := (if_pos c7).symm.trans hf
      refine lv_iconst (v := (0 : Int32)) hx hb dX11_requireAnswer_13 (by decide) ?_
      rcases xc_cases hf with hx3 | ⟨hn4, hf⟩
      · exact x_callS (As := [.int (0 : Int32)]) (rest := []) F I hX htab hlk (xX_LT_requireArgument _ _ _ _ _ hl0 _ _ _ _ hx3) kX11_76 ⟨rfl, rfl⟩ ⟨Nat.le_trans (Nat.le_of_ble_eq_true rfl) hRf, Nat.le_trans (Nat.le_of_ble_eq_true rfl) hRl⟩ rfl rfl hl.1 (Nat.le_of_ble_eq_true rfl) ⟨hRc, hRs⟩ dX11_requireAnswer_14
      cases hf
    · replace hf := (if_neg c7).symm.trans hf
      refine lv_iconst (v := (1 : Int32)) hx hb dX11_requireAnswer_9 (by decide) ?_
      refine lv_goto (tgt := 14) hx hb dX11_requireAnswer_10 (by decide) ?_
      rcases xc_cases hf with hx5 | ⟨hn6, hf⟩
      · exact x_callS (As := [.int (1 : Int32)]) (rest := []) F I hX htab hlk (xX_LT_requireArgument _ _ _ _ _ hl0 _ _ _ _ hx5) kX11_76 ⟨rfl, rfl⟩ ⟨Nat.le_trans (Nat.le_of_ble_eq_true rfl) hRf, Nat.le_trans (Nat.le_of_ble_eq_true rfl) hRl⟩ rfl rfl hl.1 (Nat.le_of_ble_eq_true rfl) ⟨hRc, hRs⟩ dX11_requireAnswer_14
      cases hf
def X_LT_begin (G : Nat → Nat → Int32) (E : Nat → Nat → Int64) (P : Nat → Option PRec) (a0 : Int32) (a1 : Int32) : Option (String × (Nat → Nat → Int32) × (Nat → Nat → Int64)) :=
if a0 < (2 : Int32) then
(xc (X_LT_requireArgument G E (0 : Int32)) <|
bd0 (C_LT_requireArgument (0 : Int32)) <|
if a1 < (1 : Int32) then
(xc (X_LT_requireArgument G E (0 : Int32)) <|
none)
else
(if (8 : Int32) < a1 then
(xc (X_LT_requireArgument G E (0 : Int32)) <|
none)
else
(xc (X_LT_requireArgument G E (1 : Int32)) <|
none)))
else
(if (8 : Int32) < a0 then
(xc (X_LT_requireArgument G E (0 : Int32)) <|
bd0 (C_LT_requireArgument (0 : Int32)) <|
if a1 < (1 : Int32) then
(xc (X_LT_requireArgument G E (0 : Int32)) <|
none)
else
(if (8 : Int32) < a1 then
(xc (X_LT_requireArgument G E (0 : Int32)) <|
none)
else
(xc (X_LT_requireArgument G E (1 : Int32)) <|
none)))
else
(xc (X_LT_requireArgument G E (1 : Int32)) <|
bd0 (C_LT_requireArgument (1 : Int32)) <|
if a1 < (1 : Int32) then
(xc (X_LT_requireArgument G E (0 : Int32)) <|
none)
else
(if (8 : Int32) < a1 then
(xc (X_LT_requireArgument G E (0 : Int32)) <|
none)
else
(xc (X_LT_requireArgument G E (1 : Int32)) <|
none))))
set_option maxRecDepth 100000 in
set_option maxHeartbeats 4000000 in
theorem xX_LT_begin (G : Nat → Nat → Int32) (E : Nat → Nat → Int64) (Dd : Nat → Nat → UInt64) (P : Nat → Option PRec) (Z : List PRec) (hPZ : ∀ (k : Nat) (z : PRec), P k = some z → z ∈ Z) (hl0 : l.stackTraces = false) (a0 : Int32) (a1 : Int32) (ex : String) (newG : Nat → Nat → Int32) (newE : Nat → Nat → Int64) (hf : X_LT_begin G E P a0 a1 = some (ex, newG, newE)) : sX D (cT cI cJ cD cS) (cW ad cI cJ cD cS) l yX11_begin (ws1 yX11_begin cX11_begin 3 (some .int)) ({ frames := 7, cells := 1, slots := 6, locals := 102 }) [.ref (ad 0), .int a0, .int a1] (G, E, Dd, P, Z) (newG, newE, Dd, P, Z) ex := by
  unfold X_LT_begin at hf
  refine sX_of (by decide) (Nat.le_of_ble_eq_true rfl) ?_
  intro p e R s m args below meth c A ls F hRf hRl hRc hRs htab hlk I hX hl
  obtain ⟨hx, hb, hml, hown, hG⟩ := id F
  replace hl : lv_has ls 3 [(0, .ref (ad 0)), (1, .int a0), (2, .int a1)] := hl
  refine lv_iload_n hx hb dX11_begin_0 rfl (lv_at hl 1 rfl) ?_
  refine lv_iconst (v := (2 : Int32)) hx hb dX11_begin_1 (by decide) ?_
  refine lv_icmp_lt (tgt := 15) hx hb dX11_begin_2 (by decide) (fun c38 => ?_) (fun c38 => ?_)
  · replace hf := (if_pos c38).symm.trans hf
    refine lv_iconst (v := (0 : Int32)) hx hb dX11_begin_15 (by decide) ?_
    rcases xc_cases hf with hx1 | ⟨hn2, hf⟩
    · exact x_callS (As := [.int (0 : Int32)]) (rest := []) F I hX htab hlk (xX_LT_requireArgument _ _ _ _ _ hl0 _ _ _ _ hx1) kX11_76 ⟨rfl, rfl⟩ ⟨Nat.le_trans (Nat.le_of_ble_eq_true rfl) hRf, Nat.le_trans (Nat.le_of_ble_eq_true rfl) hRl⟩ rfl rfl hl.1 (Nat.le_of_ble_eq_true rfl) ⟨hRc, hRs⟩ dX11_begin_16
    obtain ⟨h3, hf⟩ := bd0_some hf
    refine s_callSv (As := [.int (0 : Int32)]) (rest := []) F I (cC_LT_requireArgument G E Dd P Z (0 : Int32) h3) kX11_76 ⟨rfl, rfl⟩ ⟨Nat.le_trans (Nat.le_of_ble_eq_true rfl) hRf, Nat.le_trans (Nat.le_of_ble_eq_true rfl) hRl⟩ rfl rfl hl.1 (Nat.le_of_ble_eq_true rfl) ⟨Nat.zero_le _, Nat.zero_le _⟩ dX11_begin_16 ?_
    intro H_4 lo_4 I_4
    refine lv_iload_n hx hb dX11_begin_19 rfl (lv_at hl 2 rfl) ?_
    refine lv_iconst (v := (1 : Int32)) hx hb dX11_begin_20 (by decide) ?_
    refine lv_icmp_lt (tgt := 34) hx hb dX11_begin_21 (by decide) (fun c12 => ?_) (fun c12 => ?_)
    · replace hf := (if_pos c12).symm.trans hf
      refine lv_iconst (v := (0 : Int32)) hx hb dX11_begin_34 (by decide) ?_
      rcases xc_cases hf with hx5 | ⟨hn6, hf⟩
      · exact x_callS (As := [.int (0 : Int32)]) (rest := []) F I_4 hX htab hlk (xX_LT_requireArgument _ _ _ _ _ hl0 _ _ _ _ hx5) kX11_76 ⟨rfl, rfl⟩ ⟨Nat.le_trans (Nat.le_of_ble_eq_true rfl) hRf, Nat.le_trans (Nat.le_of_ble_eq_true rfl) hRl⟩ rfl rfl hl.1 (Nat.le_of_ble_eq_true rfl) ⟨hRc, hRs⟩ dX11_begin_35
      cases hf
    · replace hf := (if_neg c12).symm.trans hf
      refine lv_iload_n hx hb dX11_begin_24 rfl (lv_at hl 2 rfl) ?_
      refine lv_bipush (v := (8 : Int32)) hx hb dX11_begin_25 (by decide) ?_
      refine lv_icmp_gt (tgt := 34) hx hb dX11_begin_27 (by decide) (fun c11 => ?_) (fun c11 => ?_)
      · replace hf := (if_pos c11).symm.trans hf
        refine lv_iconst (v := (0 : Int32)) hx hb dX11_begin_34 (by decide) ?_
        rcases xc_cases hf with hx7 | ⟨hn8, hf⟩
        · exact x_callS (As := [.int (0 : Int32)]) (rest := []) F I_4 hX htab hlk (xX_LT_requireArgument _ _ _ _ _ hl0 _ _ _ _ hx7) kX11_76 ⟨rfl, rfl⟩ ⟨Nat.le_trans (Nat.le_of_ble_eq_true rfl) hRf, Nat.le_trans (Nat.le_of_ble_eq_true rfl) hRl⟩ rfl rfl hl.1 (Nat.le_of_ble_eq_true rfl) ⟨hRc, hRs⟩ dX11_begin_35
        cases hf
      · replace hf := (if_neg c11).symm.trans hf
        refine lv_iconst (v := (1 : Int32)) hx hb dX11_begin_30 (by decide) ?_
        refine lv_goto (tgt := 35) hx hb dX11_begin_31 (by decide) ?_
        rcases xc_cases hf with hx9 | ⟨hn10, hf⟩
        · exact x_callS (As := [.int (1 : Int32)]) (rest := []) F I_4 hX htab hlk (xX_LT_requireArgument _ _ _ _ _ hl0 _ _ _ _ hx9) kX11_76 ⟨rfl, rfl⟩ ⟨Nat.le_trans (Nat.le_of_ble_eq_true rfl) hRf, Nat.le_trans (Nat.le_of_ble_eq_true rfl) hRl⟩ rfl rfl hl.1 (Nat.le_of_ble_eq_true rfl) ⟨hRc, hRs⟩ dX11_begin_35
        cases hf
  · replace hf := (if_neg c38).symm.trans hf
    refine lv_iload_n hx hb dX11_begin_5 rfl (lv_at hl 1 rfl) ?_
    refine lv_bipush (v := (8 : Int32)) hx hb dX11_begin_6 (by decide) ?_
    refine lv_icmp_gt (tgt := 15) hx hb dX11_begin_8 (by decide) (fun c37 => ?_) (fun c37 => ?_)
    · replace hf := (if_pos c37).symm.trans hf
      refine lv_iconst (v := (0 : Int32)) hx hb dX11_begin_15 (by decide) ?_
      rcases xc_cases hf with hx13 | ⟨hn14, hf⟩
      · exact x_callS (As := [.int (0 : Int32)]) (rest := []) F I hX htab hlk (xX_LT_requireArgument _ _ _ _ _ hl0 _ _ _ _ hx13) kX11_76 ⟨rfl, rfl⟩ ⟨Nat.le_trans (Nat.le_of_ble_eq_true rfl) hRf, Nat.le_trans (Nat.le_of_ble_eq_true rfl) hRl⟩ rfl rfl hl.1 (Nat.le_of_ble_eq_true rfl) ⟨hRc, hRs⟩ dX11_begin_16
      obtain ⟨h15, hf⟩ := bd0_some hf
      refine s_callSv (As := [.int (0 : Int32)]) (rest := []) F I (cC_LT_requireArgument G E Dd P Z (0 : Int32) h15) kX11_76 ⟨rfl, rfl⟩ ⟨Nat.le_trans (Nat.le_of_ble_eq_true rfl) hRf, Nat.le_trans (Nat.le_of_ble_eq_true rfl) hRl⟩ rfl rfl hl.1 (Nat.le_of_ble_eq_true rfl) ⟨Nat.zero_le _, Nat.zero_le _⟩ dX11_begin_16 ?_
      intro H_16 lo_16 I_16
      refine lv_iload_n hx hb dX11_begin_19 rfl (lv_at hl 2 rfl) ?_
      refine lv_iconst (v := (1 : Int32)) hx hb dX11_begin_20 (by decide) ?_
      refine lv_icmp_lt (tgt := 34) hx hb dX11_begin_21 (by decide) (fun c24 => ?_) (fun c24 => ?_)
      · replace hf := (if_pos c24).symm.trans hf
        refine lv_iconst (v := (0 : Int32)) hx hb dX11_begin_34 (by decide) ?_
        rcases xc_cases hf with hx17 | ⟨hn18, hf⟩
        · exact x_callS (As := [.int (0 : Int32)]) (rest := []) F I_16 hX htab hlk (xX_LT_requireArgument _ _ _ _ _ hl0 _ _ _ _ hx17) kX11_76 ⟨rfl, rfl⟩ ⟨Nat.le_trans (Nat.le_of_ble_eq_true rfl) hRf, Nat.le_trans (Nat.le_of_ble_eq_true rfl) hRl⟩ rfl rfl hl.1 (Nat.le_of_ble_eq_true rfl) ⟨hRc, hRs⟩ dX11_begin_35
        cases hf
      · replace hf := (if_neg c24).symm.trans hf
        refine lv_iload_n hx hb dX11_begin_24 rfl (lv_at hl 2 rfl) ?_
        refine lv_bipush (v := (8 : Int32)) hx hb dX11_begin_25 (by decide) ?_
        refine lv_icmp_gt (tgt := 34) hx hb dX11_begin_27 (by decide) (fun c23 => ?_) (fun c23 => ?_)
        · replace hf := (if_pos c23).symm.trans hf
          refine lv_iconst (v := (0 : Int32)) hx hb dX11_begin_34 (by decide) ?_
          rcases xc_cases hf with hx19 | ⟨hn20, hf⟩
          · exact x_callS (As := [.int (0 : Int32)]) (rest := []) F I_16 hX htab hlk (xX_LT_requireArgument _ _ _ _ _ hl0 _ _ _ _ hx19) kX11_76 ⟨rfl, rfl⟩ ⟨Nat.le_trans (Nat.le_of_ble_eq_true rfl) hRf, Nat.le_trans (Nat.le_of_ble_eq_true rfl) hRl⟩ rfl rfl hl.1 (Nat.le_of_ble_eq_true rfl) ⟨hRc, hRs⟩ dX11_begin_35
          cases hf
        · replace hf := (if_neg c23).symm.trans hf
          refine lv_iconst (v := (1 : Int32)) hx hb dX11_begin_30 (by decide) ?_
          refine lv_goto (tgt := 35) hx hb dX11_begin_31 (by decide) ?_
          rcases xc_cases hf with hx21 | ⟨hn22, hf⟩
          · exact x_callS (As := [.int (1 : Int32)]) (rest := []) F I_16 hX htab hlk (xX_LT_requireArgument _ _ _ _ _ hl0 _ _ _ _ hx21) kX11_76 ⟨rfl, rfl⟩ ⟨Nat.le_trans (Nat.le_of_ble_eq_true rfl) hRf, Nat.le_trans (Nat.le_of_ble_eq_true rfl) hRl⟩ rfl rfl hl.1 (Nat.le_of_ble_eq_true rfl) ⟨hRc, hRs⟩ dX11_begin_35
          cases hf
    · replace hf := (if_neg c37).symm.trans hf
      refine lv_iconst (v := (1 : Int32)) hx hb dX11_begin_11 (by decide) ?_
      refine lv_goto (tgt := 16) hx hb dX11_begin_12 (by decide) ?_
      rcases xc_cases hf with hx25 | ⟨hn26, hf⟩
      · exact x_callS (As := [.int (1 : Int32)]) (rest := []) F I hX htab hlk (xX_LT_requireArgument _ _ _ _ _ hl0 _ _ _ _ hx25) kX11_76 ⟨rfl, rfl⟩ ⟨Nat.le_trans (Nat.le_of_ble_eq_true rfl) hRf, Nat.le_trans (Nat.le_of_ble_eq_true rfl) hRl⟩ rfl rfl hl.1 (Nat.le_of_ble_eq_true rfl) ⟨hRc, hRs⟩ dX11_begin_16
      obtain ⟨h27, hf⟩ := bd0_some hf
      refine s_callSv (As := [.int (1 : Int32)]) (rest := []) F I (cC_LT_requireArgument G E Dd P Z (1 : Int32) h27) kX11_76 ⟨rfl, rfl⟩ ⟨Nat.le_trans (Nat.le_of_ble_eq_true rfl) hRf, Nat.le_trans (Nat.le_of_ble_eq_true rfl) hRl⟩ rfl rfl hl.1 (Nat.le_of_ble_eq_true rfl) ⟨Nat.zero_le _, Nat.zero_le _⟩ dX11_begin_16 ?_
      intro H_28 lo_28 I_28
      refine lv_iload_n hx hb dX11_begin_19 rfl (lv_at hl 2 rfl) ?_
      refine lv_iconst (v := (1 : Int32)) hx hb dX11_begin_20 (by decide) ?_
      refine lv_icmp_lt (tgt := 34) hx hb dX11_begin_21 (by decide) (fun c36 => ?_) (fun c36 => ?_)
      · replace hf := (if_pos c36).symm.trans hf
        refine lv_iconst (v := (0 : Int32)) hx hb dX11_begin_34 (by decide) ?_
        rcases xc_cases hf with hx29 | ⟨hn30, hf⟩
        · exact x_callS (As := [.int (0 : Int32)]) (rest := []) F I_28 hX htab hlk (xX_LT_requireArgument _ _ _ _ _ hl0 _ _ _ _ hx29) kX11_76 ⟨rfl, rfl⟩ ⟨Nat.le_trans (Nat.le_of_ble_eq_true rfl) hRf, Nat.le_trans (Nat.le_of_ble_eq_true rfl) hRl⟩ rfl rfl hl.1 (Nat.le_of_ble_eq_true rfl) ⟨hRc, hRs⟩ dX11_begin_35
        cases hf
      · replace hf := (if_neg c36).symm.trans hf
        refine lv_iload_n hx hb dX11_begin_24 rfl (lv_at hl 2 rfl) ?_
        refine lv_bipush (v := (8 : Int32)) hx hb dX11_begin_25 (by decide) ?_
        refine lv_icmp_gt (tgt := 34) hx hb dX11_begin_27 (by decide) (fun c35 => ?_) (fun c35 => ?_)
        · replace hf := (if_pos c35).symm.trans hf
          refine lv_iconst (v := (0 : Int32)) hx hb dX11_begin_34 (by decide) ?_
          rcases xc_cases hf with hx31 | ⟨hn32, hf⟩
          · exact x_callS (As := [.int (0 : Int32)]) (rest := []) F I_28 hX htab hlk (xX_LT_requireArgument _ _ _ _ _ hl0 _ _ _ _ hx31) kX11_76 ⟨rfl, rfl⟩ ⟨Nat.le_trans (Nat.le_of_ble_eq_true rfl) hRf, Nat.le_trans (Nat.le_of_ble_eq_true rfl) hRl⟩ rfl rfl hl.1 (Nat.le_of_ble_eq_true rfl) ⟨hRc, hRs⟩ dX11_begin_35
          cases hf
        · replace hf := (if_neg c35).symm.trans hf
          refine lv_iconst (v := (1 : Int32)) hx hb dX11_begin_30 (by decide) ?_
          refine lv_goto (tgt := 35) hx hb dX11_begin_31 (by decide) ?_
          rcases xc_cases hf with hx33 | ⟨hn34, hf⟩
          · exact x_callS (As := [.int (1 : Int32)]) (rest := []) F I_28 hX htab hlk (xX_LT_requireArgument _ _ _ _ _ hl0 _ _ _ _ hx33) kX11_76 ⟨rfl, rfl⟩ ⟨Nat.le_trans (Nat.le_of_ble_eq_true rfl) hRf, Nat.le_trans (Nat.le_of_ble_eq_true rfl) hRl⟩ rfl rfl hl.1 (Nat.le_of_ble_eq_true rfl) ⟨hRc, hRs⟩ dX11_begin_35
          cases hf
def X_LT_setWeight (G : Nat → Nat → Int32) (E : Nat → Nat → Int64) (a0 : Int32) (a1 : Int32) : Option (String × (Nat → Nat → Int32) × (Nat → Nat → Int64)) :=
xc (X_LT_requireIndex G E a0 (G 1 0)) <|
bd0 (C_LT_requireIndex a0 (G 1 0)) <|
if a1 < 0 then
(xc (X_LT_requireArgument G E (0 : Int32)) <|
none)
else
(if (9 : Int32) < a1 then
(xc (X_LT_requireArgument G E (0 : Int32)) <|
none)
else
(xc (X_LT_requireArgument G E (1 : Int32)) <|
none))
set_option maxRecDepth 100000 in
set_option maxHeartbeats 4000000 in
theorem xX_LT_setWeight (G : Nat → Nat → Int32) (E : Nat → Nat → Int64) (Dd : Nat → Nat → UInt64) (P : Nat → Option PRec) (Z : List PRec) (hl0 : l.stackTraces = false) (a0 : Int32) (a1 : Int32) (ex : String) (newG : Nat → Nat → Int32) (newE : Nat → Nat → Int64) (hf : X_LT_setWeight G E a0 a1 = some (ex, newG, newE)) : sX D (cT cI cJ cD cS) (cW ad cI cJ cD cS) l yX11_setWeight (ws1 yX11_setWeight cX11_setWeight 4 (some .int)) ({ frames := 7, cells := 1, slots := 6, locals := 103 }) [.ref (ad 0), .int a0, .int a1] (G, E, Dd, P, Z) (newG, newE, Dd, P, Z) ex := by
  unfold X_LT_setWeight at hf
  refine sX_of (by decide) (Nat.le_of_ble_eq_true rfl) ?_
  intro p e R s m args below meth c A ls F hRf hRl hRc hRs htab hlk I hX hl
  obtain ⟨hx, hb, hml, hown, hG⟩ := id F
  replace hl : lv_has ls 4 [(0, .ref (ad 0)), (1, .int a0), (2, .int a1)] := hl
  refine lv_iload_n hx hb dX11_setWeight_0 rfl (lv_at hl 1 rfl) ?_
  refine lv_aload_n hx hb dX11_setWeight_1 rfl (lv_at hl 0 rfl) ?_
  refine kgtX11_80_0 F I dX11_setWeight_2 ?_
  rcases xc_cases hf with hx1 | ⟨hn2, hf⟩
  · exact x_callS (As := [.int a0, .int (G 1 0)]) (rest := []) F I hX htab hlk (xX_LT_requireIndex _ _ _ _ _ hl0 _ _ _ _ _ hx1) kX11_84 ⟨rfl, rfl⟩ ⟨Nat.le_trans (Nat.le_of_ble_eq_true rfl) hRf, Nat.le_trans (Nat.le_of_ble_eq_true rfl) hRl⟩ rfl rfl hl.1 (Nat.le_of_ble_eq_true rfl) ⟨hRc, hRs⟩ dX11_setWeight_5
  obtain ⟨h3, hf⟩ := bd0_some hf
  refine s_callSv (As := [.int a0, .int (G 1 0)]) (rest := []) F I (cC_LT_requireIndex G E Dd P Z a0 (G 1 0) h3) kX11_84 ⟨rfl, rfl⟩ ⟨Nat.le_trans (Nat.le_of_ble_eq_true rfl) hRf, Nat.le_trans (Nat.le_of_ble_eq_true rfl) hRl⟩ rfl rfl hl.1 (Nat.le_of_ble_eq_true rfl) ⟨Nat.zero_le _, Nat.zero_le _⟩ dX11_setWeight_5 ?_
  intro H_4 lo_4 I_4
  refine lv_iload_n hx hb dX11_setWeight_8 rfl (lv_at hl 2 rfl) ?_
  refine lv_if_lt (tgt := 22) hx hb dX11_setWeight_9 (by decide) (fun c12 => ?_) (fun c12 => ?_)
  · replace hf := (if_pos c12).symm.trans hf
    refine lv_iconst (v := (0 : Int32)) hx hb dX11_setWeight_22 (by decide) ?_
    rcases xc_cases hf with hx5 | ⟨hn6, hf⟩
    · exact x_callS (As := [.int (0 : Int32)]) (rest := []) F I_4 hX htab hlk (xX_LT_requireArgument _ _ _ _ _ hl0 _ _ _ _ hx5) kX11_76 ⟨rfl, rfl⟩ ⟨Nat.le_trans (Nat.le_of_ble_eq_true rfl) hRf, Nat.le_trans (Nat.le_of_ble_eq_true rfl) hRl⟩ rfl rfl hl.1 (Nat.le_of_ble_eq_true rfl) ⟨hRc, hRs⟩ dX11_setWeight_23
    cases hf
  · replace hf := (if_neg c12).symm.trans hf
    refine lv_iload_n hx hb dX11_setWeight_12 rfl (lv_at hl 2 rfl) ?_
    refine lv_bipush (v := (9 : Int32)) hx hb dX11_setWeight_13 (by decide) ?_
    refine lv_icmp_gt (tgt := 22) hx hb dX11_setWeight_15 (by decide) (fun c11 => ?_) (fun c11 => ?_)
    · replace hf := (if_pos c11).symm.trans hf
      refine lv_iconst (v := (0 : Int32)) hx hb dX11_setWeight_22 (by decide) ?_
      rcases xc_cases hf with hx7 | ⟨hn8, hf⟩
      · exact x_callS (As := [.int (0 : Int32)]) (rest := []) F I_4 hX htab hlk (xX_LT_requireArgument _ _ _ _ _ hl0 _ _ _ _ hx7) kX11_76 ⟨rfl, rfl⟩ ⟨Nat.le_trans (Nat.le_of_ble_eq_true rfl) hRf, Nat.le_trans (Nat.le_of_ble_eq_true rfl) hRl⟩ rfl rfl hl.1 (Nat.le_of_ble_eq_true rfl) ⟨hRc, hRs⟩ dX11_setWeight_23
      cases hf
    · replace hf := (if_neg c11).symm.trans hf
      refine lv_iconst (v := (1 : Int32)) hx hb dX11_setWeight_18 (by decide) ?_
      refine lv_goto (tgt := 23) hx hb dX11_setWeight_19 (by decide) ?_
      rcases xc_cases hf with hx9 | ⟨hn10, hf⟩
      · exact x_callS (As := [.int (1 : Int32)]) (rest := []) F I_4 hX htab hlk (xX_LT_requireArgument _ _ _ _ _ hl0 _ _ _ _ hx9) kX11_76 ⟨rfl, rfl⟩ ⟨Nat.le_trans (Nat.le_of_ble_eq_true rfl) hRf, Nat.le_trans (Nat.le_of_ble_eq_true rfl) hRl⟩ rfl rfl hl.1 (Nat.le_of_ble_eq_true rfl) ⟨hRc, hRs⟩ dX11_setWeight_23
      cases hf
def X_LT_plan (G : Nat → Nat → Int32) (E : Nat → Nat → Int64) (P : Nat → Option PRec) (a0 : Int32) (a1 : Int32) (a2 : Int32) : Option (String × (Nat → Nat → Int32) × (Nat → Nat → Int64)) :=
xc (X_LT_requireIndex G E a0 (G 1 0)) <|
bd0 (C_LT_requireIndex a0 (G 1 0)) <|
if a1 = (1 : Int32) then
(if a2 < 0 then
(xc (X_LT_requireArgument G E (0 : Int32)) <|
none)
else
(xc (X_LT_requireArgument G E (1 : Int32)) <|
none))
else
(if a1 = (2 : Int32) then
(if a2 < 0 then
(xc (X_LT_requireArgument G E (0 : Int32)) <|
none)
else
(xc (X_LT_requireArgument G E (1 : Int32)) <|
none))
else
(xc (X_LT_requireArgument G E (0 : Int32)) <|
none))
set_option maxRecDepth 100000 in
set_option maxHeartbeats 4000000 in
theorem xX_LT_plan (G : Nat → Nat → Int32) (E : Nat → Nat → Int64) (Dd : Nat → Nat → UInt64) (P : Nat → Option PRec) (Z : List PRec) (hPZ : ∀ (k : Nat) (z : PRec), P k = some z → z ∈ Z) (hl0 : l.stackTraces = false) (a0 : Int32) (a1 : Int32) (a2 : Int32) (ex : String) (newG : Nat → Nat → Int32) (newE : Nat → Nat → Int64) (hf : X_LT_plan G E P a0 a1 a2 = some (ex, newG, newE)) : sX D (cT cI cJ cD cS) (cW ad cI cJ cD cS) l yX11_plan (ws1 yX11_plan cX11_plan 5 (some .int)) ({ frames := 7, cells := 1, slots := 6, locals := 103 }) [.ref (ad 0), .int a0, .int a1, .int a2] (G, E, Dd, P, Z) (newG, newE, Dd, P, Z) ex := by
  unfold X_LT_plan at hf
  refine sX_of (by decide) (Nat.le_of_ble_eq_true rfl) ?_
  intro p e R s m args below meth c A ls F hRf hRl hRc hRs htab hlk I hX hl
  obtain ⟨hx, hb, hml, hown, hG⟩ := id F
  replace hl : lv_has ls 5 [(0, .ref (ad 0)), (1, .int a0), (2, .int a1), (3, .int a2)] := hl
  refine lv_iload_n hx hb dX11_plan_0 rfl (lv_at hl 1 rfl) ?_
  refine lv_aload_n hx hb dX11_plan_1 rfl (lv_at hl 0 rfl) ?_
  refine kgtX11_80_0 F I dX11_plan_2 ?_
  rcases xc_cases hf with hx1 | ⟨hn2, hf⟩
  · exact x_callS (As := [.int a0, .int (G 1 0)]) (rest := []) F I hX htab hlk (xX_LT_requireIndex _ _ _ _ _ hl0 _ _ _ _ _ hx1) kX11_84 ⟨rfl, rfl⟩ ⟨Nat.le_trans (Nat.le_of_ble_eq_true rfl) hRf, Nat.le_trans (Nat.le_of_ble_eq_true rfl) hRl⟩ rfl rfl hl.1 (Nat.le_of_ble_eq_true rfl) ⟨hRc, hRs⟩ dX11_plan_5
  obtain ⟨h3, hf⟩ := bd0_some hf
  refine s_callSv (As := [.int a0, .int (G 1 0)]) (rest := []) F I (cC_LT_requireIndex G E Dd P Z a0 (G 1 0) h3) kX11_84 ⟨rfl, rfl⟩ ⟨Nat.le_trans (Nat.le_of_ble_eq_true rfl) hRf, Nat.le_trans (Nat.le_of_ble_eq_true rfl) hRl⟩ rfl rfl hl.1 (Nat.le_of_ble_eq_true rfl) ⟨Nat.zero_le _, Nat.zero_le _⟩ dX11_plan_5 ?_
  intro H_4 lo_4 I_4
  refine lv_iload_n hx hb dX11_plan_8 rfl (lv_at hl 2 rfl) ?_
  refine lv_iconst (v := (1 : Int32)) hx hb dX11_plan_9 (by decide) ?_
  refine lv_icmp_eq (tgt := 18) hx hb dX11_plan_10 (by decide) (fun c18 => ?_) (fun c18 => ?_)
  · replace hf := (if_pos c18).symm.trans hf
    refine lv_iload_n hx hb dX11_plan_18 rfl (lv_at hl 3 rfl) ?_
    refine lv_if_lt (tgt := 26) hx hb dX11_plan_19 (by decide) (fun c9 => ?_) (fun c9 => ?_)
    · replace hf := (if_pos c9).symm.trans hf
      refine lv_iconst (v := (0 : Int32)) hx hb dX11_plan_26 (by decide) ?_
      rcases xc_cases hf with hx5 | ⟨hn6, hf⟩
      · exact x_callS (As := [.int (0 : Int32)]) (rest := []) F I_4 hX htab hlk (xX_LT_requireArgument _ _ _ _ _ hl0 _ _ _ _ hx5) kX11_76 ⟨rfl, rfl⟩ ⟨Nat.le_trans (Nat.le_of_ble_eq_true rfl) hRf, Nat.le_trans (Nat.le_of_ble_eq_true rfl) hRl⟩ rfl rfl hl.1 (Nat.le_of_ble_eq_true rfl) ⟨hRc, hRs⟩ dX11_plan_27
      cases hf
    · replace hf := (if_neg c9).symm.trans hf
      refine lv_iconst (v := (1 : Int32)) hx hb dX11_plan_22 (by decide) ?_
      refine lv_goto (tgt := 27) hx hb dX11_plan_23 (by decide) ?_
      rcases xc_cases hf with hx7 | ⟨hn8, hf⟩
      · exact x_callS (As := [.int (1 : Int32)]) (rest := []) F I_4 hX htab hlk (xX_LT_requireArgument _ _ _ _ _ hl0 _ _ _ _ hx7) kX11_76 ⟨rfl, rfl⟩ ⟨Nat.le_trans (Nat.le_of_ble_eq_true rfl) hRf, Nat.le_trans (Nat.le_of_ble_eq_true rfl) hRl⟩ rfl rfl hl.1 (Nat.le_of_ble_eq_true rfl) ⟨hRc, hRs⟩ dX11_plan_27
      cases hf
  · replace hf := (if_neg c18).symm.trans hf
    refine lv_iload_n hx hb dX11_plan_13 rfl (lv_at hl 2 rfl) ?_
    refine lv_iconst (v := (2 : Int32)) hx hb dX11_plan_14 (by decide) ?_
    refine lv_icmp_ne (tgt := 26) hx hb dX11_plan_15 (by decide) (fun c17 => ?_) (fun c17 => ?_)
    · replace hf := (if_neg c17).symm.trans hf
      refine lv_iconst (v := (0 : Int32)) hx hb dX11_plan_26 (by decide) ?_
      rcases xc_cases hf with hx10 | ⟨hn11, hf⟩
      · exact x_callS (As := [.int (0 : Int32)]) (rest := []) F I_4 hX htab hlk (xX_LT_requireArgument _ _ _ _ _ hl0 _ _ _ _ hx10) kX11_76 ⟨rfl, rfl⟩ ⟨Nat.le_trans (Nat.le_of_ble_eq_true rfl) hRf, Nat.le_trans (Nat.le_of_ble_eq_true rfl) hRl⟩ rfl rfl hl.1 (Nat.le_of_ble_eq_true rfl) ⟨hRc, hRs⟩ dX11_plan_27
      cases hf
    · replace hf := (if_pos c17).symm.trans hf
      refine lv_iload_n hx hb dX11_plan_18 rfl (lv_at hl 3 rfl) ?_
      refine lv_if_lt (tgt := 26) hx hb dX11_plan_19 (by decide) (fun c16 => ?_) (fun c16 => ?_)
      · replace hf := (if_pos c16).symm.trans hf
        refine lv_iconst (v := (0 : Int32)) hx hb dX11_plan_26 (by decide) ?_
        rcases xc_cases hf with hx12 | ⟨hn13, hf⟩
        · exact x_callS (As := [.int (0 : Int32)]) (rest := []) F I_4 hX htab hlk (xX_LT_requireArgument _ _ _ _ _ hl0 _ _ _ _ hx12) kX11_76 ⟨rfl, rfl⟩ ⟨Nat.le_trans (Nat.le_of_ble_eq_true rfl) hRf, Nat.le_trans (Nat.le_of_ble_eq_true rfl) hRl⟩ rfl rfl hl.1 (Nat.le_of_ble_eq_true rfl) ⟨hRc, hRs⟩ dX11_plan_27
        cases hf
      · replace hf := (if_neg c16).symm.trans hf
        refine lv_iconst (v := (1 : Int32)) hx hb dX11_plan_22 (by decide) ?_
        refine lv_goto (tgt := 27) hx hb dX11_plan_23 (by decide) ?_
        rcases xc_cases hf with hx14 | ⟨hn15, hf⟩
        · exact x_callS (As := [.int (1 : Int32)]) (rest := []) F I_4 hX htab hlk (xX_LT_requireArgument _ _ _ _ _ hl0 _ _ _ _ hx14) kX11_76 ⟨rfl, rfl⟩ ⟨Nat.le_trans (Nat.le_of_ble_eq_true rfl) hRf, Nat.le_trans (Nat.le_of_ble_eq_true rfl) hRl⟩ rfl rfl hl.1 (Nat.le_of_ble_eq_true rfl) ⟨hRc, hRs⟩ dX11_plan_27
        cases hf
def X_LT_trial (G : Nat → Nat → Int32) (E : Nat → Nat → Int64) (P : Nat → Option PRec) (a0 : Int32) (a1 : Int32) : Option (String × (Nat → Nat → Int32) × (Nat → Nat → Int64)) :=
oc (P 0) (some ("java/lang/IllegalStateException", G, E)) (fun z1 => nm (P_size z1.2.2.2.1) fun r4 =>
xc (X_LT_requireIndex G E a0 r4) <|
none)
set_option maxRecDepth 100000 in
set_option maxHeartbeats 4000000 in
theorem xX_LT_trial (G : Nat → Nat → Int32) (E : Nat → Nat → Int64) (Dd : Nat → Nat → UInt64) (P : Nat → Option PRec) (Z : List PRec) (hPZ : ∀ (k : Nat) (z : PRec), P k = some z → z ∈ Z) (hl0 : l.stackTraces = false) (a0 : Int32) (a1 : Int32) (ex : String) (newG : Nat → Nat → Int32) (newE : Nat → Nat → Int64) (hf : X_LT_trial G E P a0 a1 = some (ex, newG, newE)) : sX D (cT cI cJ cD cS) (cW ad cI cJ cD cS) l yX11_trial (ws1 yX11_trial cX11_trial 4 (some .int)) ({ frames := 7, cells := 1, slots := 6, locals := 103 }) [.ref (ad 0), .int a0, .int a1] (G, E, Dd, P, Z) (newG, newE, Dd, P, Z) ex := by
  unfold X_LT_trial at hf
  refine sX_of (by decide) (Nat.le_of_ble_eq_true rfl) ?_
  intro p e R s m args below meth c A ls F hRf hRl hRc hRs htab hlk I hX hl
  obtain ⟨hx, hb, hml, hown, hG⟩ := id F
  replace hl : lv_has ls 4 [(0, .ref (ad 0)), (1, .int a0), (2, .int a1)] := hl
  refine lv_aload_n hx hb dX11_trial_0 rfl (lv_at hl 0 rfl) ?_
  refine kgtX11_95_0 F I dX11_trial_1 ?_
  rcases hsz1 : P 0 with _ | z1
  · replace hf := (oc_none hsz1).symm.trans hf
    refine W.eq (g2 := F0 m 4 ls [.null]) rfl ?_
    refine lv_astore_nN (lv' := [(3, .null), (0, .ref (ad 0)), (1, .int a0), (2, .int a1)]) hx hb dX11_trial_4 rfl hl (by decide) rfl (fun ls_2 hl_2 => ?_)
    refine lv_aload_nN hx hb dX11_trial_5 rfl (lv_at hl_2 0 rfl) ?_
    refine lv_ifnonnullN hx hb dX11_trial_6 ?_
    cases hf
    exact x_thrS (ik := 106) (is := 108) (ic := 110) (text := "there is no plan") F I hX hl0 htab hlk hl_2.1 (by decide +kernel) q938 q125 (by decide) (xatS hG hX) xgoS (Nat.le_trans (Nat.le_of_ble_eq_true rfl) hRf) (Nat.le_trans (Nat.le_of_ble_eq_true rfl) hRl) hRc hRs dX11_trial_9 dX11_trial_12 dX11_trial_13 dX11_trial_15 dX11_trial_18
  · replace hf := (oc_some hsz1).symm.trans hf
    refine W.eq (g2 := F0 m 4 ls [.ref (z1.1)]) rfl ?_
    refine lv_astore_n (lv' := [(3, .ref (z1.1)), (0, .ref (ad 0)), (1, .int a0), (2, .int a1)]) hx hb dX11_trial_4 rfl hl (by decide) rfl (fun ls_3 hl_3 => ?_)
    refine lv_aload_n hx hb dX11_trial_5 rfl (lv_at hl_3 0 rfl) ?_
    refine lv_ifnonnull (tgt := 19) hx hb dX11_trial_6 (by decide) ?_
    refine lv_iload_n hx hb dX11_trial_19 rfl (lv_at hl_3 2 rfl) ?_
    refine lv_aload_n hx hb dX11_trial_20 rfl (lv_at hl_3 0 rfl) ?_
    obtain ⟨r4, h5⟩ : ∃ z, z = P_size z1.2.2.2.1 := ⟨_, rfl⟩
    replace hf := nm_some h5 hf
    refine x_callVi (τ := pG z1) (As := []) (rest := [.int a0]) F I (I.1.sub [0] rfl) (pl_sub I (hPZ _ _ hsz1)) (pl_D I (hPZ _ _ hsz1)) (cP_size (pG z1) r4 h5) kX11_102 ⟨rfl, rfl⟩ ⟨Nat.le_trans (Nat.le_of_ble_eq_true rfl) hRf, Nat.le_trans (Nat.le_of_ble_eq_true rfl) hRl⟩ 0 4 rfl rfl rfl rfl rfl hl_3.1 (Nat.le_of_ble_eq_true rfl) ⟨Nat.zero_le _, Nat.zero_le _⟩ dX11_trial_21 ?_
    intro H_6 lo_6 I_6
    rcases xc_cases hf with hx7 | ⟨hn8, hf⟩
    · exact x_callS (As := [.int a0, .int r4]) (rest := []) F I_6 hX htab hlk (xX_LT_requireIndex _ _ _ _ _ hl0 _ _ _ _ _ hx7) kX11_84 ⟨rfl, rfl⟩ ⟨Nat.le_trans (Nat.le_of_ble_eq_true rfl) hRf, Nat.le_trans (Nat.le_of_ble_eq_true rfl) hRl⟩ rfl rfl hl_3.1 (Nat.le_of_ble_eq_true rfl) ⟨hRc, hRs⟩ dX11_trial_24
    cases hf
def X_LT_answer (G : Nat → Nat → Int32) (E : Nat → Nat → Int64) (P : Nat → Option PRec) (a0 : Int32) : Option (String × (Nat → Nat → Int32) × (Nat → Nat → Int64)) :=
oc (P 0) (some ("java/lang/IllegalStateException", G, E)) (fun z1 => nm (P_size z1.2.2.2.1) fun r4 =>
if r4 ≤ G 3 0 then
(some ("java/lang/IllegalStateException", G, E))
else
(bd (C_CO_isFull G) fun r7 =>
if r7 = 0 then
(xc (X_LT_requireAnswer G E a0) <|
none)
else
(some ("java/lang/IllegalStateException", G, E))))
set_option maxRecDepth 100000 in
set_option maxHeartbeats 4000000 in
theorem xX_LT_answer (G : Nat → Nat → Int32) (E : Nat → Nat → Int64) (Dd : Nat → Nat → UInt64) (P : Nat → Option PRec) (Z : List PRec) (hPZ : ∀ (k : Nat) (z : PRec), P k = some z → z ∈ Z) (hl0 : l.stackTraces = false) (a0 : Int32) (ex : String) (newG : Nat → Nat → Int32) (newE : Nat → Nat → Int64) (hf : X_LT_answer G E P a0 = some (ex, newG, newE)) : sX D (cT cI cJ cD cS) (cW ad cI cJ cD cS) l yX11_answer (ws1 yX11_answer cX11_answer 3 (some .int)) ({ frames := 8, cells := 1, slots := 6, locals := 122 }) [.ref (ad 0), .int a0] (G, E, Dd, P, Z) (newG, newE, Dd, P, Z) ex := by
  unfold X_LT_answer at hf
  refine sX_of (by decide) (Nat.le_of_ble_eq_true rfl) ?_
  intro p e R s m args below meth c A ls F hRf hRl hRc hRs htab hlk I hX hl
  obtain ⟨hx, hb, hml, hown, hG⟩ := id F
  replace hl : lv_has ls 3 [(0, .ref (ad 0)), (1, .int a0)] := hl
  refine lv_aload_n hx hb dX11_answer_0 rfl (lv_at hl 0 rfl) ?_
  refine kgtX11_95_0 F I dX11_answer_1 ?_
  rcases hsz1 : P 0 with _ | z1
  · replace hf := (oc_none hsz1).symm.trans hf
    refine W.eq (g2 := F0 m 4 ls [.null]) rfl ?_
    refine lv_astore_nN (lv' := [(2, .null), (0, .ref (ad 0)), (1, .int a0)]) hx hb dX11_answer_4 rfl hl (by decide) rfl (fun ls_2 hl_2 => ?_)
    refine lv_aload_nN hx hb dX11_answer_5 rfl (lv_at hl_2 0 rfl) ?_
    refine lv_ifnullN (tgt := 30) hx hb dX11_answer_6 (by decide) ?_
    cases hf
    exact x_thrS (ik := 106) (is := 124) (ic := 110) (text := "no trial can be answered") F I hX hl0 htab hlk hl_2.1 (by decide +kernel) q938 q125 (by decide) (xatS hG hX) xgoS (Nat.le_trans (Nat.le_of_ble_eq_true rfl) hRf) (Nat.le_trans (Nat.le_of_ble_eq_true rfl) hRl) hRc hRs dX11_answer_30 dX11_answer_33 dX11_answer_34 dX11_answer_36 dX11_answer_39
  · replace hf := (oc_some hsz1).symm.trans hf
    refine W.eq (g2 := F0 m 4 ls [.ref (z1.1)]) rfl ?_
    refine lv_astore_n (lv' := [(2, .ref (z1.1)), (0, .ref (ad 0)), (1, .int a0)]) hx hb dX11_answer_4 rfl hl (by decide) rfl (fun ls_3 hl_3 => ?_)
    refine lv_aload_n hx hb dX11_answer_5 rfl (lv_at hl_3 0 rfl) ?_
    refine lv_ifnull hx hb dX11_answer_6 ?_
    refine lv_aload_n hx hb dX11_answer_9 rfl (lv_at hl_3 1 rfl) ?_
    refine kgtX11_99_0 F I dX11_answer_10 ?_
    refine lv_aload_n hx hb dX11_answer_13 rfl (lv_at hl_3 0 rfl) ?_
    obtain ⟨r4, h5⟩ : ∃ z, z = P_size z1.2.2.2.1 := ⟨_, rfl⟩
    replace hf := nm_some h5 hf
    refine x_callVi (τ := pG z1) (As := []) (rest := [.int (G 3 0)]) F I (I.1.sub [0] rfl) (pl_sub I (hPZ _ _ hsz1)) (pl_D I (hPZ _ _ hsz1)) (cP_size (pG z1) r4 h5) kX11_102 ⟨rfl, rfl⟩ ⟨Nat.le_trans (Nat.le_of_ble_eq_true rfl) hRf, Nat.le_trans (Nat.le_of_ble_eq_true rfl) hRl⟩ 0 4 rfl rfl rfl rfl rfl hl_3.1 (Nat.le_of_ble_eq_true rfl) ⟨Nat.zero_le _, Nat.zero_le _⟩ dX11_answer_14 ?_
    intro H_6 lo_6 I_6
    refine lv_icmp_ge (tgt := 30) hx hb dX11_answer_17 (by decide) (fun c13 => ?_) (fun c13 => ?_)
    · replace hf := (if_pos c13).symm.trans hf
      cases hf
      exact x_thrS (ik := 106) (is := 124) (ic := 110) (text := "no trial can be answered") F I_6 hX hl0 htab hlk hl_3.1 (by decide +kernel) q938 q125 (by decide) (xatS hG hX) xgoS (Nat.le_trans (Nat.le_of_ble_eq_true rfl) hRf) (Nat.le_trans (Nat.le_of_ble_eq_true rfl) hRl) hRc hRs dX11_answer_30 dX11_answer_33 dX11_answer_34 dX11_answer_36 dX11_answer_39
    · replace hf := (if_neg c13).symm.trans hf
      refine lv_aload_n hx hb dX11_answer_20 rfl (lv_at hl_3 1 rfl) ?_
      refine kgtX11_16_0 F I_6 dX11_answer_21 ?_
      obtain ⟨r7, h8, hf⟩ := bd_some hf
      refine s_callVi (As := []) (rest := []) F I_6 (cC_CO_isFull G E Dd P Z r7 h8) kX11_120 ⟨rfl, rfl⟩ ⟨Nat.le_trans (Nat.le_of_ble_eq_true rfl) hRf, Nat.le_trans (Nat.le_of_ble_eq_true rfl) hRl⟩ (2) 1 rfl rfl rfl rfl rfl hl_3.1 (Nat.le_of_ble_eq_true rfl) ⟨Nat.zero_le _, Nat.zero_le _⟩ dX11_answer_24 ?_
      intro H_9 lo_9 I_9
      refine lv_if_eq (tgt := 40) hx hb dX11_answer_27 (by decide) (fun c12 => ?_) (fun c12 => ?_)
      · replace hf := (if_pos c12).symm.trans hf
        refine lv_iload_n hx hb dX11_answer_40 rfl (lv_at hl_3 2 rfl) ?_
        rcases xc_cases hf with hx10 | ⟨hn11, hf⟩
        · exact x_callS (As := [.int a0]) (rest := []) F I_9 hX htab hlk (xX_LT_requireAnswer _ _ _ _ _ hl0 _ _ _ _ hx10) kX11_126 ⟨rfl, rfl⟩ ⟨Nat.le_trans (Nat.le_of_ble_eq_true rfl) hRf, Nat.le_trans (Nat.le_of_ble_eq_true rfl) hRl⟩ rfl rfl hl_3.1 (Nat.le_of_ble_eq_true rfl) ⟨hRc, hRs⟩ dX11_answer_41
        cases hf
      · replace hf := (if_neg c12).symm.trans hf
        cases hf
        exact x_thrS (ik := 106) (is := 124) (ic := 110) (text := "no trial can be answered") F I_9 hX hl0 htab hlk hl_3.1 (by decide +kernel) q938 q125 (by decide) (xatS hG hX) xgoS (Nat.le_trans (Nat.le_of_ble_eq_true rfl) hRf) (Nat.le_trans (Nat.le_of_ble_eq_true rfl) hRl) hRc hRs dX11_answer_30 dX11_answer_33 dX11_answer_34 dX11_answer_36 dX11_answer_39
def X_LT_compare (G : Nat → Nat → Int32) (E : Nat → Nat → Int64) (P : Nat → Option PRec) (a0 : Int32) (a1 : Int32) (a2 : Int32) (a3 : Int32) : Option (String × (Nat → Nat → Int32) × (Nat → Nat → Int64)) :=
xc (X_LT_requireIndex G E a0 (G 1 0)) <|
bd0 (C_LT_requireIndex a0 (G 1 0)) <|
xc (X_LT_requireIndex G E a1 (G 0 0)) <|
bd0 (C_LT_requireIndex a1 (G 0 0)) <|
xc (X_LT_requireIndex G E a2 (G 0 0)) <|
bd0 (C_LT_requireIndex a2 (G 0 0)) <|
if a1 = a2 then
(xc (X_LT_requireArgument G E (0 : Int32)) <|
bd0 (C_LT_requireArgument (0 : Int32)) <|
xc (X_LT_requireAnswer G E a3) <|
bd0 (C_LT_requireAnswer a3) <|
xc (X_LT_requireRoom G E (1 : Int32)) <|
none)
else
(xc (X_LT_requireArgument G E (1 : Int32)) <|
bd0 (C_LT_requireArgument (1 : Int32)) <|
xc (X_LT_requireAnswer G E a3) <|
bd0 (C_LT_requireAnswer a3) <|
xc (X_LT_requireRoom G E (1 : Int32)) <|
none)
set_option maxRecDepth 100000 in
set_option maxHeartbeats 4000000 in
theorem xX_LT_compare (G : Nat → Nat → Int32) (E : Nat → Nat → Int64) (Dd : Nat → Nat → UInt64) (P : Nat → Option PRec) (Z : List PRec) (hPZ : ∀ (k : Nat) (z : PRec), P k = some z → z ∈ Z) (hl0 : l.stackTraces = false) (a0 : Int32) (a1 : Int32) (a2 : Int32) (a3 : Int32) (ex : String) (newG : Nat → Nat → Int32) (newE : Nat → Nat → Int64) (hf : X_LT_compare G E P a0 a1 a2 a3 = some (ex, newG, newE)) : sX D (cT cI cJ cD cS) (cW ad cI cJ cD cS) l yX11_compare (ws1 yX11_compare cX11_compare 5 (some .int)) ({ frames := 8, cells := 1, slots := 6, locals := 122 }) [.ref (ad 0), .int a0, .int a1, .int a2, .int a3] (G, E, Dd, P, Z) (newG, newE, Dd, P, Z) ex := by
  unfold X_LT_compare at hf
  refine sX_of (by decide) (Nat.le_of_ble_eq_true rfl) ?_
  intro p e R s m args below meth c A ls F hRf hRl hRc hRs htab hlk I hX hl
  obtain ⟨hx, hb, hml, hown, hG⟩ := id F
  replace hl : lv_has ls 5 [(0, .ref (ad 0)), (1, .int a0), (2, .int a1), (3, .int a2), (4, .int a3)] := hl
  refine lv_iload_n hx hb dX11_compare_0 rfl (lv_at hl 1 rfl) ?_
  refine lv_aload_n hx hb dX11_compare_1 rfl (lv_at hl 0 rfl) ?_
  refine kgtX11_80_0 F I dX11_compare_2 ?_
  rcases xc_cases hf with hx1 | ⟨hn2, hf⟩
  · exact x_callS (As := [.int a0, .int (G 1 0)]) (rest := []) F I hX htab hlk (xX_LT_requireIndex _ _ _ _ _ hl0 _ _ _ _ _ hx1) kX11_84 ⟨rfl, rfl⟩ ⟨Nat.le_trans (Nat.le_of_ble_eq_true rfl) hRf, Nat.le_trans (Nat.le_of_ble_eq_true rfl) hRl⟩ rfl rfl hl.1 (Nat.le_of_ble_eq_true rfl) ⟨hRc, hRs⟩ dX11_compare_5
  obtain ⟨h3, hf⟩ := bd0_some hf
  refine s_callSv (As := [.int a0, .int (G 1 0)]) (rest := []) F I (cC_LT_requireIndex G E Dd P Z a0 (G 1 0) h3) kX11_84 ⟨rfl, rfl⟩ ⟨Nat.le_trans (Nat.le_of_ble_eq_true rfl) hRf, Nat.le_trans (Nat.le_of_ble_eq_true rfl) hRl⟩ rfl rfl hl.1 (Nat.le_of_ble_eq_true rfl) ⟨Nat.zero_le _, Nat.zero_le _⟩ dX11_compare_5 ?_
  intro H_4 lo_4 I_4
  refine lv_iload_n hx hb dX11_compare_8 rfl (lv_at hl 2 rfl) ?_
  refine lv_aload_n hx hb dX11_compare_9 rfl (lv_at hl 0 rfl) ?_
  refine kgtX11_89_0 F I_4 dX11_compare_10 ?_
  rcases xc_cases hf with hx5 | ⟨hn6, hf⟩
  · exact x_callS (As := [.int a1, .int (G 0 0)]) (rest := []) F I_4 hX htab hlk (xX_LT_requireIndex _ _ _ _ _ hl0 _ _ _ _ _ hx5) kX11_84 ⟨rfl, rfl⟩ ⟨Nat.le_trans (Nat.le_of_ble_eq_true rfl) hRf, Nat.le_trans (Nat.le_of_ble_eq_true rfl) hRl⟩ rfl rfl hl.1 (Nat.le_of_ble_eq_true rfl) ⟨hRc, hRs⟩ dX11_compare_13
  obtain ⟨h7, hf⟩ := bd0_some hf
  refine s_callSv (As := [.int a1, .int (G 0 0)]) (rest := []) F I_4 (cC_LT_requireIndex G E Dd P Z a1 (G 0 0) h7) kX11_84 ⟨rfl, rfl⟩ ⟨Nat.le_trans (Nat.le_of_ble_eq_true rfl) hRf, Nat.le_trans (Nat.le_of_ble_eq_true rfl) hRl⟩ rfl rfl hl.1 (Nat.le_of_ble_eq_true rfl) ⟨Nat.zero_le _, Nat.zero_le _⟩ dX11_compare_13 ?_
  intro H_8 lo_8 I_8
  refine lv_iload_n hx hb dX11_compare_16 rfl (lv_at hl 3 rfl) ?_
  refine lv_aload_n hx hb dX11_compare_17 rfl (lv_at hl 0 rfl) ?_
  refine kgtX11_89_0 F I_8 dX11_compare_18 ?_
  rcases xc_cases hf with hx9 | ⟨hn10, hf⟩
  · exact x_callS (As := [.int a2, .int (G 0 0)]) (rest := []) F I_8 hX htab hlk (xX_LT_requireIndex _ _ _ _ _ hl0 _ _ _ _ _ hx9) kX11_84 ⟨rfl, rfl⟩ ⟨Nat.le_trans (Nat.le_of_ble_eq_true rfl) hRf, Nat.le_trans (Nat.le_of_ble_eq_true rfl) hRl⟩ rfl rfl hl.1 (Nat.le_of_ble_eq_true rfl) ⟨hRc, hRs⟩ dX11_compare_21
  obtain ⟨h11, hf⟩ := bd0_some hf
  refine s_callSv (As := [.int a2, .int (G 0 0)]) (rest := []) F I_8 (cC_LT_requireIndex G E Dd P Z a2 (G 0 0) h11) kX11_84 ⟨rfl, rfl⟩ ⟨Nat.le_trans (Nat.le_of_ble_eq_true rfl) hRf, Nat.le_trans (Nat.le_of_ble_eq_true rfl) hRl⟩ rfl rfl hl.1 (Nat.le_of_ble_eq_true rfl) ⟨Nat.zero_le _, Nat.zero_le _⟩ dX11_compare_21 ?_
  intro H_12 lo_12 I_12
  refine lv_iload_n hx hb dX11_compare_24 rfl (lv_at hl 2 rfl) ?_
  refine lv_iload_n hx hb dX11_compare_25 rfl (lv_at hl 3 rfl) ?_
  refine lv_icmp_eq (tgt := 33) hx hb dX11_compare_26 (by decide) (fun c33 => ?_) (fun c33 => ?_)
  · replace hf := (if_pos c33).symm.trans hf
    refine lv_iconst (v := (0 : Int32)) hx hb dX11_compare_33 (by decide) ?_
    rcases xc_cases hf with hx13 | ⟨hn14, hf⟩
    · exact x_callS (As := [.int (0 : Int32)]) (rest := []) F I_12 hX htab hlk (xX_LT_requireArgument _ _ _ _ _ hl0 _ _ _ _ hx13) kX11_76 ⟨rfl, rfl⟩ ⟨Nat.le_trans (Nat.le_of_ble_eq_true rfl) hRf, Nat.le_trans (Nat.le_of_ble_eq_true rfl) hRl⟩ rfl rfl hl.1 (Nat.le_of_ble_eq_true rfl) ⟨hRc, hRs⟩ dX11_compare_34
    obtain ⟨h15, hf⟩ := bd0_some hf
    refine s_callSv (As := [.int (0 : Int32)]) (rest := []) F I_12 (cC_LT_requireArgument G E Dd P Z (0 : Int32) h15) kX11_76 ⟨rfl, rfl⟩ ⟨Nat.le_trans (Nat.le_of_ble_eq_true rfl) hRf, Nat.le_trans (Nat.le_of_ble_eq_true rfl) hRl⟩ rfl rfl hl.1 (Nat.le_of_ble_eq_true rfl) ⟨Nat.zero_le _, Nat.zero_le _⟩ dX11_compare_34 ?_
    intro H_16 lo_16 I_16
    refine lv_iload hx hb dX11_compare_37 (lv_at hl 4 rfl) ?_
    rcases xc_cases hf with hx17 | ⟨hn18, hf⟩
    · exact x_callS (As := [.int a3]) (rest := []) F I_16 hX htab hlk (xX_LT_requireAnswer _ _ _ _ _ hl0 _ _ _ _ hx17) kX11_126 ⟨rfl, rfl⟩ ⟨Nat.le_trans (Nat.le_of_ble_eq_true rfl) hRf, Nat.le_trans (Nat.le_of_ble_eq_true rfl) hRl⟩ rfl rfl hl.1 (Nat.le_of_ble_eq_true rfl) ⟨hRc, hRs⟩ dX11_compare_39
    obtain ⟨h19, hf⟩ := bd0_some hf
    refine s_callSv (As := [.int a3]) (rest := []) F I_16 (cC_LT_requireAnswer G E Dd P Z a3 h19) kX11_126 ⟨rfl, rfl⟩ ⟨Nat.le_trans (Nat.le_of_ble_eq_true rfl) hRf, Nat.le_trans (Nat.le_of_ble_eq_true rfl) hRl⟩ rfl rfl hl.1 (Nat.le_of_ble_eq_true rfl) ⟨Nat.zero_le _, Nat.zero_le _⟩ dX11_compare_39 ?_
    intro H_20 lo_20 I_20
    refine lv_aload_n hx hb dX11_compare_42 rfl (lv_at hl 0 rfl) ?_
    refine lv_iconst (v := (1 : Int32)) hx hb dX11_compare_43 (by decide) ?_
    rcases xc_cases hf with hx21 | ⟨hn22, hf⟩
    · exact x_callV (As := [.int (1 : Int32)]) (rest := []) F I_20 hX htab hlk (xX_LT_requireRoom _ _ _ _ _ hl0 _ _ _ _ hx21) kX11_146 ⟨rfl, rfl⟩ ⟨Nat.le_trans (Nat.le_of_ble_eq_true rfl) hRf, Nat.le_trans (Nat.le_of_ble_eq_true rfl) hRl⟩ (0) 11 rfl rfl rfl rfl rfl hl.1 (Nat.le_of_ble_eq_true rfl) ⟨hRc, hRs⟩ dX11_compare_44
    cases hf
  · replace hf := (if_neg c33).symm.trans hf
    refine lv_iconst (v := (1 : Int32)) hx hb dX11_compare_29 (by decide) ?_
    refine lv_goto (tgt := 34) hx hb dX11_compare_30 (by decide) ?_
    rcases xc_cases hf with hx23 | ⟨hn24, hf⟩
    · exact x_callS (As := [.int (1 : Int32)]) (rest := []) F I_12 hX htab hlk (xX_LT_requireArgument _ _ _ _ _ hl0 _ _ _ _ hx23) kX11_76 ⟨rfl, rfl⟩ ⟨Nat.le_trans (Nat.le_of_ble_eq_true rfl) hRf, Nat.le_trans (Nat.le_of_ble_eq_true rfl) hRl⟩ rfl rfl hl.1 (Nat.le_of_ble_eq_true rfl) ⟨hRc, hRs⟩ dX11_compare_34
    obtain ⟨h25, hf⟩ := bd0_some hf
    refine s_callSv (As := [.int (1 : Int32)]) (rest := []) F I_12 (cC_LT_requireArgument G E Dd P Z (1 : Int32) h25) kX11_76 ⟨rfl, rfl⟩ ⟨Nat.le_trans (Nat.le_of_ble_eq_true rfl) hRf, Nat.le_trans (Nat.le_of_ble_eq_true rfl) hRl⟩ rfl rfl hl.1 (Nat.le_of_ble_eq_true rfl) ⟨Nat.zero_le _, Nat.zero_le _⟩ dX11_compare_34 ?_
    intro H_26 lo_26 I_26
    refine lv_iload hx hb dX11_compare_37 (lv_at hl 4 rfl) ?_
    rcases xc_cases hf with hx27 | ⟨hn28, hf⟩
    · exact x_callS (As := [.int a3]) (rest := []) F I_26 hX htab hlk (xX_LT_requireAnswer _ _ _ _ _ hl0 _ _ _ _ hx27) kX11_126 ⟨rfl, rfl⟩ ⟨Nat.le_trans (Nat.le_of_ble_eq_true rfl) hRf, Nat.le_trans (Nat.le_of_ble_eq_true rfl) hRl⟩ rfl rfl hl.1 (Nat.le_of_ble_eq_true rfl) ⟨hRc, hRs⟩ dX11_compare_39
    obtain ⟨h29, hf⟩ := bd0_some hf
    refine s_callSv (As := [.int a3]) (rest := []) F I_26 (cC_LT_requireAnswer G E Dd P Z a3 h29) kX11_126 ⟨rfl, rfl⟩ ⟨Nat.le_trans (Nat.le_of_ble_eq_true rfl) hRf, Nat.le_trans (Nat.le_of_ble_eq_true rfl) hRl⟩ rfl rfl hl.1 (Nat.le_of_ble_eq_true rfl) ⟨Nat.zero_le _, Nat.zero_le _⟩ dX11_compare_39 ?_
    intro H_30 lo_30 I_30
    refine lv_aload_n hx hb dX11_compare_42 rfl (lv_at hl 0 rfl) ?_
    refine lv_iconst (v := (1 : Int32)) hx hb dX11_compare_43 (by decide) ?_
    rcases xc_cases hf with hx31 | ⟨hn32, hf⟩
    · exact x_callV (As := [.int (1 : Int32)]) (rest := []) F I_30 hX htab hlk (xX_LT_requireRoom _ _ _ _ _ hl0 _ _ _ _ hx31) kX11_146 ⟨rfl, rfl⟩ ⟨Nat.le_trans (Nat.le_of_ble_eq_true rfl) hRf, Nat.le_trans (Nat.le_of_ble_eq_true rfl) hRl⟩ (0) 11 rfl rfl rfl rfl rfl hl.1 (Nat.le_of_ble_eq_true rfl) ⟨hRc, hRs⟩ dX11_compare_44
    cases hf
def X_LT_remove (G : Nat → Nat → Int32) (E : Nat → Nat → Int64) (P : Nat → Option PRec) (a0 : Int32) : Option (String × (Nat → Nat → Int32) × (Nat → Nat → Int64)) :=
xc (X_LT_requireIndex G E a0 (G 5 0)) <|
none
set_option maxRecDepth 100000 in
set_option maxHeartbeats 4000000 in
theorem xX_LT_remove (G : Nat → Nat → Int32) (E : Nat → Nat → Int64) (Dd : Nat → Nat → UInt64) (P : Nat → Option PRec) (Z : List PRec) (hPZ : ∀ (k : Nat) (z : PRec), P k = some z → z ∈ Z) (hl0 : l.stackTraces = false) (a0 : Int32) (ex : String) (newG : Nat → Nat → Int32) (newE : Nat → Nat → Int64) (hf : X_LT_remove G E P a0 = some (ex, newG, newE)) : sX D (cT cI cJ cD cS) (cW ad cI cJ cD cS) l yX11_remove (ws1 yX11_remove cX11_remove 2 (some .int)) ({ frames := 7, cells := 1, slots := 6, locals := 103 }) [.ref (ad 0), .int a0] (G, E, Dd, P, Z) (newG, newE, Dd, P, Z) ex := by
  unfold X_LT_remove at hf
  refine sX_of (by decide) (Nat.le_of_ble_eq_true rfl) ?_
  intro p e R s m args below meth c A ls F hRf hRl hRc hRs htab hlk I hX hl
  obtain ⟨hx, hb, hml, hown, hG⟩ := id F
  replace hl : lv_has ls 2 [(0, .ref (ad 0)), (1, .int a0)] := hl
  refine lv_iload_n hx hb dX11_remove_0 rfl (lv_at hl 1 rfl) ?_
  refine lv_aload_n hx hb dX11_remove_1 rfl (lv_at hl 0 rfl) ?_
  refine kgtX11_16_0 F I dX11_remove_2 ?_
  refine kgtX11_149_2 F I dX11_remove_5 ?_
  rcases xc_cases hf with hx1 | ⟨hn2, hf⟩
  · exact x_callS (As := [.int a0, .int (G 5 0)]) (rest := []) F I hX htab hlk (xX_LT_requireIndex _ _ _ _ _ hl0 _ _ _ _ _ hx1) kX11_84 ⟨rfl, rfl⟩ ⟨Nat.le_trans (Nat.le_of_ble_eq_true rfl) hRf, Nat.le_trans (Nat.le_of_ble_eq_true rfl) hRl⟩ rfl rfl hl.1 (Nat.le_of_ble_eq_true rfl) ⟨hRc, hRs⟩ dX11_remove_8
  cases hf
def X_LT_undo (G : Nat → Nat → Int32) (E : Nat → Nat → Int64) (P : Nat → Option PRec)  : Option (String × (Nat → Nat → Int32) × (Nat → Nat → Int64)) :=
bd2 (C_HI_takeLatest G) fun r1 G2 =>
oc (r1) (some ("java/lang/IllegalStateException", G2, E)) (fun j5 => gd (j5 < 12) <|
nm (C_CO_copyFrom_from j5 G2) fun G8 =>
oc (P (1 + j5)) (none) (fun z11 => none))
set_option maxRecDepth 100000 in
set_option maxHeartbeats 4000000 in
theorem xX_LT_undo (G : Nat → Nat → Int32) (E : Nat → Nat → Int64) (Dd : Nat → Nat → UInt64) (P : Nat → Option PRec) (Z : List PRec) (hPZ : ∀ (k : Nat) (z : PRec), P k = some z → z ∈ Z) (hl0 : l.stackTraces = false)  (ex : String) (newG : Nat → Nat → Int32) (newE : Nat → Nat → Int64) (hf : X_LT_undo G E P = some (ex, newG, newE)) : sX D (cT cI cJ cD cS) (cW ad cI cJ cD cS) l yX11_undo (ws1 yX11_undo cX11_undo 2 (some .int)) ({ frames := 6, cells := 1, slots := 6, locals := 82 }) [.ref (ad 0)] (G, E, Dd, P, Z) (newG, newE, Dd, P, Z) ex := by
  unfold X_LT_undo at hf
  refine sX_of (by decide) (Nat.le_of_ble_eq_true rfl) ?_
  intro p e R s m args below meth c A ls F hRf hRl hRc hRs htab hlk I hX hl
  obtain ⟨hx, hb, hml, hown, hG⟩ := id F
  replace hl : lv_has ls 2 [(0, .ref (ad 0))] := hl
  refine lv_aload_n hx hb dX11_undo_0 rfl (lv_at hl 0 rfl) ?_
  refine kgtX11_23_0 F I dX11_undo_1 ?_
  obtain ⟨r1, G2, h3, hf⟩ := bd2_some hf
  refine s_callVq (As := []) (rest := []) F I (cC_HI_takeLatest G E Dd P Z r1 G2 h3) kX11_154 ⟨rfl, rfl⟩ ⟨Nat.le_trans (Nat.le_of_ble_eq_true rfl) hRf, Nat.le_trans (Nat.le_of_ble_eq_true rfl) hRl⟩ (4) 2 rfl rfl rfl rfl rfl hl.1 (Nat.le_of_ble_eq_true rfl) ⟨Nat.zero_le _, Nat.zero_le _⟩ dX11_undo_4 ?_
  intro H_4 lo_4 I_4
  rcases hsj5 : r1 with _ | j5
  · replace hf := (oc_none hsj5).symm.trans hf
    refine W.eq (g2 := F0 m 7 ls [.null]) rfl ?_
    refine lv_astore_nN (lv' := [(1, .null), (0, .ref (ad 0))]) hx hb dX11_undo_7 rfl hl (by decide) rfl (fun ls_6 hl_6 => ?_)
    refine lv_aload_nN hx hb dX11_undo_8 rfl (lv_at hl_6 0 rfl) ?_
    refine lv_ifnonnullN hx hb dX11_undo_9 ?_
    cases hf
    exact x_thrS (ik := 106) (is := 158) (ic := 110) (text := "no step can be undone") F I_4 hX hl0 htab hlk hl_6.1 (by decide +kernel) q938 q125 (by decide) (xatS hG hX) xgoS (Nat.le_trans (Nat.le_of_ble_eq_true rfl) hRf) (Nat.le_trans (Nat.le_of_ble_eq_true rfl) hRl) hRc hRs dX11_undo_12 dX11_undo_15 dX11_undo_16 dX11_undo_18 dX11_undo_21
  · replace hf := (oc_some hsj5).symm.trans hf
    refine W.eq (g2 := F0 m 7 ls [.ref (ad (38 + 3 * j5))]) rfl ?_
    obtain ⟨hjj5, hf⟩ := gd_some hf
    refine lv_astore_n (lv' := [(1, .ref (ad (38 + 3 * j5))), (0, .ref (ad 0))]) hx hb dX11_undo_7 rfl hl (by decide) rfl (fun ls_7 hl_7 => ?_)
    refine lv_aload_n hx hb dX11_undo_8 rfl (lv_at hl_7 0 rfl) ?_
    refine lv_ifnonnull (tgt := 22) hx hb dX11_undo_9 (by decide) ?_
    refine lv_aload_n hx hb dX11_undo_22 rfl (lv_at hl_7 1 rfl) ?_
    refine kgtX11_16_0 F I_4 dX11_undo_23 ?_
    refine lv_aload_n hx hb dX11_undo_26 rfl (lv_at hl_7 0 rfl) ?_
    refine kgstX11_160 hjj5 F I_4 dX11_undo_27 ?_
    obtain ⟨G8, h9⟩ : ∃ z, z = C_CO_copyFrom_from j5 G2 := ⟨_, rfl⟩
    replace hf := nm_some h9 hf
    refine s_callVv (As := [.ref (ad (39 + 3 * j5))]) (rest := []) F I_4 (cC_CO_copyFrom_from (j5) hjj5 G2 E Dd P Z G8 h9) kX11_163 ⟨rfl, rfl⟩ ⟨Nat.le_trans (Nat.le_of_ble_eq_true rfl) hRf, Nat.le_trans (Nat.le_of_ble_eq_true rfl) hRl⟩ (2) 1 rfl rfl rfl rfl rfl hl_7.1 (Nat.le_of_ble_eq_true rfl) ⟨Nat.zero_le _, Nat.zero_le _⟩ dX11_undo_30 ?_
    intro H_10 lo_10 I_10
    refine lv_aload_n hx hb dX11_undo_33 rfl (lv_at hl_7 1 rfl) ?_
    refine lv_aload_n hx hb dX11_undo_34 rfl (lv_at hl_7 0 rfl) ?_
    refine kgstX11_167 hjj5 F I_10 dX11_undo_35 ?_
    rcases hsz11 : P (1 + j5) with _ | z11
    · replace hf := (oc_none hsz11).symm.trans hf
      refine W.eq (g2 := F0 m 38 ls_7 [.null, .ref (ad 0)]) rfl ?_
      cases hf
    · replace hf := (oc_some hsz11).symm.trans hf
      refine W.eq (g2 := F0 m 38 ls_7 [.ref (z11.1), .ref (ad 0)]) rfl ?_
      cases hf
def X_LT_append (G : Nat → Nat → Int32) (E : Nat → Nat → Int64) (a0 : Int32) : Option (String × (Nat → Nat → Int32) × (Nat → Nat → Int64)) :=
if a0 < (33 : Int32) then
(xc (X_LT_requireArgument G E (0 : Int32)) <|
bd0 (C_LT_requireArgument (0 : Int32)) <|
bd (C_TX_isFull G) fun r5 =>
if r5 = 0 then
(none)
else
(some ("java/lang/IllegalStateException", G, E)))
else
(if (126 : Int32) < a0 then
(xc (X_LT_requireArgument G E (0 : Int32)) <|
bd0 (C_LT_requireArgument (0 : Int32)) <|
bd (C_TX_isFull G) fun r13 =>
if r13 = 0 then
(none)
else
(some ("java/lang/IllegalStateException", G, E)))
else
(xc (X_LT_requireArgument G E (1 : Int32)) <|
bd0 (C_LT_requireArgument (1 : Int32)) <|
bd (C_TX_isFull G) fun r21 =>
if r21 = 0 then
(none)
else
(some ("java/lang/IllegalStateException", G, E))))
set_option maxRecDepth 100000 in
set_option maxHeartbeats 4000000 in
theorem xX_LT_append (G : Nat → Nat → Int32) (E : Nat → Nat → Int64) (Dd : Nat → Nat → UInt64) (P : Nat → Option PRec) (Z : List PRec) (hl0 : l.stackTraces = false) (a0 : Int32) (ex : String) (newG : Nat → Nat → Int32) (newE : Nat → Nat → Int64) (hf : X_LT_append G E a0 = some (ex, newG, newE)) : sX D (cT cI cJ cD cS) (cW ad cI cJ cD cS) l yX11_append (ws1 yX11_append cX11_append 2 (some .int)) ({ frames := 7, cells := 1, slots := 6, locals := 102 }) [.ref (ad 0), .int a0] (G, E, Dd, P, Z) (newG, newE, Dd, P, Z) ex := by
  unfold X_LT_append at hf
  refine sX_of (by decide) (Nat.le_of_ble_eq_true rfl) ?_
  intro p e R s m args below meth c A ls F hRf hRl hRc hRs htab hlk I hX hl
  obtain ⟨hx, hb, hml, hown, hG⟩ := id F
  replace hl : lv_has ls 2 [(0, .ref (ad 0)), (1, .int a0)] := hl
  refine lv_iload_n hx hb dX11_append_0 rfl (lv_at hl 1 rfl) ?_
  refine lv_bipush (v := (33 : Int32)) hx hb dX11_append_1 (by decide) ?_
  refine lv_icmp_lt (tgt := 16) hx hb dX11_append_3 (by decide) (fun c26 => ?_) (fun c26 => ?_)
  · replace hf := (if_pos c26).symm.trans hf
    refine lv_iconst (v := (0 : Int32)) hx hb dX11_append_16 (by decide) ?_
    rcases xc_cases hf with hx1 | ⟨hn2, hf⟩
    · exact x_callS (As := [.int (0 : Int32)]) (rest := []) F I hX htab hlk (xX_LT_requireArgument _ _ _ _ _ hl0 _ _ _ _ hx1) kX11_76 ⟨rfl, rfl⟩ ⟨Nat.le_trans (Nat.le_of_ble_eq_true rfl) hRf, Nat.le_trans (Nat.le_of_ble_eq_true rfl) hRl⟩ rfl rfl hl.1 (Nat.le_of_ble_eq_true rfl) ⟨hRc, hRs⟩ dX11_append_17
    obtain ⟨h3, hf⟩ := bd0_some hf
    refine s_callSv (As := [.int (0 : Int32)]) (rest := []) F I (cC_LT_requireArgument G E Dd P Z (0 : Int32) h3) kX11_76 ⟨rfl, rfl⟩ ⟨Nat.le_trans (Nat.le_of_ble_eq_true rfl) hRf, Nat.le_trans (Nat.le_of_ble_eq_true rfl) hRl⟩ rfl rfl hl.1 (Nat.le_of_ble_eq_true rfl) ⟨Nat.zero_le _, Nat.zero_le _⟩ dX11_append_17 ?_
    intro H_4 lo_4 I_4
    refine lv_aload_n hx hb dX11_append_20 rfl (lv_at hl 0 rfl) ?_
    refine kgtX11_30_0 F I_4 dX11_append_21 ?_
    obtain ⟨r5, h6, hf⟩ := bd_some hf
    refine s_callVi (As := []) (rest := []) F I_4 (cC_TX_isFull G E Dd P Z r5 h6) kX11_169 ⟨rfl, rfl⟩ ⟨Nat.le_trans (Nat.le_of_ble_eq_true rfl) hRf, Nat.le_trans (Nat.le_of_ble_eq_true rfl) hRl⟩ (6) 10 rfl rfl rfl rfl rfl hl.1 (Nat.le_of_ble_eq_true rfl) ⟨Nat.zero_le _, Nat.zero_le _⟩ dX11_append_24 ?_
    intro H_7 lo_7 I_7
    refine lv_if_eq (tgt := 40) hx hb dX11_append_27 (by decide) (fun c8 => ?_) (fun c8 => ?_)
    · replace hf := (if_pos c8).symm.trans hf
      cases hf
    · replace hf := (if_neg c8).symm.trans hf
      cases hf
      exact x_thrS (ik := 106) (is := 170) (ic := 110) (text := "the buffer is full") F I_7 hX hl0 htab hlk hl.1 (by decide +kernel) q938 q125 (by decide) (xatS hG hX) xgoS (Nat.le_trans (Nat.le_of_ble_eq_true rfl) hRf) (Nat.le_trans (Nat.le_of_ble_eq_true rfl) hRl) hRc hRs dX11_append_30 dX11_append_33 dX11_append_34 dX11_append_36 dX11_append_39
  · replace hf := (if_neg c26).symm.trans hf
    refine lv_iload_n hx hb dX11_append_6 rfl (lv_at hl 1 rfl) ?_
    refine lv_bipush (v := (126 : Int32)) hx hb dX11_append_7 (by decide) ?_
    refine lv_icmp_gt (tgt := 16) hx hb dX11_append_9 (by decide) (fun c25 => ?_) (fun c25 => ?_)
    · replace hf := (if_pos c25).symm.trans hf
      refine lv_iconst (v := (0 : Int32)) hx hb dX11_append_16 (by decide) ?_
      rcases xc_cases hf with hx9 | ⟨hn10, hf⟩
      · exact x_callS (As := [.int (0 : Int32)]) (rest := []) F I hX htab hlk (xX_LT_requireArgument _ _ _ _ _ hl0 _ _ _ _ hx9) kX11_76 ⟨rfl, rfl⟩ ⟨Nat.le_trans (Nat.le_of_ble_eq_true rfl) hRf, Nat.le_trans (Nat.le_of_ble_eq_true rfl) hRl⟩ rfl rfl hl.1 (Nat.le_of_ble_eq_true rfl) ⟨hRc, hRs⟩ dX11_append_17
      obtain ⟨h11, hf⟩ := bd0_some hf
      refine s_callSv (As := [.int (0 : Int32)]) (rest := []) F I (cC_LT_requireArgument G E Dd P Z (0 : Int32) h11) kX11_76 ⟨rfl, rfl⟩ ⟨Nat.le_trans (Nat.le_of_ble_eq_true rfl) hRf, Nat.le_trans (Nat.le_of_ble_eq_true rfl) hRl⟩ rfl rfl hl.1 (Nat.le_of_ble_eq_true rfl) ⟨Nat.zero_le _, Nat.zero_le _⟩ dX11_append_17 ?_
      intro H_12 lo_12 I_12
      refine lv_aload_n hx hb dX11_append_20 rfl (lv_at hl 0 rfl) ?_
      refine kgtX11_30_0 F I_12 dX11_append_21 ?_
      obtain ⟨r13, h14, hf⟩ := bd_some hf
      refine s_callVi (As := []) (rest := []) F I_12 (cC_TX_isFull G E Dd P Z r13 h14) kX11_169 ⟨rfl, rfl⟩ ⟨Nat.le_trans (Nat.le_of_ble_eq_true rfl) hRf, Nat.le_trans (Nat.le_of_ble_eq_true rfl) hRl⟩ (6) 10 rfl rfl rfl rfl rfl hl.1 (Nat.le_of_ble_eq_true rfl) ⟨Nat.zero_le _, Nat.zero_le _⟩ dX11_append_24 ?_
      intro H_15 lo_15 I_15
      refine lv_if_eq (tgt := 40) hx hb dX11_append_27 (by decide) (fun c16 => ?_) (fun c16 => ?_)
      · replace hf := (if_pos c16).symm.trans hf
        cases hf
      · replace hf := (if_neg c16).symm.trans hf
        cases hf
        exact x_thrS (ik := 106) (is := 170) (ic := 110) (text := "the buffer is full") F I_15 hX hl0 htab hlk hl.1 (by decide +kernel) q938 q125 (by decide) (xatS hG hX) xgoS (Nat.le_trans (Nat.le_of_ble_eq_true rfl) hRf) (Nat.le_trans (Nat.le_of_ble_eq_true rfl) hRl) hRc hRs dX11_append_30 dX11_append_33 dX11_append_34 dX11_append_36 dX11_append_39
    · replace hf := (if_neg c25).symm.trans hf
      refine lv_iconst (v := (1 : Int32)) hx hb dX11_append_12 (by decide) ?_
      refine lv_goto (tgt := 17) hx hb dX11_append_13 (by decide) ?_
      rcases xc_cases hf with hx17 | ⟨hn18, hf⟩
      · exact x_callS (As := [.int (1 : Int32)]) (rest := []) F I hX htab hlk (xX_LT_requireArgument _ _ _ _ _ hl0 _ _ _ _ hx17) kX11_76 ⟨rfl, rfl⟩ ⟨Nat.le_trans (Nat.le_of_ble_eq_true rfl) hRf, Nat.le_trans (Nat.le_of_ble_eq_true rfl) hRl⟩ rfl rfl hl.1 (Nat.le_of_ble_eq_true rfl) ⟨hRc, hRs⟩ dX11_append_17
      obtain ⟨h19, hf⟩ := bd0_some hf
      refine s_callSv (As := [.int (1 : Int32)]) (rest := []) F I (cC_LT_requireArgument G E Dd P Z (1 : Int32) h19) kX11_76 ⟨rfl, rfl⟩ ⟨Nat.le_trans (Nat.le_of_ble_eq_true rfl) hRf, Nat.le_trans (Nat.le_of_ble_eq_true rfl) hRl⟩ rfl rfl hl.1 (Nat.le_of_ble_eq_true rfl) ⟨Nat.zero_le _, Nat.zero_le _⟩ dX11_append_17 ?_
      intro H_20 lo_20 I_20
      refine lv_aload_n hx hb dX11_append_20 rfl (lv_at hl 0 rfl) ?_
      refine kgtX11_30_0 F I_20 dX11_append_21 ?_
      obtain ⟨r21, h22, hf⟩ := bd_some hf
      refine s_callVi (As := []) (rest := []) F I_20 (cC_TX_isFull G E Dd P Z r21 h22) kX11_169 ⟨rfl, rfl⟩ ⟨Nat.le_trans (Nat.le_of_ble_eq_true rfl) hRf, Nat.le_trans (Nat.le_of_ble_eq_true rfl) hRl⟩ (6) 10 rfl rfl rfl rfl rfl hl.1 (Nat.le_of_ble_eq_true rfl) ⟨Nat.zero_le _, Nat.zero_le _⟩ dX11_append_24 ?_
      intro H_23 lo_23 I_23
      refine lv_if_eq (tgt := 40) hx hb dX11_append_27 (by decide) (fun c24 => ?_) (fun c24 => ?_)
      · replace hf := (if_pos c24).symm.trans hf
        cases hf
      · replace hf := (if_neg c24).symm.trans hf
        cases hf
        exact x_thrS (ik := 106) (is := 170) (ic := 110) (text := "the buffer is full") F I_23 hX hl0 htab hlk hl.1 (by decide +kernel) q938 q125 (by decide) (xatS hG hX) xgoS (Nat.le_trans (Nat.le_of_ble_eq_true rfl) hRf) (Nat.le_trans (Nat.le_of_ble_eq_true rfl) hRl) hRc hRs dX11_append_30 dX11_append_33 dX11_append_34 dX11_append_36 dX11_append_39
def X_LT_load (G : Nat → Nat → Int32) (E : Nat → Nat → Int64) (P : Nat → Option PRec)  : Option (String × (Nat → Nat → Int32) × (Nat → Nat → Int64)) :=
bd2 (C_TX_isWhole G (G 0 0) (G 1 0)) fun r1 G2 =>
xc (X_LT_requireArgument G2 E r1) <|
bd0 (C_LT_requireArgument r1) <|
nm (G2 11 0 : Int32) fun x9 =>
xc (X_LT_requireRoom G2 E x9) <|
none
set_option maxRecDepth 100000 in
set_option maxHeartbeats 4000000 in
theorem xX_LT_load (G : Nat → Nat → Int32) (E : Nat → Nat → Int64) (Dd : Nat → Nat → UInt64) (P : Nat → Option PRec) (Z : List PRec) (hPZ : ∀ (k : Nat) (z : PRec), P k = some z → z ∈ Z) (hl0 : l.stackTraces = false)  (ex : String) (newG : Nat → Nat → Int32) (newE : Nat → Nat → Int64) (hf : X_LT_load G E P = some (ex, newG, newE)) : sX D (cT cI cJ cD cS) (cW ad cI cJ cD cS) l yX11_load (ws1 yX11_load cX11_load 3 (some .int)) ({ frames := 7, cells := 1, slots := 6, locals := 113 }) [.ref (ad 0)] (G, E, Dd, P, Z) (newG, newE, Dd, P, Z) ex := by
  unfold X_LT_load at hf
  refine sX_of (by decide) (Nat.le_of_ble_eq_true rfl) ?_
  intro p e R s m args below meth c A ls F hRf hRl hRc hRs htab hlk I hX hl
  obtain ⟨hx, hb, hml, hown, hG⟩ := id F
  replace hl : lv_has ls 3 [(0, .ref (ad 0))] := hl
  refine lv_aload_n hx hb dX11_load_0 rfl (lv_at hl 0 rfl) ?_
  refine kgtX11_30_0 F I dX11_load_1 ?_
  refine lv_aload_n hx hb dX11_load_4 rfl (lv_at hl 0 rfl) ?_
  refine kgtX11_89_0 F I dX11_load_5 ?_
  refine lv_aload_n hx hb dX11_load_8 rfl (lv_at hl 0 rfl) ?_
  refine kgtX11_80_0 F I dX11_load_9 ?_
  obtain ⟨r1, G2, h3, hf⟩ := bd2_some hf
  refine s_callVi (As := [.int (G 0 0), .int (G 1 0)]) (rest := []) F I (cC_TX_isWhole G E Dd P Z (G 0 0) (G 1 0) r1 G2 h3) kX11_180 ⟨rfl, rfl⟩ ⟨Nat.le_trans (Nat.le_of_ble_eq_true rfl) hRf, Nat.le_trans (Nat.le_of_ble_eq_true rfl) hRl⟩ (6) 10 rfl rfl rfl rfl rfl hl.1 (Nat.le_of_ble_eq_true rfl) ⟨Nat.zero_le _, Nat.zero_le _⟩ dX11_load_12 ?_
  intro H_4 lo_4 I_4
  rcases xc_cases hf with hx5 | ⟨hn6, hf⟩
  · exact x_callS (As := [.int r1]) (rest := []) F I_4 hX htab hlk (xX_LT_requireArgument _ _ _ _ _ hl0 _ _ _ _ hx5) kX11_76 ⟨rfl, rfl⟩ ⟨Nat.le_trans (Nat.le_of_ble_eq_true rfl) hRf, Nat.le_trans (Nat.le_of_ble_eq_true rfl) hRl⟩ rfl rfl hl.1 (Nat.le_of_ble_eq_true rfl) ⟨hRc, hRs⟩ dX11_load_15
  obtain ⟨h7, hf⟩ := bd0_some hf
  refine s_callSv (As := [.int r1]) (rest := []) F I_4 (cC_LT_requireArgument G2 E Dd P Z r1 h7) kX11_76 ⟨rfl, rfl⟩ ⟨Nat.le_trans (Nat.le_of_ble_eq_true rfl) hRf, Nat.le_trans (Nat.le_of_ble_eq_true rfl) hRl⟩ rfl rfl hl.1 (Nat.le_of_ble_eq_true rfl) ⟨Nat.zero_le _, Nat.zero_le _⟩ dX11_load_15 ?_
  intro H_8 lo_8 I_8
  refine lv_aload_n hx hb dX11_load_18 rfl (lv_at hl 0 rfl) ?_
  refine kgtX11_30_0 F I_8 dX11_load_19 ?_
  refine kgtX11_184_6 F I_8 dX11_load_22 ?_
  refine lv_topi (fun x9 ex9 => ?_)
  replace hf := nm_some ex9 hf
  refine lv_istore_n (lv' := [(1, .int x9), (0, .ref (ad 0))]) hx hb dX11_load_25 rfl hl (by decide) rfl (fun ls_10 hl_10 => ?_)
  refine lv_aload_n hx hb dX11_load_26 rfl (lv_at hl_10 1 rfl) ?_
  refine lv_iload_n hx hb dX11_load_27 rfl (lv_at hl_10 0 rfl) ?_
  rcases xc_cases hf with hx11 | ⟨hn12, hf⟩
  · exact x_callV (As := [.int x9]) (rest := []) F I_8 hX htab hlk (xX_LT_requireRoom _ _ _ _ _ hl0 _ _ _ _ hx11) kX11_146 ⟨rfl, rfl⟩ ⟨Nat.le_trans (Nat.le_of_ble_eq_true rfl) hRf, Nat.le_trans (Nat.le_of_ble_eq_true rfl) hRl⟩ (0) 11 rfl rfl rfl rfl rfl hl_10.1 (Nat.le_of_ble_eq_true rfl) ⟨hRc, hRs⟩ dX11_load_28
  cases hf
def X_LT_count (G : Nat → Nat → Int32) (E : Nat → Nat → Int64) (P : Nat → Option PRec) (a0 : Int32) : Option (String × (Nat → Nat → Int32) × (Nat → Nat → Int64)) :=
if a0 < 0 then
(xc (X_LT_requireArgument G E (0 : Int32)) <|
none)
else
(if (7 : Int32) < a0 then
(xc (X_LT_requireArgument G E (0 : Int32)) <|
none)
else
(xc (X_LT_requireArgument G E (1 : Int32)) <|
none))
set_option maxRecDepth 100000 in
set_option maxHeartbeats 4000000 in
theorem xX_LT_count (G : Nat → Nat → Int32) (E : Nat → Nat → Int64) (Dd : Nat → Nat → UInt64) (P : Nat → Option PRec) (Z : List PRec) (hPZ : ∀ (k : Nat) (z : PRec), P k = some z → z ∈ Z) (hl0 : l.stackTraces = false) (a0 : Int32) (ex : String) (newG : Nat → Nat → Int32) (newE : Nat → Nat → Int64) (hf : X_LT_count G E P a0 = some (ex, newG, newE)) : sX D (cT cI cJ cD cS) (cW ad cI cJ cD cS) l yX11_count (ws1 yX11_count cX11_count 2 (some .int)) ({ frames := 7, cells := 1, slots := 6, locals := 102 }) [.ref (ad 0), .int a0] (G, E, Dd, P, Z) (newG, newE, Dd, P, Z) ex := by
  unfold X_LT_count at hf
  refine sX_of (by decide) (Nat.le_of_ble_eq_true rfl) ?_
  intro p e R s m args below meth c A ls F hRf hRl hRc hRs htab hlk I hX hl
  obtain ⟨hx, hb, hml, hown, hG⟩ := id F
  replace hl : lv_has ls 2 [(0, .ref (ad 0)), (1, .int a0)] := hl
  refine lv_iload_n hx hb dX11_count_0 rfl (lv_at hl 1 rfl) ?_
  refine lv_if_lt (tgt := 14) hx hb dX11_count_1 (by decide) (fun c8 => ?_) (fun c8 => ?_)
  · replace hf := (if_pos c8).symm.trans hf
    refine lv_iconst (v := (0 : Int32)) hx hb dX11_count_14 (by decide) ?_
    rcases xc_cases hf with hx1 | ⟨hn2, hf⟩
    · exact x_callS (As := [.int (0 : Int32)]) (rest := []) F I hX htab hlk (xX_LT_requireArgument _ _ _ _ _ hl0 _ _ _ _ hx1) kX11_76 ⟨rfl, rfl⟩ ⟨Nat.le_trans (Nat.le_of_ble_eq_true rfl) hRf, Nat.le_trans (Nat.le_of_ble_eq_true rfl) hRl⟩ rfl rfl hl.1 (Nat.le_of_ble_eq_true rfl) ⟨hRc, hRs⟩ dX11_count_15
    cases hf
  · replace hf := (if_neg c8).symm.trans hf
    refine lv_iload_n hx hb dX11_count_4 rfl (lv_at hl 1 rfl) ?_
    refine lv_bipush (v := (7 : Int32)) hx hb dX11_count_5 (by decide) ?_
    refine lv_icmp_gt (tgt := 14) hx hb dX11_count_7 (by decide) (fun c7 => ?_) (fun c7 => ?_)
    · replace hf := (if_pos c7).symm.trans hf
      refine lv_iconst (v := (0 : Int32)) hx hb dX11_count_14 (by decide) ?_
      rcases xc_cases hf with hx3 | ⟨hn4, hf⟩
      · exact x_callS (As := [.int (0 : Int32)]) (rest := []) F I hX htab hlk (xX_LT_requireArgument _ _ _ _ _ hl0 _ _ _ _ hx3) kX11_76 ⟨rfl, rfl⟩ ⟨Nat.le_trans (Nat.le_of_ble_eq_true rfl) hRf, Nat.le_trans (Nat.le_of_ble_eq_true rfl) hRl⟩ rfl rfl hl.1 (Nat.le_of_ble_eq_true rfl) ⟨hRc, hRs⟩ dX11_count_15
      cases hf
    · replace hf := (if_neg c7).symm.trans hf
      refine lv_iconst (v := (1 : Int32)) hx hb dX11_count_10 (by decide) ?_
      refine lv_goto (tgt := 15) hx hb dX11_count_11 (by decide) ?_
      rcases xc_cases hf with hx5 | ⟨hn6, hf⟩
      · exact x_callS (As := [.int (1 : Int32)]) (rest := []) F I hX htab hlk (xX_LT_requireArgument _ _ _ _ _ hl0 _ _ _ _ hx5) kX11_76 ⟨rfl, rfl⟩ ⟨Nat.le_trans (Nat.le_of_ble_eq_true rfl) hRf, Nat.le_trans (Nat.le_of_ble_eq_true rfl) hRl⟩ rfl rfl hl.1 (Nat.le_of_ble_eq_true rfl) ⟨hRc, hRs⟩ dX11_count_15
      cases hf
def X_LT_comparison (G : Nat → Nat → Int32) (E : Nat → Nat → Int64) (a0 : Int32) (a1 : Int32) : Option (String × (Nat → Nat → Int32) × (Nat → Nat → Int64)) :=
xc (X_LT_requireIndex G E a0 (G 5 0)) <|
bd0 (C_LT_requireIndex a0 (G 5 0)) <|
if a1 < 0 then
(xc (X_LT_requireArgument G E (0 : Int32)) <|
none)
else
(if (3 : Int32) < a1 then
(xc (X_LT_requireArgument G E (0 : Int32)) <|
none)
else
(xc (X_LT_requireArgument G E (1 : Int32)) <|
none))
set_option maxRecDepth 100000 in
set_option maxHeartbeats 4000000 in
theorem xX_LT_comparison (G : Nat → Nat → Int32) (E : Nat → Nat → Int64) (Dd : Nat → Nat → UInt64) (P : Nat → Option PRec) (Z : List PRec) (hl0 : l.stackTraces = false) (a0 : Int32) (a1 : Int32) (ex : String) (newG : Nat → Nat → Int32) (newE : Nat → Nat → Int64) (hf : X_LT_comparison G E a0 a1 = some (ex, newG, newE)) : sX D (cT cI cJ cD cS) (cW ad cI cJ cD cS) l yX11_comparison (ws1 yX11_comparison cX11_comparison 3 (some .int)) ({ frames := 7, cells := 1, slots := 6, locals := 103 }) [.ref (ad 0), .int a0, .int a1] (G, E, Dd, P, Z) (newG, newE, Dd, P, Z) ex := by
  unfold X_LT_comparison at hf
  refine sX_of (by decide) (Nat.le_of_ble_eq_true rfl) ?_
  intro p e R s m args below meth c A ls F hRf hRl hRc hRs htab hlk I hX hl
  obtain ⟨hx, hb, hml, hown, hG⟩ := id F
  replace hl : lv_has ls 3 [(0, .ref (ad 0)), (1, .int a0), (2, .int a1)] := hl
  refine lv_iload_n hx hb dX11_comparison_0 rfl (lv_at hl 1 rfl) ?_
  refine lv_aload_n hx hb dX11_comparison_1 rfl (lv_at hl 0 rfl) ?_
  refine kgtX11_16_0 F I dX11_comparison_2 ?_
  refine kgtX11_149_2 F I dX11_comparison_5 ?_
  rcases xc_cases hf with hx1 | ⟨hn2, hf⟩
  · exact x_callS (As := [.int a0, .int (G 5 0)]) (rest := []) F I hX htab hlk (xX_LT_requireIndex _ _ _ _ _ hl0 _ _ _ _ _ hx1) kX11_84 ⟨rfl, rfl⟩ ⟨Nat.le_trans (Nat.le_of_ble_eq_true rfl) hRf, Nat.le_trans (Nat.le_of_ble_eq_true rfl) hRl⟩ rfl rfl hl.1 (Nat.le_of_ble_eq_true rfl) ⟨hRc, hRs⟩ dX11_comparison_8
  obtain ⟨h3, hf⟩ := bd0_some hf
  refine s_callSv (As := [.int a0, .int (G 5 0)]) (rest := []) F I (cC_LT_requireIndex G E Dd P Z a0 (G 5 0) h3) kX11_84 ⟨rfl, rfl⟩ ⟨Nat.le_trans (Nat.le_of_ble_eq_true rfl) hRf, Nat.le_trans (Nat.le_of_ble_eq_true rfl) hRl⟩ rfl rfl hl.1 (Nat.le_of_ble_eq_true rfl) ⟨Nat.zero_le _, Nat.zero_le _⟩ dX11_comparison_8 ?_
  intro H_4 lo_4 I_4
  refine lv_iload_n hx hb dX11_comparison_11 rfl (lv_at hl 2 rfl) ?_
  refine lv_if_lt (tgt := 24) hx hb dX11_comparison_12 (by decide) (fun c12 => ?_) (fun c12 => ?_)
  · replace hf := (if_pos c12).symm.trans hf
    refine lv_iconst (v := (0 : Int32)) hx hb dX11_comparison_24 (by decide) ?_
    rcases xc_cases hf with hx5 | ⟨hn6, hf⟩
    · exact x_callS (As := [.int (0 : Int32)]) (rest := []) F I_4 hX htab hlk (xX_LT_requireArgument _ _ _ _ _ hl0 _ _ _ _ hx5) kX11_76 ⟨rfl, rfl⟩ ⟨Nat.le_trans (Nat.le_of_ble_eq_true rfl) hRf, Nat.le_trans (Nat.le_of_ble_eq_true rfl) hRl⟩ rfl rfl hl.1 (Nat.le_of_ble_eq_true rfl) ⟨hRc, hRs⟩ dX11_comparison_25
    cases hf
  · replace hf := (if_neg c12).symm.trans hf
    refine lv_iload_n hx hb dX11_comparison_15 rfl (lv_at hl 2 rfl) ?_
    refine lv_iconst (v := (3 : Int32)) hx hb dX11_comparison_16 (by decide) ?_
    refine lv_icmp_gt (tgt := 24) hx hb dX11_comparison_17 (by decide) (fun c11 => ?_) (fun c11 => ?_)
    · replace hf := (if_pos c11).symm.trans hf
      refine lv_iconst (v := (0 : Int32)) hx hb dX11_comparison_24 (by decide) ?_
      rcases xc_cases hf with hx7 | ⟨hn8, hf⟩
      · exact x_callS (As := [.int (0 : Int32)]) (rest := []) F I_4 hX htab hlk (xX_LT_requireArgument _ _ _ _ _ hl0 _ _ _ _ hx7) kX11_76 ⟨rfl, rfl⟩ ⟨Nat.le_trans (Nat.le_of_ble_eq_true rfl) hRf, Nat.le_trans (Nat.le_of_ble_eq_true rfl) hRl⟩ rfl rfl hl.1 (Nat.le_of_ble_eq_true rfl) ⟨hRc, hRs⟩ dX11_comparison_25
      cases hf
    · replace hf := (if_neg c11).symm.trans hf
      refine lv_iconst (v := (1 : Int32)) hx hb dX11_comparison_20 (by decide) ?_
      refine lv_goto (tgt := 25) hx hb dX11_comparison_21 (by decide) ?_
      rcases xc_cases hf with hx9 | ⟨hn10, hf⟩
      · exact x_callS (As := [.int (1 : Int32)]) (rest := []) F I_4 hX htab hlk (xX_LT_requireArgument _ _ _ _ _ hl0 _ _ _ _ hx9) kX11_76 ⟨rfl, rfl⟩ ⟨Nat.le_trans (Nat.le_of_ble_eq_true rfl) hRf, Nat.le_trans (Nat.le_of_ble_eq_true rfl) hRl⟩ rfl rfl hl.1 (Nat.le_of_ble_eq_true rfl) ⟨hRc, hRs⟩ dX11_comparison_25
      cases hf
def X_LT_result (G : Nat → Nat → Int32) (E : Nat → Nat → Int64) (a0 : Int32) (a1 : Int32) (a2 : Int32) : Option (String × (Nat → Nat → Int32) × (Nat → Nat → Int64)) :=
xc (X_LT_requireIndex G E a0 (G 0 0)) <|
bd0 (C_LT_requireIndex a0 (G 0 0)) <|
xc (X_LT_requireIndex G E a1 (G 0 0)) <|
bd0 (C_LT_requireIndex a1 (G 0 0)) <|
if a2 < 0 then
(xc (X_LT_requireArgument G E (0 : Int32)) <|
none)
else
(if (3 : Int32) < a2 then
(xc (X_LT_requireArgument G E (0 : Int32)) <|
none)
else
(xc (X_LT_requireArgument G E (1 : Int32)) <|
none))
set_option maxRecDepth 100000 in
set_option maxHeartbeats 4000000 in
theorem xX_LT_result (G : Nat → Nat → Int32) (E : Nat → Nat → Int64) (Dd : Nat → Nat → UInt64) (P : Nat → Option PRec) (Z : List PRec) (hl0 : l.stackTraces = false) (a0 : Int32) (a1 : Int32) (a2 : Int32) (ex : String) (newG : Nat → Nat → Int32) (newE : Nat → Nat → Int64) (hf : X_LT_result G E a0 a1 a2 = some (ex, newG, newE)) : sX D (cT cI cJ cD cS) (cW ad cI cJ cD cS) l yX11_result (ws1 yX11_result cX11_result 4 (some .int)) ({ frames := 7, cells := 1, slots := 6, locals := 103 }) [.ref (ad 0), .int a0, .int a1, .int a2] (G, E, Dd, P, Z) (newG, newE, Dd, P, Z) ex := by
  unfold X_LT_result at hf
  refine sX_of (by decide) (Nat.le_of_ble_eq_true rfl) ?_
  intro p e R s m args below meth c A ls F hRf hRl hRc hRs htab hlk I hX hl
  obtain ⟨hx, hb, hml, hown, hG⟩ := id F
  replace hl : lv_has ls 4 [(0, .ref (ad 0)), (1, .int a0), (2, .int a1), (3, .int a2)] := hl
  refine lv_iload_n hx hb dX11_result_0 rfl (lv_at hl 1 rfl) ?_
  refine lv_aload_n hx hb dX11_result_1 rfl (lv_at hl 0 rfl) ?_
  refine kgtX11_89_0 F I dX11_result_2 ?_
  rcases xc_cases hf with hx1 | ⟨hn2, hf⟩
  · exact x_callS (As := [.int a0, .int (G 0 0)]) (rest := []) F I hX htab hlk (xX_LT_requireIndex _ _ _ _ _ hl0 _ _ _ _ _ hx1) kX11_84 ⟨rfl, rfl⟩ ⟨Nat.le_trans (Nat.le_of_ble_eq_true rfl) hRf, Nat.le_trans (Nat.le_of_ble_eq_true rfl) hRl⟩ rfl rfl hl.1 (Nat.le_of_ble_eq_true rfl) ⟨hRc, hRs⟩ dX11_result_5
  obtain ⟨h3, hf⟩ := bd0_some hf
  refine s_callSv (As := [.int a0, .int (G 0 0)]) (rest := []) F I (cC_LT_requireIndex G E Dd P Z a0 (G 0 0) h3) kX11_84 ⟨rfl, rfl⟩ ⟨Nat.le_trans (Nat.le_of_ble_eq_true rfl) hRf, Nat.le_trans (Nat.le_of_ble_eq_true rfl) hRl⟩ rfl rfl hl.1 (Nat.le_of_ble_eq_true rfl) ⟨Nat.zero_le _, Nat.zero_le _⟩ dX11_result_5 ?_
  intro H_4 lo_4 I_4
  refine lv_iload_n hx hb dX11_result_8 rfl (lv_at hl 2 rfl) ?_
  refine lv_aload_n hx hb dX11_result_9 rfl (lv_at hl 0 rfl) ?_
  refine kgtX11_89_0 F I_4 dX11_result_10 ?_
  rcases xc_cases hf with hx5 | ⟨hn6, hf⟩
  · exact x_callS (As := [.int a1, .int (G 0 0)]) (rest := []) F I_4 hX htab hlk (xX_LT_requireIndex _ _ _ _ _ hl0 _ _ _ _ _ hx5) kX11_84 ⟨rfl, rfl⟩ ⟨Nat.le_trans (Nat.le_of_ble_eq_true rfl) hRf, Nat.le_trans (Nat.le_of_ble_eq_true rfl) hRl⟩ rfl rfl hl.1 (Nat.le_of_ble_eq_true rfl) ⟨hRc, hRs⟩ dX11_result_13
  obtain ⟨h7, hf⟩ := bd0_some hf
  refine s_callSv (As := [.int a1, .int (G 0 0)]) (rest := []) F I_4 (cC_LT_requireIndex G E Dd P Z a1 (G 0 0) h7) kX11_84 ⟨rfl, rfl⟩ ⟨Nat.le_trans (Nat.le_of_ble_eq_true rfl) hRf, Nat.le_trans (Nat.le_of_ble_eq_true rfl) hRl⟩ rfl rfl hl.1 (Nat.le_of_ble_eq_true rfl) ⟨Nat.zero_le _, Nat.zero_le _⟩ dX11_result_13 ?_
  intro H_8 lo_8 I_8
  refine lv_iload_n hx hb dX11_result_16 rfl (lv_at hl 3 rfl) ?_
  refine lv_if_lt (tgt := 29) hx hb dX11_result_17 (by decide) (fun c16 => ?_) (fun c16 => ?_)
  · replace hf := (if_pos c16).symm.trans hf
    refine lv_iconst (v := (0 : Int32)) hx hb dX11_result_29 (by decide) ?_
    rcases xc_cases hf with hx9 | ⟨hn10, hf⟩
    · exact x_callS (As := [.int (0 : Int32)]) (rest := []) F I_8 hX htab hlk (xX_LT_requireArgument _ _ _ _ _ hl0 _ _ _ _ hx9) kX11_76 ⟨rfl, rfl⟩ ⟨Nat.le_trans (Nat.le_of_ble_eq_true rfl) hRf, Nat.le_trans (Nat.le_of_ble_eq_true rfl) hRl⟩ rfl rfl hl.1 (Nat.le_of_ble_eq_true rfl) ⟨hRc, hRs⟩ dX11_result_30
    cases hf
  · replace hf := (if_neg c16).symm.trans hf
    refine lv_iload_n hx hb dX11_result_20 rfl (lv_at hl 3 rfl) ?_
    refine lv_iconst (v := (3 : Int32)) hx hb dX11_result_21 (by decide) ?_
    refine lv_icmp_gt (tgt := 29) hx hb dX11_result_22 (by decide) (fun c15 => ?_) (fun c15 => ?_)
    · replace hf := (if_pos c15).symm.trans hf
      refine lv_iconst (v := (0 : Int32)) hx hb dX11_result_29 (by decide) ?_
      rcases xc_cases hf with hx11 | ⟨hn12, hf⟩
      · exact x_callS (As := [.int (0 : Int32)]) (rest := []) F I_8 hX htab hlk (xX_LT_requireArgument _ _ _ _ _ hl0 _ _ _ _ hx11) kX11_76 ⟨rfl, rfl⟩ ⟨Nat.le_trans (Nat.le_of_ble_eq_true rfl) hRf, Nat.le_trans (Nat.le_of_ble_eq_true rfl) hRl⟩ rfl rfl hl.1 (Nat.le_of_ble_eq_true rfl) ⟨hRc, hRs⟩ dX11_result_30
      cases hf
    · replace hf := (if_neg c15).symm.trans hf
      refine lv_iconst (v := (1 : Int32)) hx hb dX11_result_25 (by decide) ?_
      refine lv_goto (tgt := 30) hx hb dX11_result_26 (by decide) ?_
      rcases xc_cases hf with hx13 | ⟨hn14, hf⟩
      · exact x_callS (As := [.int (1 : Int32)]) (rest := []) F I_8 hX htab hlk (xX_LT_requireArgument _ _ _ _ _ hl0 _ _ _ _ hx13) kX11_76 ⟨rfl, rfl⟩ ⟨Nat.le_trans (Nat.le_of_ble_eq_true rfl) hRf, Nat.le_trans (Nat.le_of_ble_eq_true rfl) hRl⟩ rfl rfl hl.1 (Nat.le_of_ble_eq_true rfl) ⟨hRc, hRs⟩ dX11_result_30
      cases hf
def X_LT_sample (G : Nat → Nat → Int32) (E : Nat → Nat → Int64) (a0 : Int32) (a1 : Int32) : Option (String × (Nat → Nat → Int32) × (Nat → Nat → Int64)) :=
xc (X_LT_requireIndex G E a0 (G 0 0)) <|
bd0 (C_LT_requireIndex a0 (G 0 0)) <|
if a1 < 0 then
(xc (X_LT_requireArgument G E (0 : Int32)) <|
none)
else
(if (5 : Int32) < a1 then
(xc (X_LT_requireArgument G E (0 : Int32)) <|
none)
else
(xc (X_LT_requireArgument G E (1 : Int32)) <|
none))
set_option maxRecDepth 100000 in
set_option maxHeartbeats 4000000 in
theorem xX_LT_sample (G : Nat → Nat → Int32) (E : Nat → Nat → Int64) (Dd : Nat → Nat → UInt64) (P : Nat → Option PRec) (Z : List PRec) (hl0 : l.stackTraces = false) (a0 : Int32) (a1 : Int32) (ex : String) (newG : Nat → Nat → Int32) (newE : Nat → Nat → Int64) (hf : X_LT_sample G E a0 a1 = some (ex, newG, newE)) : sX D (cT cI cJ cD cS) (cW ad cI cJ cD cS) l yX11_sample (ws1 yX11_sample cX11_sample 3 (some .int)) ({ frames := 7, cells := 1, slots := 6, locals := 103 }) [.ref (ad 0), .int a0, .int a1] (G, E, Dd, P, Z) (newG, newE, Dd, P, Z) ex := by
  unfold X_LT_sample at hf
  refine sX_of (by decide) (Nat.le_of_ble_eq_true rfl) ?_
  intro p e R s m args below meth c A ls F hRf hRl hRc hRs htab hlk I hX hl
  obtain ⟨hx, hb, hml, hown, hG⟩ := id F
  replace hl : lv_has ls 3 [(0, .ref (ad 0)), (1, .int a0), (2, .int a1)] := hl
  refine lv_iload_n hx hb dX11_sample_0 rfl (lv_at hl 1 rfl) ?_
  refine lv_aload_n hx hb dX11_sample_1 rfl (lv_at hl 0 rfl) ?_
  refine kgtX11_89_0 F I dX11_sample_2 ?_
  rcases xc_cases hf with hx1 | ⟨hn2, hf⟩
  · exact x_callS (As := [.int a0, .int (G 0 0)]) (rest := []) F I hX htab hlk (xX_LT_requireIndex _ _ _ _ _ hl0 _ _ _ _ _ hx1) kX11_84 ⟨rfl, rfl⟩ ⟨Nat.le_trans (Nat.le_of_ble_eq_true rfl) hRf, Nat.le_trans (Nat.le_of_ble_eq_true rfl) hRl⟩ rfl rfl hl.1 (Nat.le_of_ble_eq_true rfl) ⟨hRc, hRs⟩ dX11_sample_5
  obtain ⟨h3, hf⟩ := bd0_some hf
  refine s_callSv (As := [.int a0, .int (G 0 0)]) (rest := []) F I (cC_LT_requireIndex G E Dd P Z a0 (G 0 0) h3) kX11_84 ⟨rfl, rfl⟩ ⟨Nat.le_trans (Nat.le_of_ble_eq_true rfl) hRf, Nat.le_trans (Nat.le_of_ble_eq_true rfl) hRl⟩ rfl rfl hl.1 (Nat.le_of_ble_eq_true rfl) ⟨Nat.zero_le _, Nat.zero_le _⟩ dX11_sample_5 ?_
  intro H_4 lo_4 I_4
  refine lv_iload_n hx hb dX11_sample_8 rfl (lv_at hl 2 rfl) ?_
  refine lv_if_lt (tgt := 21) hx hb dX11_sample_9 (by decide) (fun c12 => ?_) (fun c12 => ?_)
  · replace hf := (if_pos c12).symm.trans hf
    refine lv_iconst (v := (0 : Int32)) hx hb dX11_sample_21 (by decide) ?_
    rcases xc_cases hf with hx5 | ⟨hn6, hf⟩
    · exact x_callS (As := [.int (0 : Int32)]) (rest := []) F I_4 hX htab hlk (xX_LT_requireArgument _ _ _ _ _ hl0 _ _ _ _ hx5) kX11_76 ⟨rfl, rfl⟩ ⟨Nat.le_trans (Nat.le_of_ble_eq_true rfl) hRf, Nat.le_trans (Nat.le_of_ble_eq_true rfl) hRl⟩ rfl rfl hl.1 (Nat.le_of_ble_eq_true rfl) ⟨hRc, hRs⟩ dX11_sample_22
    cases hf
  · replace hf := (if_neg c12).symm.trans hf
    refine lv_iload_n hx hb dX11_sample_12 rfl (lv_at hl 2 rfl) ?_
    refine lv_iconst (v := (5 : Int32)) hx hb dX11_sample_13 (by decide) ?_
    refine lv_icmp_gt (tgt := 21) hx hb dX11_sample_14 (by decide) (fun c11 => ?_) (fun c11 => ?_)
    · replace hf := (if_pos c11).symm.trans hf
      refine lv_iconst (v := (0 : Int32)) hx hb dX11_sample_21 (by decide) ?_
      rcases xc_cases hf with hx7 | ⟨hn8, hf⟩
      · exact x_callS (As := [.int (0 : Int32)]) (rest := []) F I_4 hX htab hlk (xX_LT_requireArgument _ _ _ _ _ hl0 _ _ _ _ hx7) kX11_76 ⟨rfl, rfl⟩ ⟨Nat.le_trans (Nat.le_of_ble_eq_true rfl) hRf, Nat.le_trans (Nat.le_of_ble_eq_true rfl) hRl⟩ rfl rfl hl.1 (Nat.le_of_ble_eq_true rfl) ⟨hRc, hRs⟩ dX11_sample_22
      cases hf
    · replace hf := (if_neg c11).symm.trans hf
      refine lv_iconst (v := (1 : Int32)) hx hb dX11_sample_17 (by decide) ?_
      refine lv_goto (tgt := 22) hx hb dX11_sample_18 (by decide) ?_
      rcases xc_cases hf with hx9 | ⟨hn10, hf⟩
      · exact x_callS (As := [.int (1 : Int32)]) (rest := []) F I_4 hX htab hlk (xX_LT_requireArgument _ _ _ _ _ hl0 _ _ _ _ hx9) kX11_76 ⟨rfl, rfl⟩ ⟨Nat.le_trans (Nat.le_of_ble_eq_true rfl) hRf, Nat.le_trans (Nat.le_of_ble_eq_true rfl) hRl⟩ rfl rfl hl.1 (Nat.le_of_ble_eq_true rfl) ⟨hRc, hRs⟩ dX11_sample_22
      cases hf
def X_LT_order (G : Nat → Nat → Int32) (E : Nat → Nat → Int64) (a0 : Int32) : Option (String × (Nat → Nat → Int32) × (Nat → Nat → Int64)) :=
xc (X_LT_requireIndex G E a0 (G 0 0)) <|
none
set_option maxRecDepth 100000 in
set_option maxHeartbeats 4000000 in
theorem xX_LT_order (G : Nat → Nat → Int32) (E : Nat → Nat → Int64) (Dd : Nat → Nat → UInt64) (P : Nat → Option PRec) (Z : List PRec) (hl0 : l.stackTraces = false) (a0 : Int32) (ex : String) (newG : Nat → Nat → Int32) (newE : Nat → Nat → Int64) (hf : X_LT_order G E a0 = some (ex, newG, newE)) : sX D (cT cI cJ cD cS) (cW ad cI cJ cD cS) l yX11_order (ws1 yX11_order cX11_order 2 (some .int)) ({ frames := 7, cells := 1, slots := 6, locals := 103 }) [.ref (ad 0), .int a0] (G, E, Dd, P, Z) (newG, newE, Dd, P, Z) ex := by
  unfold X_LT_order at hf
  refine sX_of (by decide) (Nat.le_of_ble_eq_true rfl) ?_
  intro p e R s m args below meth c A ls F hRf hRl hRc hRs htab hlk I hX hl
  obtain ⟨hx, hb, hml, hown, hG⟩ := id F
  replace hl : lv_has ls 2 [(0, .ref (ad 0)), (1, .int a0)] := hl
  refine lv_iload_n hx hb dX11_order_0 rfl (lv_at hl 1 rfl) ?_
  refine lv_aload_n hx hb dX11_order_1 rfl (lv_at hl 0 rfl) ?_
  refine kgtX11_89_0 F I dX11_order_2 ?_
  rcases xc_cases hf with hx1 | ⟨hn2, hf⟩
  · exact x_callS (As := [.int a0, .int (G 0 0)]) (rest := []) F I hX htab hlk (xX_LT_requireIndex _ _ _ _ _ hl0 _ _ _ _ _ hx1) kX11_84 ⟨rfl, rfl⟩ ⟨Nat.le_trans (Nat.le_of_ble_eq_true rfl) hRf, Nat.le_trans (Nat.le_of_ble_eq_true rfl) hRl⟩ rfl rfl hl.1 (Nat.le_of_ble_eq_true rfl) ⟨hRc, hRs⟩ dX11_order_5
  cases hf
def X_LT_summary (G : Nat → Nat → Int32) (E : Nat → Nat → Int64) (a0 : Int32) : Option (String × (Nat → Nat → Int32) × (Nat → Nat → Int64)) :=
if a0 < 0 then
(xc (X_LT_requireArgument G E (0 : Int32)) <|
none)
else
(if (5 : Int32) < a0 then
(xc (X_LT_requireArgument G E (0 : Int32)) <|
none)
else
(xc (X_LT_requireArgument G E (1 : Int32)) <|
none))
set_option maxRecDepth 100000 in
set_option maxHeartbeats 4000000 in
theorem xX_LT_summary (G : Nat → Nat → Int32) (E : Nat → Nat → Int64) (Dd : Nat → Nat → UInt64) (P : Nat → Option PRec) (Z : List PRec) (hl0 : l.stackTraces = false) (a0 : Int32) (ex : String) (newG : Nat → Nat → Int32) (newE : Nat → Nat → Int64) (hf : X_LT_summary G E a0 = some (ex, newG, newE)) : sX D (cT cI cJ cD cS) (cW ad cI cJ cD cS) l yX11_summary (ws1 yX11_summary cX11_summary 2 (some .int)) ({ frames := 7, cells := 1, slots := 6, locals := 102 }) [.ref (ad 0), .int a0] (G, E, Dd, P, Z) (newG, newE, Dd, P, Z) ex := by
  unfold X_LT_summary at hf
  refine sX_of (by decide) (Nat.le_of_ble_eq_true rfl) ?_
  intro p e R s m args below meth c A ls F hRf hRl hRc hRs htab hlk I hX hl
  obtain ⟨hx, hb, hml, hown, hG⟩ := id F
  replace hl : lv_has ls 2 [(0, .ref (ad 0)), (1, .int a0)] := hl
  refine lv_iload_n hx hb dX11_summary_0 rfl (lv_at hl 1 rfl) ?_
  refine lv_if_lt (tgt := 13) hx hb dX11_summary_1 (by decide) (fun c8 => ?_) (fun c8 => ?_)
  · replace hf := (if_pos c8).symm.trans hf
    refine lv_iconst (v := (0 : Int32)) hx hb dX11_summary_13 (by decide) ?_
    rcases xc_cases hf with hx1 | ⟨hn2, hf⟩
    · exact x_callS (As := [.int (0 : Int32)]) (rest := []) F I hX htab hlk (xX_LT_requireArgument _ _ _ _ _ hl0 _ _ _ _ hx1) kX11_76 ⟨rfl, rfl⟩ ⟨Nat.le_trans (Nat.le_of_ble_eq_true rfl) hRf, Nat.le_trans (Nat.le_of_ble_eq_true rfl) hRl⟩ rfl rfl hl.1 (Nat.le_of_ble_eq_true rfl) ⟨hRc, hRs⟩ dX11_summary_14
    cases hf
  · replace hf := (if_neg c8).symm.trans hf
    refine lv_iload_n hx hb dX11_summary_4 rfl (lv_at hl 1 rfl) ?_
    refine lv_iconst (v := (5 : Int32)) hx hb dX11_summary_5 (by decide) ?_
    refine lv_icmp_gt (tgt := 13) hx hb dX11_summary_6 (by decide) (fun c7 => ?_) (fun c7 => ?_)
    · replace hf := (if_pos c7).symm.trans hf
      refine lv_iconst (v := (0 : Int32)) hx hb dX11_summary_13 (by decide) ?_
      rcases xc_cases hf with hx3 | ⟨hn4, hf⟩
      · exact x_callS (As := [.int (0 : Int32)]) (rest := []) F I hX htab hlk (xX_LT_requireArgument _ _ _ _ _ hl0 _ _ _ _ hx3) kX11_76 ⟨rfl, rfl⟩ ⟨Nat.le_trans (Nat.le_of_ble_eq_true rfl) hRf, Nat.le_trans (Nat.le_of_ble_eq_true rfl) hRl⟩ rfl rfl hl.1 (Nat.le_of_ble_eq_true rfl) ⟨hRc, hRs⟩ dX11_summary_14
      cases hf
    · replace hf := (if_neg c7).symm.trans hf
      refine lv_iconst (v := (1 : Int32)) hx hb dX11_summary_9 (by decide) ?_
      refine lv_goto (tgt := 14) hx hb dX11_summary_10 (by decide) ?_
      rcases xc_cases hf with hx5 | ⟨hn6, hf⟩
      · exact x_callS (As := [.int (1 : Int32)]) (rest := []) F I hX htab hlk (xX_LT_requireArgument _ _ _ _ _ hl0 _ _ _ _ hx5) kX11_76 ⟨rfl, rfl⟩ ⟨Nat.le_trans (Nat.le_of_ble_eq_true rfl) hRf, Nat.le_trans (Nat.le_of_ble_eq_true rfl) hRl⟩ rfl rfl hl.1 (Nat.le_of_ble_eq_true rfl) ⟨hRc, hRs⟩ dX11_summary_14
      cases hf
def X_LT_without (G : Nat → Nat → Int32) (E : Nat → Nat → Int64) (a0 : Int32) (a1 : Int32) (a2 : Int32) : Option (String × (Nat → Nat → Int32) × (Nat → Nat → Int64)) :=
xc (X_LT_requireIndex G E a0 (G 1 0)) <|
bd0 (C_LT_requireIndex a0 (G 1 0)) <|
if a1 = (-1 : Int32) then
(if a2 < 0 then
(xc (X_LT_requireArgument G E (0 : Int32)) <|
none)
else
(if (5 : Int32) < a2 then
(xc (X_LT_requireArgument G E (0 : Int32)) <|
none)
else
(xc (X_LT_requireArgument G E (1 : Int32)) <|
none)))
else
(xc (X_LT_requireIndex G E a1 (G 0 0)) <|
bd0 (C_LT_requireIndex a1 (G 0 0)) <|
if a2 < 0 then
(xc (X_LT_requireArgument G E (0 : Int32)) <|
none)
else
(if (5 : Int32) < a2 then
(xc (X_LT_requireArgument G E (0 : Int32)) <|
none)
else
(xc (X_LT_requireArgument G E (1 : Int32)) <|
none)))
set_option maxRecDepth 100000 in
set_option maxHeartbeats 4000000 in
theorem xX_LT_without (G : Nat → Nat → Int32) (E : Nat → Nat → Int64) (Dd : Nat → Nat → UInt64) (P : Nat → Option PRec) (Z : List PRec) (hl0 : l.stackTraces = false) (a0 : Int32) (a1 : Int32) (a2 : Int32) (ex : String) (newG : Nat → Nat → Int32) (newE : Nat → Nat → Int64) (hf : X_LT_without G E a0 a1 a2 = some (ex, newG, newE)) : sX D (cT cI cJ cD cS) (cW ad cI cJ cD cS) l yX11_without (ws1 yX11_without cX11_without 4 (some .int)) ({ frames := 7, cells := 1, slots := 6, locals := 103 }) [.ref (ad 0), .int a0, .int a1, .int a2] (G, E, Dd, P, Z) (newG, newE, Dd, P, Z) ex := by
  unfold X_LT_without at hf
  refine sX_of (by decide) (Nat.le_of_ble_eq_true rfl) ?_
  intro p e R s m args below meth c A ls F hRf hRl hRc hRs htab hlk I hX hl
  obtain ⟨hx, hb, hml, hown, hG⟩ := id F
  replace hl : lv_has ls 4 [(0, .ref (ad 0)), (1, .int a0), (2, .int a1), (3, .int a2)] := hl
  refine lv_iload_n hx hb dX11_without_0 rfl (lv_at hl 1 rfl) ?_
  refine lv_aload_n hx hb dX11_without_1 rfl (lv_at hl 0 rfl) ?_
  refine kgtX11_80_0 F I dX11_without_2 ?_
  rcases xc_cases hf with hx1 | ⟨hn2, hf⟩
  · exact x_callS (As := [.int a0, .int (G 1 0)]) (rest := []) F I hX htab hlk (xX_LT_requireIndex _ _ _ _ _ hl0 _ _ _ _ _ hx1) kX11_84 ⟨rfl, rfl⟩ ⟨Nat.le_trans (Nat.le_of_ble_eq_true rfl) hRf, Nat.le_trans (Nat.le_of_ble_eq_true rfl) hRl⟩ rfl rfl hl.1 (Nat.le_of_ble_eq_true rfl) ⟨hRc, hRs⟩ dX11_without_5
  obtain ⟨h3, hf⟩ := bd0_some hf
  refine s_callSv (As := [.int a0, .int (G 1 0)]) (rest := []) F I (cC_LT_requireIndex G E Dd P Z a0 (G 1 0) h3) kX11_84 ⟨rfl, rfl⟩ ⟨Nat.le_trans (Nat.le_of_ble_eq_true rfl) hRf, Nat.le_trans (Nat.le_of_ble_eq_true rfl) hRl⟩ rfl rfl hl.1 (Nat.le_of_ble_eq_true rfl) ⟨Nat.zero_le _, Nat.zero_le _⟩ dX11_without_5 ?_
  intro H_4 lo_4 I_4
  refine lv_iload_n hx hb dX11_without_8 rfl (lv_at hl 2 rfl) ?_
  refine lv_iconst (v := (-1 : Int32)) hx hb dX11_without_9 (by decide) ?_
  refine lv_icmp_eq (tgt := 21) hx hb dX11_without_10 (by decide) (fun c25 => ?_) (fun c25 => ?_)
  · replace hf := (if_pos c25).symm.trans hf
    refine lv_iload_n hx hb dX11_without_21 rfl (lv_at hl 3 rfl) ?_
    refine lv_if_lt (tgt := 34) hx hb dX11_without_22 (by decide) (fun c12 => ?_) (fun c12 => ?_)
    · replace hf := (if_pos c12).symm.trans hf
      refine lv_iconst (v := (0 : Int32)) hx hb dX11_without_34 (by decide) ?_
      rcases xc_cases hf with hx5 | ⟨hn6, hf⟩
      · exact x_callS (As := [.int (0 : Int32)]) (rest := []) F I_4 hX htab hlk (xX_LT_requireArgument _ _ _ _ _ hl0 _ _ _ _ hx5) kX11_76 ⟨rfl, rfl⟩ ⟨Nat.le_trans (Nat.le_of_ble_eq_true rfl) hRf, Nat.le_trans (Nat.le_of_ble_eq_true rfl) hRl⟩ rfl rfl hl.1 (Nat.le_of_ble_eq_true rfl) ⟨hRc, hRs⟩ dX11_without_35
      cases hf
    · replace hf := (if_neg c12).symm.trans hf
      refine lv_iload_n hx hb dX11_without_25 rfl (lv_at hl 3 rfl) ?_
      refine lv_iconst (v := (5 : Int32)) hx hb dX11_without_26 (by decide) ?_
      refine lv_icmp_gt (tgt := 34) hx hb dX11_without_27 (by decide) (fun c11 => ?_) (fun c11 => ?_)
      · replace hf := (if_pos c11).symm.trans hf
        refine lv_iconst (v := (0 : Int32)) hx hb dX11_without_34 (by decide) ?_
        rcases xc_cases hf with hx7 | ⟨hn8, hf⟩
        · exact x_callS (As := [.int (0 : Int32)]) (rest := []) F I_4 hX htab hlk (xX_LT_requireArgument _ _ _ _ _ hl0 _ _ _ _ hx7) kX11_76 ⟨rfl, rfl⟩ ⟨Nat.le_trans (Nat.le_of_ble_eq_true rfl) hRf, Nat.le_trans (Nat.le_of_ble_eq_true rfl) hRl⟩ rfl rfl hl.1 (Nat.le_of_ble_eq_true rfl) ⟨hRc, hRs⟩ dX11_without_35
        cases hf
      · replace hf := (if_neg c11).symm.trans hf
        refine lv_iconst (v := (1 : Int32)) hx hb dX11_without_30 (by decide) ?_
        refine lv_goto (tgt := 35) hx hb dX11_without_31 (by decide) ?_
        rcases xc_cases hf with hx9 | ⟨hn10, hf⟩
        · exact x_callS (As := [.int (1 : Int32)]) (rest := []) F I_4 hX htab hlk (xX_LT_requireArgument _ _ _ _ _ hl0 _ _ _ _ hx9) kX11_76 ⟨rfl, rfl⟩ ⟨Nat.le_trans (Nat.le_of_ble_eq_true rfl) hRf, Nat.le_trans (Nat.le_of_ble_eq_true rfl) hRl⟩ rfl rfl hl.1 (Nat.le_of_ble_eq_true rfl) ⟨hRc, hRs⟩ dX11_without_35
        cases hf
  · replace hf := (if_neg c25).symm.trans hf
    refine lv_iload_n hx hb dX11_without_13 rfl (lv_at hl 2 rfl) ?_
    refine lv_aload_n hx hb dX11_without_14 rfl (lv_at hl 0 rfl) ?_
    refine kgtX11_89_0 F I_4 dX11_without_15 ?_
    rcases xc_cases hf with hx13 | ⟨hn14, hf⟩
    · exact x_callS (As := [.int a1, .int (G 0 0)]) (rest := []) F I_4 hX htab hlk (xX_LT_requireIndex _ _ _ _ _ hl0 _ _ _ _ _ hx13) kX11_84 ⟨rfl, rfl⟩ ⟨Nat.le_trans (Nat.le_of_ble_eq_true rfl) hRf, Nat.le_trans (Nat.le_of_ble_eq_true rfl) hRl⟩ rfl rfl hl.1 (Nat.le_of_ble_eq_true rfl) ⟨hRc, hRs⟩ dX11_without_18
    obtain ⟨h15, hf⟩ := bd0_some hf
    refine s_callSv (As := [.int a1, .int (G 0 0)]) (rest := []) F I_4 (cC_LT_requireIndex G E Dd P Z a1 (G 0 0) h15) kX11_84 ⟨rfl, rfl⟩ ⟨Nat.le_trans (Nat.le_of_ble_eq_true rfl) hRf, Nat.le_trans (Nat.le_of_ble_eq_true rfl) hRl⟩ rfl rfl hl.1 (Nat.le_of_ble_eq_true rfl) ⟨Nat.zero_le _, Nat.zero_le _⟩ dX11_without_18 ?_
    intro H_16 lo_16 I_16
    refine lv_iload_n hx hb dX11_without_21 rfl (lv_at hl 3 rfl) ?_
    refine lv_if_lt (tgt := 34) hx hb dX11_without_22 (by decide) (fun c24 => ?_) (fun c24 => ?_)
    · replace hf := (if_pos c24).symm.trans hf
      refine lv_iconst (v := (0 : Int32)) hx hb dX11_without_34 (by decide) ?_
      rcases xc_cases hf with hx17 | ⟨hn18, hf⟩
      · exact x_callS (As := [.int (0 : Int32)]) (rest := []) F I_16 hX htab hlk (xX_LT_requireArgument _ _ _ _ _ hl0 _ _ _ _ hx17) kX11_76 ⟨rfl, rfl⟩ ⟨Nat.le_trans (Nat.le_of_ble_eq_true rfl) hRf, Nat.le_trans (Nat.le_of_ble_eq_true rfl) hRl⟩ rfl rfl hl.1 (Nat.le_of_ble_eq_true rfl) ⟨hRc, hRs⟩ dX11_without_35
      cases hf
    · replace hf := (if_neg c24).symm.trans hf
      refine lv_iload_n hx hb dX11_without_25 rfl (lv_at hl 3 rfl) ?_
      refine lv_iconst (v := (5 : Int32)) hx hb dX11_without_26 (by decide) ?_
      refine lv_icmp_gt (tgt := 34) hx hb dX11_without_27 (by decide) (fun c23 => ?_) (fun c23 => ?_)
      · replace hf := (if_pos c23).symm.trans hf
        refine lv_iconst (v := (0 : Int32)) hx hb dX11_without_34 (by decide) ?_
        rcases xc_cases hf with hx19 | ⟨hn20, hf⟩
        · exact x_callS (As := [.int (0 : Int32)]) (rest := []) F I_16 hX htab hlk (xX_LT_requireArgument _ _ _ _ _ hl0 _ _ _ _ hx19) kX11_76 ⟨rfl, rfl⟩ ⟨Nat.le_trans (Nat.le_of_ble_eq_true rfl) hRf, Nat.le_trans (Nat.le_of_ble_eq_true rfl) hRl⟩ rfl rfl hl.1 (Nat.le_of_ble_eq_true rfl) ⟨hRc, hRs⟩ dX11_without_35
        cases hf
      · replace hf := (if_neg c23).symm.trans hf
        refine lv_iconst (v := (1 : Int32)) hx hb dX11_without_30 (by decide) ?_
        refine lv_goto (tgt := 35) hx hb dX11_without_31 (by decide) ?_
        rcases xc_cases hf with hx21 | ⟨hn22, hf⟩
        · exact x_callS (As := [.int (1 : Int32)]) (rest := []) F I_16 hX htab hlk (xX_LT_requireArgument _ _ _ _ _ hl0 _ _ _ _ hx21) kX11_76 ⟨rfl, rfl⟩ ⟨Nat.le_trans (Nat.le_of_ble_eq_true rfl) hRf, Nat.le_trans (Nat.le_of_ble_eq_true rfl) hRl⟩ rfl rfl hl.1 (Nat.le_of_ble_eq_true rfl) ⟨hRc, hRs⟩ dX11_without_35
        cases hf
def X_LT_rings (G : Nat → Nat → Int32) (E : Nat → Nat → Int64) (a0 : Int32) : Option (String × (Nat → Nat → Int32) × (Nat → Nat → Int64)) :=
xc (X_LT_requireIndex G E a0 (G 1 0)) <|
none
set_option maxRecDepth 100000 in
set_option maxHeartbeats 4000000 in
theorem xX_LT_rings (G : Nat → Nat → Int32) (E : Nat → Nat → Int64) (Dd : Nat → Nat → UInt64) (P : Nat → Option PRec) (Z : List PRec) (hl0 : l.stackTraces = false) (a0 : Int32) (ex : String) (newG : Nat → Nat → Int32) (newE : Nat → Nat → Int64) (hf : X_LT_rings G E a0 = some (ex, newG, newE)) : sX D (cT cI cJ cD cS) (cW ad cI cJ cD cS) l yX11_rings (ws1 yX11_rings cX11_rings 2 (some .int)) ({ frames := 7, cells := 1, slots := 6, locals := 103 }) [.ref (ad 0), .int a0] (G, E, Dd, P, Z) (newG, newE, Dd, P, Z) ex := by
  unfold X_LT_rings at hf
  refine sX_of (by decide) (Nat.le_of_ble_eq_true rfl) ?_
  intro p e R s m args below meth c A ls F hRf hRl hRc hRs htab hlk I hX hl
  obtain ⟨hx, hb, hml, hown, hG⟩ := id F
  replace hl : lv_has ls 2 [(0, .ref (ad 0)), (1, .int a0)] := hl
  refine lv_iload_n hx hb dX11_rings_0 rfl (lv_at hl 1 rfl) ?_
  refine lv_aload_n hx hb dX11_rings_1 rfl (lv_at hl 0 rfl) ?_
  refine kgtX11_80_0 F I dX11_rings_2 ?_
  rcases xc_cases hf with hx1 | ⟨hn2, hf⟩
  · exact x_callS (As := [.int a0, .int (G 1 0)]) (rest := []) F I hX htab hlk (xX_LT_requireIndex _ _ _ _ _ hl0 _ _ _ _ _ hx1) kX11_84 ⟨rfl, rfl⟩ ⟨Nat.le_trans (Nat.le_of_ble_eq_true rfl) hRf, Nat.le_trans (Nat.le_of_ble_eq_true rfl) hRl⟩ rfl rfl hl.1 (Nat.le_of_ble_eq_true rfl) ⟨hRc, hRs⟩ dX11_rings_5
  cases hf
def X_LT_consistency (G : Nat → Nat → Int32) (E : Nat → Nat → Int64) (a0 : Int32) : Option (String × (Nat → Nat → Int32) × (Nat → Nat → Int64)) :=
xc (X_LT_requireIndex G E a0 (G 1 0)) <|
bd0 (C_LT_requireIndex a0 (G 1 0)) <|
bd (C_LE_takeListener_12 G a0) fun G5 =>
bd (C_LE_isComplete_12 G5 (G5 0 0)) fun r8 =>
if r8 = 0 then
(some ("java/lang/IllegalStateException", G5, E))
else
(none)
set_option maxRecDepth 100000 in
set_option maxHeartbeats 4000000 in
theorem xX_LT_consistency (G : Nat → Nat → Int32) (E : Nat → Nat → Int64) (Dd : Nat → Nat → UInt64) (P : Nat → Option PRec) (Z : List PRec) (hl0 : l.stackTraces = false) (a0 : Int32) (ex : String) (newG : Nat → Nat → Int32) (newE : Nat → Nat → Int64) (hf : X_LT_consistency G E a0 = some (ex, newG, newE)) : sX D (cT cI cJ cD cS) (cW ad cI cJ cD cS) l yX11_consistency (ws1 yX11_consistency cX11_consistency 3 (some .double)) ({ frames := 7, cells := 1, slots := 6, locals := 103 }) [.ref (ad 0), .int a0] (G, E, Dd, P, Z) (newG, newE, Dd, P, Z) ex := by
  unfold X_LT_consistency at hf
  refine sX_of (by decide) (Nat.le_of_ble_eq_true rfl) ?_
  intro p e R s m args below meth c A ls F hRf hRl hRc hRs htab hlk I hX hl
  obtain ⟨hx, hb, hml, hown, hG⟩ := id F
  replace hl : lv_has ls 3 [(0, .ref (ad 0)), (1, .int a0)] := hl
  refine lv_iload_n hx hb dX11_consistency_0 rfl (lv_at hl 1 rfl) ?_
  refine lv_aload_n hx hb dX11_consistency_1 rfl (lv_at hl 0 rfl) ?_
  refine kgtX11_80_0 F I dX11_consistency_2 ?_
  rcases xc_cases hf with hx1 | ⟨hn2, hf⟩
  · exact x_callS (As := [.int a0, .int (G 1 0)]) (rest := []) F I hX htab hlk (xX_LT_requireIndex _ _ _ _ _ hl0 _ _ _ _ _ hx1) kX11_84 ⟨rfl, rfl⟩ ⟨Nat.le_trans (Nat.le_of_ble_eq_true rfl) hRf, Nat.le_trans (Nat.le_of_ble_eq_true rfl) hRl⟩ rfl rfl hl.1 (Nat.le_of_ble_eq_true rfl) ⟨hRc, hRs⟩ dX11_consistency_5
  obtain ⟨h3, hf⟩ := bd0_some hf
  refine s_callSv (As := [.int a0, .int (G 1 0)]) (rest := []) F I (cC_LT_requireIndex G E Dd P Z a0 (G 1 0) h3) kX11_84 ⟨rfl, rfl⟩ ⟨Nat.le_trans (Nat.le_of_ble_eq_true rfl) hRf, Nat.le_trans (Nat.le_of_ble_eq_true rfl) hRl⟩ rfl rfl hl.1 (Nat.le_of_ble_eq_true rfl) ⟨Nat.zero_le _, Nat.zero_le _⟩ dX11_consistency_5 ?_
  intro H_4 lo_4 I_4
  refine lv_aload_n hx hb dX11_consistency_8 rfl (lv_at hl 0 rfl) ?_
  refine kgtX11_44_0 F I_4 dX11_consistency_9 ?_
  refine lv_aload_n hx hb dX11_consistency_12 rfl (lv_at hl 0 rfl) ?_
  refine kgtX11_16_0 F I_4 dX11_consistency_13 ?_
  refine lv_iload_n hx hb dX11_consistency_16 rfl (lv_at hl 1 rfl) ?_
  obtain ⟨G5, h6, hf⟩ := bd_some hf
  refine s_callVv (As := [.ref (ad 2), .int a0]) (rest := []) F I_4 (cC_LE_takeListener_12 G E Dd P Z a0 G5 h6) kX11_233 ⟨rfl, rfl⟩ ⟨Nat.le_trans (Nat.le_of_ble_eq_true rfl) hRf, Nat.le_trans (Nat.le_of_ble_eq_true rfl) hRl⟩ (12) 3 rfl rfl rfl rfl rfl hl.1 (Nat.le_of_ble_eq_true rfl) ⟨Nat.zero_le _, Nat.zero_le _⟩ dX11_consistency_17 ?_
  intro H_7 lo_7 I_7
  refine lv_aload_n hx hb dX11_consistency_20 rfl (lv_at hl 0 rfl) ?_
  refine kgtX11_44_0 F I_7 dX11_consistency_21 ?_
  refine lv_aload_n hx hb dX11_consistency_24 rfl (lv_at hl 0 rfl) ?_
  refine kgtX11_89_0 F I_7 dX11_consistency_25 ?_
  obtain ⟨r8, h9, hf⟩ := bd_some hf
  refine s_callVi (As := [.int (G5 0 0)]) (rest := []) F I_7 (cC_LE_isComplete_12 G5 E Dd P Z (G5 0 0) r8 h9) kX11_237 ⟨rfl, rfl⟩ ⟨Nat.le_trans (Nat.le_of_ble_eq_true rfl) hRf, Nat.le_trans (Nat.le_of_ble_eq_true rfl) hRl⟩ (12) 3 rfl rfl rfl rfl rfl hl.1 (Nat.le_of_ble_eq_true rfl) ⟨Nat.zero_le _, Nat.zero_le _⟩ dX11_consistency_28 ?_
  intro H_10 lo_10 I_10
  refine lv_if_ne (tgt := 44) hx hb dX11_consistency_31 (by decide) (fun c11 => ?_) (fun c11 => ?_)
  · replace hf := (if_neg c11).symm.trans hf
    cases hf
  · replace hf := (if_pos c11).symm.trans hf
    cases hf
    exact x_thrS (ik := 106) (is := 241) (ic := 110) (text := "the listener is not complete") F I_10 hX hl0 htab hlk hl.1 (by decide +kernel) q938 q125 (by decide) (xatS hG hX) xgoS (Nat.le_trans (Nat.le_of_ble_eq_true rfl) hRf) (Nat.le_trans (Nat.le_of_ble_eq_true rfl) hRl) hRc hRs dX11_consistency_34 dX11_consistency_37 dX11_consistency_38 dX11_consistency_40 dX11_consistency_43
def X_LT_agreement (G : Nat → Nat → Int32) (E : Nat → Nat → Int64) (a0 : Int32) (a1 : Int32) : Option (String × (Nat → Nat → Int32) × (Nat → Nat → Int64)) :=
xc (X_LT_requireIndex G E a0 (G 1 0)) <|
bd0 (C_LT_requireIndex a0 (G 1 0)) <|
xc (X_LT_requireIndex G E a1 (G 1 0)) <|
none
set_option maxRecDepth 100000 in
set_option maxHeartbeats 4000000 in
theorem xX_LT_agreement (G : Nat → Nat → Int32) (E : Nat → Nat → Int64) (Dd : Nat → Nat → UInt64) (P : Nat → Option PRec) (Z : List PRec) (hl0 : l.stackTraces = false) (a0 : Int32) (a1 : Int32) (ex : String) (newG : Nat → Nat → Int32) (newE : Nat → Nat → Int64) (hf : X_LT_agreement G E a0 a1 = some (ex, newG, newE)) : sX D (cT cI cJ cD cS) (cW ad cI cJ cD cS) l yX11_agreement (ws1 yX11_agreement cX11_agreement 9 (some .double)) ({ frames := 7, cells := 1, slots := 6, locals := 103 }) [.ref (ad 0), .int a0, .int a1] (G, E, Dd, P, Z) (newG, newE, Dd, P, Z) ex := by
  unfold X_LT_agreement at hf
  refine sX_of (by decide) (Nat.le_of_ble_eq_true rfl) ?_
  intro p e R s m args below meth c A ls F hRf hRl hRc hRs htab hlk I hX hl
  obtain ⟨hx, hb, hml, hown, hG⟩ := id F
  replace hl : lv_has ls 9 [(0, .ref (ad 0)), (1, .int a0), (2, .int a1)] := hl
  refine lv_iload_n hx hb dX11_agreement_0 rfl (lv_at hl 1 rfl) ?_
  refine lv_aload_n hx hb dX11_agreement_1 rfl (lv_at hl 0 rfl) ?_
  refine kgtX11_80_0 F I dX11_agreement_2 ?_
  rcases xc_cases hf with hx1 | ⟨hn2, hf⟩
  · exact x_callS (As := [.int a0, .int (G 1 0)]) (rest := []) F I hX htab hlk (xX_LT_requireIndex _ _ _ _ _ hl0 _ _ _ _ _ hx1) kX11_84 ⟨rfl, rfl⟩ ⟨Nat.le_trans (Nat.le_of_ble_eq_true rfl) hRf, Nat.le_trans (Nat.le_of_ble_eq_true rfl) hRl⟩ rfl rfl hl.1 (Nat.le_of_ble_eq_true rfl) ⟨hRc, hRs⟩ dX11_agreement_5
  obtain ⟨h3, hf⟩ := bd0_some hf
  refine s_callSv (As := [.int a0, .int (G 1 0)]) (rest := []) F I (cC_LT_requireIndex G E Dd P Z a0 (G 1 0) h3) kX11_84 ⟨rfl, rfl⟩ ⟨Nat.le_trans (Nat.le_of_ble_eq_true rfl) hRf, Nat.le_trans (Nat.le_of_ble_eq_true rfl) hRl⟩ rfl rfl hl.1 (Nat.le_of_ble_eq_true rfl) ⟨Nat.zero_le _, Nat.zero_le _⟩ dX11_agreement_5 ?_
  intro H_4 lo_4 I_4
  refine lv_iload_n hx hb dX11_agreement_8 rfl (lv_at hl 2 rfl) ?_
  refine lv_aload_n hx hb dX11_agreement_9 rfl (lv_at hl 0 rfl) ?_
  refine kgtX11_80_0 F I_4 dX11_agreement_10 ?_
  rcases xc_cases hf with hx5 | ⟨hn6, hf⟩
  · exact x_callS (As := [.int a1, .int (G 1 0)]) (rest := []) F I_4 hX htab hlk (xX_LT_requireIndex _ _ _ _ _ hl0 _ _ _ _ _ hx5) kX11_84 ⟨rfl, rfl⟩ ⟨Nat.le_trans (Nat.le_of_ble_eq_true rfl) hRf, Nat.le_trans (Nat.le_of_ble_eq_true rfl) hRl⟩ rfl rfl hl.1 (Nat.le_of_ble_eq_true rfl) ⟨hRc, hRs⟩ dX11_agreement_13
  cases hf
def X_LT_chance (G : Nat → Nat → Int32) (E : Nat → Nat → Int64) (a0 : Int32) (a1 : Int32) : Option (String × (Nat → Nat → Int32) × (Nat → Nat → Int64)) :=
xc (X_LT_requireIndex G E a0 (G 0 0)) <|
bd0 (C_LT_requireIndex a0 (G 0 0)) <|
xc (X_LT_requireIndex G E a1 (G 0 0)) <|
bd0 (C_LT_requireIndex a1 (G 0 0)) <|
if a0 = a1 then
(xc (X_LT_requireArgument G E (0 : Int32)) <|
none)
else
(xc (X_LT_requireArgument G E (1 : Int32)) <|
none)
set_option maxRecDepth 100000 in
set_option maxHeartbeats 4000000 in
theorem xX_LT_chance (G : Nat → Nat → Int32) (E : Nat → Nat → Int64) (Dd : Nat → Nat → UInt64) (P : Nat → Option PRec) (Z : List PRec) (hl0 : l.stackTraces = false) (a0 : Int32) (a1 : Int32) (ex : String) (newG : Nat → Nat → Int32) (newE : Nat → Nat → Int64) (hf : X_LT_chance G E a0 a1 = some (ex, newG, newE)) : sX D (cT cI cJ cD cS) (cW ad cI cJ cD cS) l yX11_chance (ws1 yX11_chance cX11_chance 3 (some .long)) ({ frames := 7, cells := 1, slots := 6, locals := 103 }) [.ref (ad 0), .int a0, .int a1] (G, E, Dd, P, Z) (newG, newE, Dd, P, Z) ex := by
  unfold X_LT_chance at hf
  refine sX_of (by decide) (Nat.le_of_ble_eq_true rfl) ?_
  intro p e R s m args below meth c A ls F hRf hRl hRc hRs htab hlk I hX hl
  obtain ⟨hx, hb, hml, hown, hG⟩ := id F
  replace hl : lv_has ls 3 [(0, .ref (ad 0)), (1, .int a0), (2, .int a1)] := hl
  refine lv_iload_n hx hb dX11_chance_0 rfl (lv_at hl 1 rfl) ?_
  refine lv_aload_n hx hb dX11_chance_1 rfl (lv_at hl 0 rfl) ?_
  refine kgtX11_89_0 F I dX11_chance_2 ?_
  rcases xc_cases hf with hx1 | ⟨hn2, hf⟩
  · exact x_callS (As := [.int a0, .int (G 0 0)]) (rest := []) F I hX htab hlk (xX_LT_requireIndex _ _ _ _ _ hl0 _ _ _ _ _ hx1) kX11_84 ⟨rfl, rfl⟩ ⟨Nat.le_trans (Nat.le_of_ble_eq_true rfl) hRf, Nat.le_trans (Nat.le_of_ble_eq_true rfl) hRl⟩ rfl rfl hl.1 (Nat.le_of_ble_eq_true rfl) ⟨hRc, hRs⟩ dX11_chance_5
  obtain ⟨h3, hf⟩ := bd0_some hf
  refine s_callSv (As := [.int a0, .int (G 0 0)]) (rest := []) F I (cC_LT_requireIndex G E Dd P Z a0 (G 0 0) h3) kX11_84 ⟨rfl, rfl⟩ ⟨Nat.le_trans (Nat.le_of_ble_eq_true rfl) hRf, Nat.le_trans (Nat.le_of_ble_eq_true rfl) hRl⟩ rfl rfl hl.1 (Nat.le_of_ble_eq_true rfl) ⟨Nat.zero_le _, Nat.zero_le _⟩ dX11_chance_5 ?_
  intro H_4 lo_4 I_4
  refine lv_iload_n hx hb dX11_chance_8 rfl (lv_at hl 2 rfl) ?_
  refine lv_aload_n hx hb dX11_chance_9 rfl (lv_at hl 0 rfl) ?_
  refine kgtX11_89_0 F I_4 dX11_chance_10 ?_
  rcases xc_cases hf with hx5 | ⟨hn6, hf⟩
  · exact x_callS (As := [.int a1, .int (G 0 0)]) (rest := []) F I_4 hX htab hlk (xX_LT_requireIndex _ _ _ _ _ hl0 _ _ _ _ _ hx5) kX11_84 ⟨rfl, rfl⟩ ⟨Nat.le_trans (Nat.le_of_ble_eq_true rfl) hRf, Nat.le_trans (Nat.le_of_ble_eq_true rfl) hRl⟩ rfl rfl hl.1 (Nat.le_of_ble_eq_true rfl) ⟨hRc, hRs⟩ dX11_chance_13
  obtain ⟨h7, hf⟩ := bd0_some hf
  refine s_callSv (As := [.int a1, .int (G 0 0)]) (rest := []) F I_4 (cC_LT_requireIndex G E Dd P Z a1 (G 0 0) h7) kX11_84 ⟨rfl, rfl⟩ ⟨Nat.le_trans (Nat.le_of_ble_eq_true rfl) hRf, Nat.le_trans (Nat.le_of_ble_eq_true rfl) hRl⟩ rfl rfl hl.1 (Nat.le_of_ble_eq_true rfl) ⟨Nat.zero_le _, Nat.zero_le _⟩ dX11_chance_13 ?_
  intro H_8 lo_8 I_8
  refine lv_iload_n hx hb dX11_chance_16 rfl (lv_at hl 1 rfl) ?_
  refine lv_iload_n hx hb dX11_chance_17 rfl (lv_at hl 2 rfl) ?_
  refine lv_icmp_eq (tgt := 25) hx hb dX11_chance_18 (by decide) (fun c13 => ?_) (fun c13 => ?_)
  · replace hf := (if_pos c13).symm.trans hf
    refine lv_iconst (v := (0 : Int32)) hx hb dX11_chance_25 (by decide) ?_
    rcases xc_cases hf with hx9 | ⟨hn10, hf⟩
    · exact x_callS (As := [.int (0 : Int32)]) (rest := []) F I_8 hX htab hlk (xX_LT_requireArgument _ _ _ _ _ hl0 _ _ _ _ hx9) kX11_76 ⟨rfl, rfl⟩ ⟨Nat.le_trans (Nat.le_of_ble_eq_true rfl) hRf, Nat.le_trans (Nat.le_of_ble_eq_true rfl) hRl⟩ rfl rfl hl.1 (Nat.le_of_ble_eq_true rfl) ⟨hRc, hRs⟩ dX11_chance_26
    cases hf
  · replace hf := (if_neg c13).symm.trans hf
    refine lv_iconst (v := (1 : Int32)) hx hb dX11_chance_21 (by decide) ?_
    refine lv_goto (tgt := 26) hx hb dX11_chance_22 (by decide) ?_
    rcases xc_cases hf with hx11 | ⟨hn12, hf⟩
    · exact x_callS (As := [.int (1 : Int32)]) (rest := []) F I_8 hX htab hlk (xX_LT_requireArgument _ _ _ _ _ hl0 _ _ _ _ hx11) kX11_76 ⟨rfl, rfl⟩ ⟨Nat.le_trans (Nat.le_of_ble_eq_true rfl) hRf, Nat.le_trans (Nat.le_of_ble_eq_true rfl) hRl⟩ rfl rfl hl.1 (Nat.le_of_ble_eq_true rfl) ⟨hRc, hRs⟩ dX11_chance_26
    cases hf
def X_LT_proved (G : Nat → Nat → Int32) (E : Nat → Nat → Int64) (a0 : Int32) (a1 : Int32) : Option (String × (Nat → Nat → Int32) × (Nat → Nat → Int64)) :=
if a0 < (1 : Int32) then
(xc (X_LT_requireArgument G E (0 : Int32)) <|
bd0 (C_LT_requireArgument (0 : Int32)) <|
bd3 (C_LT_provedAt G E a0) fun r5 G6 E7 =>
if a1 = (-1 : Int32) then
(none)
else
(xc (X_LT_requireIndex G6 E7 a1 r5) <|
none))
else
(if (1000 : Int32) < a0 then
(xc (X_LT_requireArgument G E (0 : Int32)) <|
bd0 (C_LT_requireArgument (0 : Int32)) <|
bd3 (C_LT_provedAt G E a0) fun r18 G19 E20 =>
if a1 = (-1 : Int32) then
(none)
else
(xc (X_LT_requireIndex G19 E20 a1 r18) <|
none))
else
(xc (X_LT_requireArgument G E (1 : Int32)) <|
bd0 (C_LT_requireArgument (1 : Int32)) <|
bd3 (C_LT_provedAt G E a0) fun r31 G32 E33 =>
if a1 = (-1 : Int32) then
(none)
else
(xc (X_LT_requireIndex G32 E33 a1 r31) <|
none)))
set_option maxRecDepth 100000 in
set_option maxHeartbeats 4000000 in
theorem xX_LT_proved (G : Nat → Nat → Int32) (E : Nat → Nat → Int64) (Dd : Nat → Nat → UInt64) (P : Nat → Option PRec) (Z : List PRec) (hl0 : l.stackTraces = false) (a0 : Int32) (a1 : Int32) (ex : String) (newG : Nat → Nat → Int32) (newE : Nat → Nat → Int64) (hf : X_LT_proved G E a0 a1 = some (ex, newG, newE)) : sX D (cT cI cJ cD cS) (cW ad cI cJ cD cS) l yX11_proved (ws1 yX11_proved cX11_proved 4 (some .int)) ({ frames := 7, cells := 1, slots := 6, locals := 118 }) [.ref (ad 0), .int a0, .int a1] (G, E, Dd, P, Z) (newG, newE, Dd, P, Z) ex := by
  unfold X_LT_proved at hf
  refine sX_of (by decide) (Nat.le_of_ble_eq_true rfl) ?_
  intro p e R s m args below meth c A ls F hRf hRl hRc hRs htab hlk I hX hl
  obtain ⟨hx, hb, hml, hown, hG⟩ := id F
  replace hl : lv_has ls 4 [(0, .ref (ad 0)), (1, .int a0), (2, .int a1)] := hl
  refine lv_iload_n hx hb dX11_proved_0 rfl (lv_at hl 1 rfl) ?_
  refine lv_iconst (v := (1 : Int32)) hx hb dX11_proved_1 (by decide) ?_
  refine lv_icmp_lt (tgt := 16) hx hb dX11_proved_2 (by decide) (fun c41 => ?_) (fun c41 => ?_)
  · replace hf := (if_pos c41).symm.trans hf
    refine lv_iconst (v := (0 : Int32)) hx hb dX11_proved_16 (by decide) ?_
    rcases xc_cases hf with hx1 | ⟨hn2, hf⟩
    · exact x_callS (As := [.int (0 : Int32)]) (rest := []) F I hX htab hlk (xX_LT_requireArgument _ _ _ _ _ hl0 _ _ _ _ hx1) kX11_76 ⟨rfl, rfl⟩ ⟨Nat.le_trans (Nat.le_of_ble_eq_true rfl) hRf, Nat.le_trans (Nat.le_of_ble_eq_true rfl) hRl⟩ rfl rfl hl.1 (Nat.le_of_ble_eq_true rfl) ⟨hRc, hRs⟩ dX11_proved_17
    obtain ⟨h3, hf⟩ := bd0_some hf
    refine s_callSv (As := [.int (0 : Int32)]) (rest := []) F I (cC_LT_requireArgument G E Dd P Z (0 : Int32) h3) kX11_76 ⟨rfl, rfl⟩ ⟨Nat.le_trans (Nat.le_of_ble_eq_true rfl) hRf, Nat.le_trans (Nat.le_of_ble_eq_true rfl) hRl⟩ rfl rfl hl.1 (Nat.le_of_ble_eq_true rfl) ⟨Nat.zero_le _, Nat.zero_le _⟩ dX11_proved_17 ?_
    intro H_4 lo_4 I_4
    refine lv_aload_n hx hb dX11_proved_20 rfl (lv_at hl 0 rfl) ?_
    refine lv_iload_n hx hb dX11_proved_21 rfl (lv_at hl 1 rfl) ?_
    obtain ⟨r5, G6, E7, h8, hf⟩ := bd3_some hf
    refine s_callVi (As := [.int a0]) (rest := []) F I_4 (cC_LT_provedAt G E Dd P Z a0 r5 G6 E7 h8) kX11_259 ⟨rfl, rfl⟩ ⟨Nat.le_trans (Nat.le_of_ble_eq_true rfl) hRf, Nat.le_trans (Nat.le_of_ble_eq_true rfl) hRl⟩ (0) 11 rfl rfl rfl rfl rfl hl.1 (Nat.le_of_ble_eq_true rfl) ⟨Nat.zero_le _, Nat.zero_le _⟩ dX11_proved_22 ?_
    intro H_9 lo_9 I_9
    refine lv_istore_n (lv' := [(3, .int r5), (0, .ref (ad 0)), (1, .int a0), (2, .int a1)]) hx hb dX11_proved_25 rfl hl (by decide) rfl (fun ls_10 hl_10 => ?_)
    refine lv_iload_n hx hb dX11_proved_26 rfl (lv_at hl_10 3 rfl) ?_
    refine lv_iconst (v := (-1 : Int32)) hx hb dX11_proved_27 (by decide) ?_
    refine lv_icmp_ne (tgt := 33) hx hb dX11_proved_28 (by decide) (fun c13 => ?_) (fun c13 => ?_)
    · replace hf := (if_neg c13).symm.trans hf
      refine lv_iload_n hx hb dX11_proved_33 rfl (lv_at hl_10 3 rfl) ?_
      refine lv_iload_n hx hb dX11_proved_34 rfl (lv_at hl_10 0 rfl) ?_
      rcases xc_cases hf with hx11 | ⟨hn12, hf⟩
      · exact x_callS (As := [.int a1, .int r5]) (rest := []) F I_9 hX htab hlk (xX_LT_requireIndex _ _ _ _ _ hl0 _ _ _ _ _ hx11) kX11_84 ⟨rfl, rfl⟩ ⟨Nat.le_trans (Nat.le_of_ble_eq_true rfl) hRf, Nat.le_trans (Nat.le_of_ble_eq_true rfl) hRl⟩ rfl rfl hl_10.1 (Nat.le_of_ble_eq_true rfl) ⟨hRc, hRs⟩ dX11_proved_35
      cases hf
    · replace hf := (if_pos c13).symm.trans hf
      cases hf
  · replace hf := (if_neg c41).symm.trans hf
    refine lv_iload_n hx hb dX11_proved_5 rfl (lv_at hl 1 rfl) ?_
    refine lv_sipush (v := (1000 : Int32)) hx hb dX11_proved_6 (by decide) ?_
    refine lv_icmp_gt (tgt := 16) hx hb dX11_proved_9 (by decide) (fun c40 => ?_) (fun c40 => ?_)
    · replace hf := (if_pos c40).symm.trans hf
      refine lv_iconst (v := (0 : Int32)) hx hb dX11_proved_16 (by decide) ?_
      rcases xc_cases hf with hx14 | ⟨hn15, hf⟩
      · exact x_callS (As := [.int (0 : Int32)]) (rest := []) F I hX htab hlk (xX_LT_requireArgument _ _ _ _ _ hl0 _ _ _ _ hx14) kX11_76 ⟨rfl, rfl⟩ ⟨Nat.le_trans (Nat.le_of_ble_eq_true rfl) hRf, Nat.le_trans (Nat.le_of_ble_eq_true rfl) hRl⟩ rfl rfl hl.1 (Nat.le_of_ble_eq_true rfl) ⟨hRc, hRs⟩ dX11_proved_17
      obtain ⟨h16, hf⟩ := bd0_some hf
      refine s_callSv (As := [.int (0 : Int32)]) (rest := []) F I (cC_LT_requireArgument G E Dd P Z (0 : Int32) h16) kX11_76 ⟨rfl, rfl⟩ ⟨Nat.le_trans (Nat.le_of_ble_eq_true rfl) hRf, Nat.le_trans (Nat.le_of_ble_eq_true rfl) hRl⟩ rfl rfl hl.1 (Nat.le_of_ble_eq_true rfl) ⟨Nat.zero_le _, Nat.zero_le _⟩ dX11_proved_17 ?_
      intro H_17 lo_17 I_17
      refine lv_aload_n hx hb dX11_proved_20 rfl (lv_at hl 0 rfl) ?_
      refine lv_iload_n hx hb dX11_proved_21 rfl (lv_at hl 1 rfl) ?_
      obtain ⟨r18, G19, E20, h21, hf⟩ := bd3_some hf
      refine s_callVi (As := [.int a0]) (rest := []) F I_17 (cC_LT_provedAt G E Dd P Z a0 r18 G19 E20 h21) kX11_259 ⟨rfl, rfl⟩ ⟨Nat.le_trans (Nat.le_of_ble_eq_true rfl) hRf, Nat.le_trans (Nat.le_of_ble_eq_true rfl) hRl⟩ (0) 11 rfl rfl rfl rfl rfl hl.1 (Nat.le_of_ble_eq_true rfl) ⟨Nat.zero_le _, Nat.zero_le _⟩ dX11_proved_22 ?_
      intro H_22 lo_22 I_22
      refine lv_istore_n (lv' := [(3, .int r18), (0, .ref (ad 0)), (1, .int a0), (2, .int a1)]) hx hb dX11_proved_25 rfl hl (by decide) rfl (fun ls_23 hl_23 => ?_)
      refine lv_iload_n hx hb dX11_proved_26 rfl (lv_at hl_23 3 rfl) ?_
      refine lv_iconst (v := (-1 : Int32)) hx hb dX11_proved_27 (by decide) ?_
      refine lv_icmp_ne (tgt := 33) hx hb dX11_proved_28 (by decide) (fun c26 => ?_) (fun c26 => ?_)
      · replace hf := (if_neg c26).symm.trans hf
        refine lv_iload_n hx hb dX11_proved_33 rfl (lv_at hl_23 3 rfl) ?_
        refine lv_iload_n hx hb dX11_proved_34 rfl (lv_at hl_23 0 rfl) ?_
        rcases xc_cases hf with hx24 | ⟨hn25, hf⟩
        · exact x_callS (As := [.int a1, .int r18]) (rest := []) F I_22 hX htab hlk (xX_LT_requireIndex _ _ _ _ _ hl0 _ _ _ _ _ hx24) kX11_84 ⟨rfl, rfl⟩ ⟨Nat.le_trans (Nat.le_of_ble_eq_true rfl) hRf, Nat.le_trans (Nat.le_of_ble_eq_true rfl) hRl⟩ rfl rfl hl_23.1 (Nat.le_of_ble_eq_true rfl) ⟨hRc, hRs⟩ dX11_proved_35
        cases hf
      · replace hf := (if_pos c26).symm.trans hf
        cases hf
    · replace hf := (if_neg c40).symm.trans hf
      refine lv_iconst (v := (1 : Int32)) hx hb dX11_proved_12 (by decide) ?_
      refine lv_goto (tgt := 17) hx hb dX11_proved_13 (by decide) ?_
      rcases xc_cases hf with hx27 | ⟨hn28, hf⟩
      · exact x_callS (As := [.int (1 : Int32)]) (rest := []) F I hX htab hlk (xX_LT_requireArgument _ _ _ _ _ hl0 _ _ _ _ hx27) kX11_76 ⟨rfl, rfl⟩ ⟨Nat.le_trans (Nat.le_of_ble_eq_true rfl) hRf, Nat.le_trans (Nat.le_of_ble_eq_true rfl) hRl⟩ rfl rfl hl.1 (Nat.le_of_ble_eq_true rfl) ⟨hRc, hRs⟩ dX11_proved_17
      obtain ⟨h29, hf⟩ := bd0_some hf
      refine s_callSv (As := [.int (1 : Int32)]) (rest := []) F I (cC_LT_requireArgument G E Dd P Z (1 : Int32) h29) kX11_76 ⟨rfl, rfl⟩ ⟨Nat.le_trans (Nat.le_of_ble_eq_true rfl) hRf, Nat.le_trans (Nat.le_of_ble_eq_true rfl) hRl⟩ rfl rfl hl.1 (Nat.le_of_ble_eq_true rfl) ⟨Nat.zero_le _, Nat.zero_le _⟩ dX11_proved_17 ?_
      intro H_30 lo_30 I_30
      refine lv_aload_n hx hb dX11_proved_20 rfl (lv_at hl 0 rfl) ?_
      refine lv_iload_n hx hb dX11_proved_21 rfl (lv_at hl 1 rfl) ?_
      obtain ⟨r31, G32, E33, h34, hf⟩ := bd3_some hf
      refine s_callVi (As := [.int a0]) (rest := []) F I_30 (cC_LT_provedAt G E Dd P Z a0 r31 G32 E33 h34) kX11_259 ⟨rfl, rfl⟩ ⟨Nat.le_trans (Nat.le_of_ble_eq_true rfl) hRf, Nat.le_trans (Nat.le_of_ble_eq_true rfl) hRl⟩ (0) 11 rfl rfl rfl rfl rfl hl.1 (Nat.le_of_ble_eq_true rfl) ⟨Nat.zero_le _, Nat.zero_le _⟩ dX11_proved_22 ?_
      intro H_35 lo_35 I_35
      refine lv_istore_n (lv' := [(3, .int r31), (0, .ref (ad 0)), (1, .int a0), (2, .int a1)]) hx hb dX11_proved_25 rfl hl (by decide) rfl (fun ls_36 hl_36 => ?_)
      refine lv_iload_n hx hb dX11_proved_26 rfl (lv_at hl_36 3 rfl) ?_
      refine lv_iconst (v := (-1 : Int32)) hx hb dX11_proved_27 (by decide) ?_
      refine lv_icmp_ne (tgt := 33) hx hb dX11_proved_28 (by decide) (fun c39 => ?_) (fun c39 => ?_)
      · replace hf := (if_neg c39).symm.trans hf
        refine lv_iload_n hx hb dX11_proved_33 rfl (lv_at hl_36 3 rfl) ?_
        refine lv_iload_n hx hb dX11_proved_34 rfl (lv_at hl_36 0 rfl) ?_
        rcases xc_cases hf with hx37 | ⟨hn38, hf⟩
        · exact x_callS (As := [.int a1, .int r31]) (rest := []) F I_35 hX htab hlk (xX_LT_requireIndex _ _ _ _ _ hl0 _ _ _ _ _ hx37) kX11_84 ⟨rfl, rfl⟩ ⟨Nat.le_trans (Nat.le_of_ble_eq_true rfl) hRf, Nat.le_trans (Nat.le_of_ble_eq_true rfl) hRl⟩ rfl rfl hl_36.1 (Nat.le_of_ble_eq_true rfl) ⟨hRc, hRs⟩ dX11_proved_35
        cases hf
      · replace hf := (if_pos c39).symm.trans hf
        cases hf
def X_LT_strength (G : Nat → Nat → Int32) (E : Nat → Nat → Int64) (a0 : Int32) (a1 : Int32) : Option (String × (Nat → Nat → Int32) × (Nat → Nat → Int64)) :=
xc (X_LT_requireIndex G E a0 (G 0 0)) <|
bd0 (C_LT_requireIndex a0 (G 0 0)) <|
if a1 < 0 then
(xc (X_LT_requireArgument G E (0 : Int32)) <|
none)
else
(if (60 : Int32) < a1 then
(xc (X_LT_requireArgument G E (0 : Int32)) <|
none)
else
(xc (X_LT_requireArgument G E (1 : Int32)) <|
none))
set_option maxRecDepth 100000 in
set_option maxHeartbeats 4000000 in
theorem xX_LT_strength (G : Nat → Nat → Int32) (E : Nat → Nat → Int64) (Dd : Nat → Nat → UInt64) (P : Nat → Option PRec) (Z : List PRec) (hl0 : l.stackTraces = false) (a0 : Int32) (a1 : Int32) (ex : String) (newG : Nat → Nat → Int32) (newE : Nat → Nat → Int64) (hf : X_LT_strength G E a0 a1 = some (ex, newG, newE)) : sX D (cT cI cJ cD cS) (cW ad cI cJ cD cS) l yX11_strength (ws1 yX11_strength cX11_strength 3 (some .double)) ({ frames := 7, cells := 1, slots := 6, locals := 103 }) [.ref (ad 0), .int a0, .int a1] (G, E, Dd, P, Z) (newG, newE, Dd, P, Z) ex := by
  unfold X_LT_strength at hf
  refine sX_of (by decide) (Nat.le_of_ble_eq_true rfl) ?_
  intro p e R s m args below meth c A ls F hRf hRl hRc hRs htab hlk I hX hl
  obtain ⟨hx, hb, hml, hown, hG⟩ := id F
  replace hl : lv_has ls 3 [(0, .ref (ad 0)), (1, .int a0), (2, .int a1)] := hl
  refine lv_iload_n hx hb dX11_strength_0 rfl (lv_at hl 1 rfl) ?_
  refine lv_aload_n hx hb dX11_strength_1 rfl (lv_at hl 0 rfl) ?_
  refine kgtX11_89_0 F I dX11_strength_2 ?_
  rcases xc_cases hf with hx1 | ⟨hn2, hf⟩
  · exact x_callS (As := [.int a0, .int (G 0 0)]) (rest := []) F I hX htab hlk (xX_LT_requireIndex _ _ _ _ _ hl0 _ _ _ _ _ hx1) kX11_84 ⟨rfl, rfl⟩ ⟨Nat.le_trans (Nat.le_of_ble_eq_true rfl) hRf, Nat.le_trans (Nat.le_of_ble_eq_true rfl) hRl⟩ rfl rfl hl.1 (Nat.le_of_ble_eq_true rfl) ⟨hRc, hRs⟩ dX11_strength_5
  obtain ⟨h3, hf⟩ := bd0_some hf
  refine s_callSv (As := [.int a0, .int (G 0 0)]) (rest := []) F I (cC_LT_requireIndex G E Dd P Z a0 (G 0 0) h3) kX11_84 ⟨rfl, rfl⟩ ⟨Nat.le_trans (Nat.le_of_ble_eq_true rfl) hRf, Nat.le_trans (Nat.le_of_ble_eq_true rfl) hRl⟩ rfl rfl hl.1 (Nat.le_of_ble_eq_true rfl) ⟨Nat.zero_le _, Nat.zero_le _⟩ dX11_strength_5 ?_
  intro H_4 lo_4 I_4
  refine lv_iload_n hx hb dX11_strength_8 rfl (lv_at hl 2 rfl) ?_
  refine lv_if_lt (tgt := 22) hx hb dX11_strength_9 (by decide) (fun c12 => ?_) (fun c12 => ?_)
  · replace hf := (if_pos c12).symm.trans hf
    refine lv_iconst (v := (0 : Int32)) hx hb dX11_strength_22 (by decide) ?_
    rcases xc_cases hf with hx5 | ⟨hn6, hf⟩
    · exact x_callS (As := [.int (0 : Int32)]) (rest := []) F I_4 hX htab hlk (xX_LT_requireArgument _ _ _ _ _ hl0 _ _ _ _ hx5) kX11_76 ⟨rfl, rfl⟩ ⟨Nat.le_trans (Nat.le_of_ble_eq_true rfl) hRf, Nat.le_trans (Nat.le_of_ble_eq_true rfl) hRl⟩ rfl rfl hl.1 (Nat.le_of_ble_eq_true rfl) ⟨hRc, hRs⟩ dX11_strength_23
    cases hf
  · replace hf := (if_neg c12).symm.trans hf
    refine lv_iload_n hx hb dX11_strength_12 rfl (lv_at hl 2 rfl) ?_
    refine lv_bipush (v := (60 : Int32)) hx hb dX11_strength_13 (by decide) ?_
    refine lv_icmp_gt (tgt := 22) hx hb dX11_strength_15 (by decide) (fun c11 => ?_) (fun c11 => ?_)
    · replace hf := (if_pos c11).symm.trans hf
      refine lv_iconst (v := (0 : Int32)) hx hb dX11_strength_22 (by decide) ?_
      rcases xc_cases hf with hx7 | ⟨hn8, hf⟩
      · exact x_callS (As := [.int (0 : Int32)]) (rest := []) F I_4 hX htab hlk (xX_LT_requireArgument _ _ _ _ _ hl0 _ _ _ _ hx7) kX11_76 ⟨rfl, rfl⟩ ⟨Nat.le_trans (Nat.le_of_ble_eq_true rfl) hRf, Nat.le_trans (Nat.le_of_ble_eq_true rfl) hRl⟩ rfl rfl hl.1 (Nat.le_of_ble_eq_true rfl) ⟨hRc, hRs⟩ dX11_strength_23
      cases hf
    · replace hf := (if_neg c11).symm.trans hf
      refine lv_iconst (v := (1 : Int32)) hx hb dX11_strength_18 (by decide) ?_
      refine lv_goto (tgt := 23) hx hb dX11_strength_19 (by decide) ?_
      rcases xc_cases hf with hx9 | ⟨hn10, hf⟩
      · exact x_callS (As := [.int (1 : Int32)]) (rest := []) F I_4 hX htab hlk (xX_LT_requireArgument _ _ _ _ _ hl0 _ _ _ _ hx9) kX11_76 ⟨rfl, rfl⟩ ⟨Nat.le_trans (Nat.le_of_ble_eq_true rfl) hRf, Nat.le_trans (Nat.le_of_ble_eq_true rfl) hRl⟩ rfl rfl hl.1 (Nat.le_of_ble_eq_true rfl) ⟨hRc, hRs⟩ dX11_strength_23
      cases hf
def X_LT_misfit (G : Nat → Nat → Int32) (E : Nat → Nat → Int64) (a0 : Int32) : Option (String × (Nat → Nat → Int32) × (Nat → Nat → Int64)) :=
if a0 < 0 then
(xc (X_LT_requireArgument G E (0 : Int32)) <|
none)
else
(if (60 : Int32) < a0 then
(xc (X_LT_requireArgument G E (0 : Int32)) <|
none)
else
(xc (X_LT_requireArgument G E (1 : Int32)) <|
none))
set_option maxRecDepth 100000 in
set_option maxHeartbeats 4000000 in
theorem xX_LT_misfit (G : Nat → Nat → Int32) (E : Nat → Nat → Int64) (Dd : Nat → Nat → UInt64) (P : Nat → Option PRec) (Z : List PRec) (hl0 : l.stackTraces = false) (a0 : Int32) (ex : String) (newG : Nat → Nat → Int32) (newE : Nat → Nat → Int64) (hf : X_LT_misfit G E a0 = some (ex, newG, newE)) : sX D (cT cI cJ cD cS) (cW ad cI cJ cD cS) l yX11_misfit (ws1 yX11_misfit cX11_misfit 2 (some .double)) ({ frames := 7, cells := 1, slots := 6, locals := 102 }) [.ref (ad 0), .int a0] (G, E, Dd, P, Z) (newG, newE, Dd, P, Z) ex := by
  unfold X_LT_misfit at hf
  refine sX_of (by decide) (Nat.le_of_ble_eq_true rfl) ?_
  intro p e R s m args below meth c A ls F hRf hRl hRc hRs htab hlk I hX hl
  obtain ⟨hx, hb, hml, hown, hG⟩ := id F
  replace hl : lv_has ls 2 [(0, .ref (ad 0)), (1, .int a0)] := hl
  refine lv_iload_n hx hb dX11_misfit_0 rfl (lv_at hl 1 rfl) ?_
  refine lv_if_lt (tgt := 14) hx hb dX11_misfit_1 (by decide) (fun c8 => ?_) (fun c8 => ?_)
  · replace hf := (if_pos c8).symm.trans hf
    refine lv_iconst (v := (0 : Int32)) hx hb dX11_misfit_14 (by decide) ?_
    rcases xc_cases hf with hx1 | ⟨hn2, hf⟩
    · exact x_callS (As := [.int (0 : Int32)]) (rest := []) F I hX htab hlk (xX_LT_requireArgument _ _ _ _ _ hl0 _ _ _ _ hx1) kX11_76 ⟨rfl, rfl⟩ ⟨Nat.le_trans (Nat.le_of_ble_eq_true rfl) hRf, Nat.le_trans (Nat.le_of_ble_eq_true rfl) hRl⟩ rfl rfl hl.1 (Nat.le_of_ble_eq_true rfl) ⟨hRc, hRs⟩ dX11_misfit_15
    cases hf
  · replace hf := (if_neg c8).symm.trans hf
    refine lv_iload_n hx hb dX11_misfit_4 rfl (lv_at hl 1 rfl) ?_
    refine lv_bipush (v := (60 : Int32)) hx hb dX11_misfit_5 (by decide) ?_
    refine lv_icmp_gt (tgt := 14) hx hb dX11_misfit_7 (by decide) (fun c7 => ?_) (fun c7 => ?_)
    · replace hf := (if_pos c7).symm.trans hf
      refine lv_iconst (v := (0 : Int32)) hx hb dX11_misfit_14 (by decide) ?_
      rcases xc_cases hf with hx3 | ⟨hn4, hf⟩
      · exact x_callS (As := [.int (0 : Int32)]) (rest := []) F I hX htab hlk (xX_LT_requireArgument _ _ _ _ _ hl0 _ _ _ _ hx3) kX11_76 ⟨rfl, rfl⟩ ⟨Nat.le_trans (Nat.le_of_ble_eq_true rfl) hRf, Nat.le_trans (Nat.le_of_ble_eq_true rfl) hRl⟩ rfl rfl hl.1 (Nat.le_of_ble_eq_true rfl) ⟨hRc, hRs⟩ dX11_misfit_15
      cases hf
    · replace hf := (if_neg c7).symm.trans hf
      refine lv_iconst (v := (1 : Int32)) hx hb dX11_misfit_10 (by decide) ?_
      refine lv_goto (tgt := 15) hx hb dX11_misfit_11 (by decide) ?_
      rcases xc_cases hf with hx5 | ⟨hn6, hf⟩
      · exact x_callS (As := [.int (1 : Int32)]) (rest := []) F I hX htab hlk (xX_LT_requireArgument _ _ _ _ _ hl0 _ _ _ _ hx5) kX11_76 ⟨rfl, rfl⟩ ⟨Nat.le_trans (Nat.le_of_ble_eq_true rfl) hRf, Nat.le_trans (Nat.le_of_ble_eq_true rfl) hRl⟩ rfl rfl hl.1 (Nat.le_of_ble_eq_true rfl) ⟨hRc, hRs⟩ dX11_misfit_15
      cases hf
end XM
