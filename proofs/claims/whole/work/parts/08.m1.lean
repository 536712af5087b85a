section Meth
variable {D : va_G} {l : Launch} {ad : Nat → Nat} {cI cJ cD : ClassId}
def M_layMargins_s1  (x2 : Int32) (G3 : Nat → Nat → Int32) : Option ((Int32 × (Nat → Nat → Int32)) ⊕ ((Nat → Nat → Int32))) :=
if (G3 1 0) * (G3 1 0) ≤ x2 then
(some (.inr G3))
else
(gd (¬ G3 1 0 = 0) <|
nm (x2 / (G3 1 0) : Int32) fun x12 =>
gd (¬ G3 1 0 = 0) <|
nm (x2 - x2 / (G3 1 0) * (G3 1 0) : Int32) fun x15 =>
bd (if x12 = x15 then
(some (0 : Int32))
else
(bd (M_margin G3 x12 x15) fun r28 =>
some r28)) fun x18 =>
ri 64 (((8 : Int32) * x12) + x15) <|
nm (wr G3 29 (((8 : Int32) * x12) + x15) x18) fun G23 =>
nm (x2 + (1 : Int32) : Int32) fun x25 =>
some (.inl (x25, G23)))
def M_layMargins (G : Nat → Nat → Int32) : Option ((Nat → Nat → Int32)) :=
bd (lp (fun q => M_layMargins_s1 q.1 q.2) FU ((0 : Int32), G)) fun G4 =>
some G4
set_option maxRecDepth 100000 in
set_option maxHeartbeats 4000000 in
theorem cM_layMargins (G : Nat → Nat → Int32) (E : Nat → Nat → Int64) (Dd : Nat → Nat → UInt64)   (newG : Nat → Nat → Int32) (hf : M_layMargins G = some newG) : sMv D (mT cI cJ cD) (mW ad cI cJ cD) l yX12_layMargins (ws1 yX12_layMargins cX12_layMargins 4 none) ({ frames := 3, cells := 0, slots := 0, locals := 72 }) [.ref (ad 0)] (G, E, Dd) (newG, E, Dd) := by
  unfold M_layMargins at hf
  refine sMv_of (by decide) (Nat.le_of_ble_eq_true rfl) ?_
  intro p e R s m args below meth c A Q ls H lo F hRf hRl I hl ret
  obtain ⟨hx, hb, hml, hown, hG⟩ := id F
  replace hl : lv_has ls 4 [(0, .ref (ad 0))] := hl
  refine lv_iconst (v := (0 : Int32)) hx hb dX12_layMargins_0 (by decide) ?_
  refine lv_istore_n (lv' := [(1, .int (0 : Int32)), (0, .ref (ad 0))]) hx hb dX12_layMargins_1 rfl hl (by decide) rfl (fun ls_1 hl_1 => ?_)
  obtain ⟨G4, hq1, hf⟩ := bd_some hf
  have K1 : ∀ (H : Heap) (locs : List Loc), sInv D (mT cI cJ cD) (mW ad cI cJ cD) A s H locs (G4, E, Dd) → ∀ (ls : Array Slot), lv_has ls 4 [] → W p l e R s m args below meth c H locs 0 0 Q (F0 m 61 ls []) := by
    intro H_5 lo_5 I_5 ls_6 hl_6
    cases hf
    exact ret H_5 lo_5 _ ls_6 I_5 dX12_layMargins_61
  have L1 : ∀ (n : Nat) (x2 : Int32) (G3 : Nat → Nat → Int32), lp (fun q => M_layMargins_s1 q.1 q.2) n (x2, G3) = some G4 → ∀ (H : Heap) (locs : List Loc), sInv D (mT cI cJ cD) (mW ad cI cJ cD) A s H locs (G3, E, Dd) → ∀ (ls : Array Slot), lv_has ls 4 [(0, .ref (ad 0)), (1, .int x2)] → W p l e R s m args below meth c H locs 0 0 Q (F0 m 2 ls []) := by
    intro n
    induction n with
    | zero => intro x2 G3 hq; exact (lp_0 hq).elim
    | succ n ih1 =>
      intro x2 G3 hq H_8 lo_8 I_8 ls_9 hl_9
      obtain ⟨y1, hf, hK1⟩ := lp_go hq
      replace hf : M_layMargins_s1 x2 G3 = some y1 := hf
      unfold M_layMargins_s1 at hf
      refine lv_iload_n hx hb dX12_layMargins_2 rfl (lv_at hl_9 1 rfl) ?_
      refine lv_aload_n hx hb dX12_layMargins_3 rfl (lv_at hl_9 0 rfl) ?_
      refine mgtX12_92_0 F I_8 dX12_layMargins_4 ?_
      refine lv_aload_n hx hb dX12_layMargins_7 rfl (lv_at hl_9 0 rfl) ?_
      refine mgtX12_92_0 F I_8 dX12_layMargins_8 ?_
      refine lv_imul hx hb dX12_layMargins_11 ?_
      refine lv_icmp_ge (tgt := 61) hx hb dX12_layMargins_12 (by decide) (fun c32 => ?_) (fun c32 => ?_)
      · replace hf := (if_pos c32).symm.trans hf
        cases hf
        cases (show G3 = G4 from hK1)
        exact K1 H_8 lo_8 I_8 ls_9 (lv_sub hl_9 [] rfl)
      · replace hf := (if_neg c32).symm.trans hf
        refine lv_iload_n hx hb dX12_layMargins_15 rfl (lv_at hl_9 1 rfl) ?_
        refine lv_aload_n hx hb dX12_layMargins_16 rfl (lv_at hl_9 0 rfl) ?_
        refine mgtX12_92_0 F I_8 dX12_layMargins_17 ?_
        obtain ⟨g11, hf⟩ := gd_some hf
        refine lv_idiv hx hb dX12_layMargins_20 g11 ?_
        refine lv_topi (fun x12 ex12 => ?_)
        replace hf := nm_some ex12 hf
        refine lv_istore_n (lv' := [(2, .int x12), (0, .ref (ad 0)), (1, .int x2)]) hx hb dX12_layMargins_21 rfl hl_9 (by decide) rfl (fun ls_13 hl_13 => ?_)
        refine lv_iload_n hx hb dX12_layMargins_22 rfl (lv_at hl_13 2 rfl) ?_
        refine lv_aload_n hx hb dX12_layMargins_23 rfl (lv_at hl_13 1 rfl) ?_
        refine mgtX12_92_0 F I_8 dX12_layMargins_24 ?_
        obtain ⟨g14, hf⟩ := gd_some hf
        refine lv_irem hx hb dX12_layMargins_27 g14 ?_
        refine lv_topi (fun x15 ex15 => ?_)
        replace hf := nm_some ex15 hf
        refine lv_istore_n (lv' := [(3, .int x15), (2, .int x12), (0, .ref (ad 0)), (1, .int x2)]) hx hb dX12_layMargins_28 rfl hl_13 (by decide) rfl (fun ls_16 hl_16 => ?_)
        refine lv_aload_n hx hb dX12_layMargins_29 rfl (lv_at hl_16 2 rfl) ?_
        refine mgtX12_56_0 F I_8 dX12_layMargins_30 ?_
        refine lv_bipush (v := (8 : Int32)) hx hb dX12_layMargins_33 (by decide) ?_
        refine lv_iload_n hx hb dX12_layMargins_35 rfl (lv_at hl_16 1 rfl) ?_
        refine lv_imul hx hb dX12_layMargins_36 ?_
        refine lv_iload_n hx hb dX12_layMargins_37 rfl (lv_at hl_16 0 rfl) ?_
        refine lv_iadd hx hb dX12_layMargins_38 ?_
        refine lv_iload_n hx hb dX12_layMargins_39 rfl (lv_at hl_16 1 rfl) ?_
        refine lv_iload_n hx hb dX12_layMargins_40 rfl (lv_at hl_16 0 rfl) ?_
        obtain ⟨x18, hv27, hf⟩ := bd_some hf
        have J17 : ∀ (H : Heap) (locs : List Loc), sInv D (mT cI cJ cD) (mW ad cI cJ cD) A s H locs (G3, E, Dd) → ∀ (ls : Array Slot), lv_has ls 4 [(0, .ref (ad 0)), (1, .int x2)] → W p l e R s m args below meth c H locs 0 0 Q (F0 m 54 ls [.int x18, .int (((8 : Int32) * x12) + x15), .ref (ad 15)]) := by
          intro H_19 lo_19 I_19 ls_20 hl_20
          obtain ⟨g22, hf⟩ := ri_some hf
          refine mas15 F I_19 g22 dX12_layMargins_54 ?_
          intro H_24 lo_24 G23 eG23 I_24
          replace hf := nm_some eG23 hf
          obtain ⟨x25, ex25⟩ : ∃ y : Int32, y = x2 + (1 : Int32) := ⟨_, rfl⟩
          replace hf := nm_some ex25 hf
          refine lv_iinc (v := x25) (lv' := [(1, .int x25), (0, .ref (ad 0))]) hx hb dX12_layMargins_55 hl_20 (k := 1) rfl (by rw [ex25]; rfl) (by decide) rfl (fun ls_26 hl_26 => ?_)
          refine lv_goto (tgt := 2) hx hb dX12_layMargins_58 (by decide) ?_
          cases hf
          exact ih1 _ _ hK1 H_24 lo_24 I_24 ls_26 (lv_sub hl_26 [1, 0] rfl)
        replace hf := hv27
        refine lv_icmp_ne (tgt := 48) hx hb dX12_layMargins_41 (by decide) (fun c31 => ?_) (fun c31 => ?_)
        · replace hf := (if_neg c31).symm.trans hf
          refine lv_aload_n hx hb dX12_layMargins_48 rfl (lv_at hl_16 2 rfl) ?_
          refine lv_iload_n hx hb dX12_layMargins_49 rfl (lv_at hl_16 1 rfl) ?_
          refine lv_iload_n hx hb dX12_layMargins_50 rfl (lv_at hl_16 0 rfl) ?_
          obtain ⟨r28, h29, hf⟩ := bd_some hf
          refine s_callVi (As := [.int x12, .int x15]) (rest := [.int (((8 : Int32) * x12) + x15), .ref (ad 15)]) F I_8 (cM_margin G3 E Dd x12 x15 r28 h29) kX12_233 ⟨rfl, rfl⟩ ⟨Nat.le_trans (Nat.le_of_ble_eq_true rfl) hRf, Nat.le_trans (Nat.le_of_ble_eq_true rfl) hRl⟩ (0) 12 rfl rfl rfl rfl rfl hl_16.1 (Nat.le_of_ble_eq_true rfl) ⟨Nat.zero_le _, Nat.zero_le _⟩ dX12_layMargins_51 ?_
          intro H_30 lo_30 I_30
          cases hf
          exact J17 H_30 lo_30 I_30 ls_16 (lv_sub hl_16 [2, 3] rfl)
        · replace hf := (if_pos c31).symm.trans hf
          refine lv_iconst (v := (0 : Int32)) hx hb dX12_layMargins_44 (by decide) ?_
          refine lv_goto (tgt := 54) hx hb dX12_layMargins_45 (by decide) ?_
          cases hf
          exact J17 H_8 lo_8 I_8 ls_16 (lv_sub hl_16 [2, 3] rfl)
  exact L1 FU _ _ hq1 H lo I ls_1 (lv_sub hl_1 [1, 0] rfl)
def M_beats (G : Nat → Nat → Int32) (a0 : Int32) (a1 : Int32) : Option (Int32) :=
ri 64 (((8 : Int32) * a0) + a1) <|
if G 29 (((8 : Int32) * a0) + a1).toNatClampNeg ≤ 0 then
(some (0 : Int32))
else
(some (1 : Int32))
set_option maxRecDepth 100000 in
set_option maxHeartbeats 4000000 in
theorem cM_beats (G : Nat → Nat → Int32) (E : Nat → Nat → Int64) (Dd : Nat → Nat → UInt64) (a0 : Int32) (a1 : Int32) (rv : Int32)  (hf : M_beats G a0 a1 = some rv) : sMi D (mT cI cJ cD) (mW ad cI cJ cD) l yX12_beats (ws1 yX12_beats cX12_beats 3 (some .boolean)) ({ frames := 0, cells := 0, slots := 0, locals := 0 }) [.ref (ad 0), .int a0, .int a1] (G, E, Dd) (rv, (G, E, Dd)) := by
  unfold M_beats at hf
  refine sMz_of (by decide) (Nat.le_of_ble_eq_true rfl) ?_
  intro p e R s m args below meth c A Q ls H lo F hRf hRl I hl ret
  obtain ⟨hx, hb, hml, hown, hG⟩ := id F
  replace hl : lv_has ls 3 [(0, .ref (ad 0)), (1, .int a0), (2, .int a1)] := hl
  refine lv_aload_n hx hb dX12_beats_0 rfl (lv_at hl 0 rfl) ?_
  refine mgtX12_56_0 F I dX12_beats_1 ?_
  refine lv_bipush (v := (8 : Int32)) hx hb dX12_beats_4 (by decide) ?_
  refine lv_iload_n hx hb dX12_beats_6 rfl (lv_at hl 1 rfl) ?_
  refine lv_imul hx hb dX12_beats_7 ?_
  refine lv_iload_n hx hb dX12_beats_8 rfl (lv_at hl 2 rfl) ?_
  refine lv_iadd hx hb dX12_beats_9 ?_
  obtain ⟨g1, hf⟩ := ri_some hf
  refine mal15 F I g1 dX12_beats_10 ?_
  refine lv_if_le (tgt := 18) hx hb dX12_beats_11 (by decide) (fun c2 => ?_) (fun c2 => ?_)
  · replace hf := (if_pos c2).symm.trans hf
    refine lv_iconst (v := (0 : Int32)) hx hb dX12_beats_18 (by decide) ?_
    cases hf
    exact ret H lo _ ls I (Or.inl rfl) dX12_beats_19
  · replace hf := (if_neg c2).symm.trans hf
    refine lv_iconst (v := (1 : Int32)) hx hb dX12_beats_14 (by decide) ?_
    refine lv_goto (tgt := 19) hx hb dX12_beats_15 (by decide) ?_
    cases hf
    exact ret H lo _ ls I (Or.inr rfl) dX12_beats_19
def M_dominance_s1 (a0 : Int32) (G : Nat → Nat → Int32) (x3 : Int32) (x4 : Int32) : Option ((Int32 × Int32) ⊕ (Int32)) :=
if G 1 0 ≤ x4 then
(some (.inr x3))
else
(bd (M_beats G a0 x4) fun r12 =>
bd (if r12 = 0 then
(bd (M_beats G x4 a0) fun r25 =>
if r25 = 0 then
(some (0 : Int32))
else
(some (-1 : Int32)))
else
(some (1 : Int32))) fun x16 =>
nm (x3 + x16 : Int32) fun x20 =>
nm (x4 + (1 : Int32) : Int32) fun x22 =>
some (.inl (x20, x22)))
def M_dominance (G : Nat → Nat → Int32) (a0 : Int32) : Option (Int32) :=
bd (lp (fun q => M_dominance_s1 a0 G q.1 q.2) FU ((0 : Int32), (0 : Int32))) fun x5 =>
some x5
set_option maxRecDepth 100000 in
set_option maxHeartbeats 4000000 in
theorem cM_dominance (G : Nat → Nat → Int32) (E : Nat → Nat → Int64) (Dd : Nat → Nat → UInt64) (a0 : Int32) (rv : Int32)  (hf : M_dominance G a0 = some rv) : sMi D (mT cI cJ cD) (mW ad cI cJ cD) l yX12_dominance (ws1 yX12_dominance cX12_dominance 4 (some .int)) ({ frames := 1, cells := 0, slots := 0, locals := 22 }) [.ref (ad 0), .int a0] (G, E, Dd) (rv, (G, E, Dd)) := by
  unfold M_dominance at hf
  refine sMi_of (by decide) (Nat.le_of_ble_eq_true rfl) ?_
  intro p e R s m args below meth c A Q ls H lo F hRf hRl I hl ret
  obtain ⟨hx, hb, hml, hown, hG⟩ := id F
  replace hl : lv_has ls 4 [(0, .ref (ad 0)), (1, .int a0)] := hl
  refine lv_iconst (v := (0 : Int32)) hx hb dX12_dominance_0 (by decide) ?_
  refine lv_istore_n (lv' := [(2, .int (0 : Int32)), (0, .ref (ad 0)), (1, .int a0)]) hx hb dX12_dominance_1 rfl hl (by decide) rfl (fun ls_1 hl_1 => ?_)
  refine lv_iconst (v := (0 : Int32)) hx hb dX12_dominance_2 (by decide) ?_
  refine lv_istore_n (lv' := [(3, .int (0 : Int32)), (2, .int (0 : Int32)), (0, .ref (ad 0)), (1, .int a0)]) hx hb dX12_dominance_3 rfl hl_1 (by decide) rfl (fun ls_2 hl_2 => ?_)
  obtain ⟨x5, hq1, hf⟩ := bd_some hf
  have K1 : ∀ (H : Heap) (locs : List Loc), sInv D (mT cI cJ cD) (mW ad cI cJ cD) A s H locs (G, E, Dd) → ∀ (ls : Array Slot), lv_has ls 4 [(2, .int x5)] → W p l e R s m args below meth c H locs 0 0 Q (F0 m 48 ls []) := by
    intro H_6 lo_6 I_6 ls_7 hl_7
    refine lv_iload_n hx hb dX12_dominance_48 rfl (lv_at hl_7 0 rfl) ?_
    cases hf
    exact ret H_6 lo_6 _ ls_7 I_6 dX12_dominance_49
  have L1 : ∀ (n : Nat) (x3 : Int32) (x4 : Int32), lp (fun q => M_dominance_s1 a0 G q.1 q.2) n (x3, x4) = some x5 → ∀ (H : Heap) (locs : List Loc), sInv D (mT cI cJ cD) (mW ad cI cJ cD) A s H locs (G, E, Dd) → ∀ (ls : Array Slot), lv_has ls 4 [(0, .ref (ad 0)), (1, .int a0), (2, .int x3), (3, .int x4)] → W p l e R s m args below meth c H locs 0 0 Q (F0 m 4 ls []) := by
    intro n
    induction n with
    | zero => intro x3 x4 hq; exact (lp_0 hq).elim
    | succ n ih1 =>
      intro x3 x4 hq H_9 lo_9 I_9 ls_10 hl_10
      obtain ⟨y1, hf, hK1⟩ := lp_go hq
      replace hf : M_dominance_s1 a0 G x3 x4 = some y1 := hf
      unfold M_dominance_s1 at hf
      refine lv_iload_n hx hb dX12_dominance_4 rfl (lv_at hl_10 3 rfl) ?_
      refine lv_aload_n hx hb dX12_dominance_5 rfl (lv_at hl_10 0 rfl) ?_
      refine mgtX12_92_0 F I_9 dX12_dominance_6 ?_
      refine lv_icmp_ge (tgt := 48) hx hb dX12_dominance_9 (by decide) (fun c30 => ?_) (fun c30 => ?_)
      · replace hf := (if_pos c30).symm.trans hf
        cases hf
        cases (show x3 = x5 from hK1)
        exact K1 H_9 lo_9 I_9 ls_10 (lv_sub hl_10 [2] rfl)
      · replace hf := (if_neg c30).symm.trans hf
        refine lv_iload_n hx hb dX12_dominance_12 rfl (lv_at hl_10 2 rfl) ?_
        refine lv_aload_n hx hb dX12_dominance_13 rfl (lv_at hl_10 0 rfl) ?_
        refine lv_iload_n hx hb dX12_dominance_14 rfl (lv_at hl_10 1 rfl) ?_
        refine lv_iload_n hx hb dX12_dominance_15 rfl (lv_at hl_10 3 rfl) ?_
        obtain ⟨r12, h13, hf⟩ := bd_some hf
        refine s_callVi (As := [.int a0, .int x4]) (rest := [.int x3]) F I_9 (cM_beats G E Dd a0 x4 r12 h13) kX12_249 ⟨rfl, rfl⟩ ⟨Nat.le_trans (Nat.le_of_ble_eq_true rfl) hRf, Nat.le_trans (Nat.le_of_ble_eq_true rfl) hRl⟩ (0) 12 rfl rfl rfl rfl rfl hl_10.1 (Nat.le_of_ble_eq_true rfl) ⟨Nat.zero_le _, Nat.zero_le _⟩ dX12_dominance_16 ?_
        intro H_14 lo_14 I_14
        obtain ⟨x16, hv24, hf⟩ := bd_some hf
        have J15 : ∀ (H : Heap) (locs : List Loc), sInv D (mT cI cJ cD) (mW ad cI cJ cD) A s H locs (G, E, Dd) → ∀ (ls : Array Slot), lv_has ls 4 [(0, .ref (ad 0)), (1, .int a0), (3, .int x4)] → W p l e R s m args below meth c H locs 0 0 Q (F0 m 40 ls [.int x16, .int x3]) := by
          intro H_17 lo_17 I_17 ls_18 hl_18
          refine lv_iadd hx hb dX12_dominance_40 ?_
          refine lv_topi (fun x20 ex20 => ?_)
          replace hf := nm_some ex20 hf
          refine lv_istore_n (lv' := [(2, .int x20), (0, .ref (ad 0)), (1, .int a0), (3, .int x4)]) hx hb dX12_dominance_41 rfl hl_18 (by decide) rfl (fun ls_21 hl_21 => ?_)
          obtain ⟨x22, ex22⟩ : ∃ y : Int32, y = x4 + (1 : Int32) := ⟨_, rfl⟩
          replace hf := nm_some ex22 hf
          refine lv_iinc (v := x22) (lv' := [(3, .int x22), (2, .int x20), (0, .ref (ad 0)), (1, .int a0)]) hx hb dX12_dominance_42 hl_21 (k := 3) rfl (by rw [ex22]; rfl) (by decide) rfl (fun ls_23 hl_23 => ?_)
          refine lv_goto (tgt := 4) hx hb dX12_dominance_45 (by decide) ?_
          cases hf
          exact ih1 _ _ hK1 H_17 lo_17 I_17 ls_23 (lv_sub hl_23 [2, 3, 1, 0] rfl)
        replace hf := hv24
        refine lv_if_eq (tgt := 26) hx hb dX12_dominance_19 (by decide) (fun c29 => ?_) (fun c29 => ?_)
        · replace hf := (if_pos c29).symm.trans hf
          refine lv_aload_n hx hb dX12_dominance_26 rfl (lv_at hl_10 0 rfl) ?_
          refine lv_iload_n hx hb dX12_dominance_27 rfl (lv_at hl_10 3 rfl) ?_
          refine lv_iload_n hx hb dX12_dominance_28 rfl (lv_at hl_10 1 rfl) ?_
          obtain ⟨r25, h26, hf⟩ := bd_some hf
          refine s_callVi (As := [.int x4, .int a0]) (rest := [.int x3]) F I_14 (cM_beats G E Dd x4 a0 r25 h26) kX12_249 ⟨rfl, rfl⟩ ⟨Nat.le_trans (Nat.le_of_ble_eq_true rfl) hRf, Nat.le_trans (Nat.le_of_ble_eq_true rfl) hRl⟩ (0) 12 rfl rfl rfl rfl rfl hl_10.1 (Nat.le_of_ble_eq_true rfl) ⟨Nat.zero_le _, Nat.zero_le _⟩ dX12_dominance_29 ?_
          intro H_27 lo_27 I_27
          refine lv_if_eq (tgt := 39) hx hb dX12_dominance_32 (by decide) (fun c28 => ?_) (fun c28 => ?_)
          · replace hf := (if_pos c28).symm.trans hf
            refine lv_iconst (v := (0 : Int32)) hx hb dX12_dominance_39 (by decide) ?_
            cases hf
            exact J15 H_27 lo_27 I_27 ls_10 (lv_sub hl_10 [0, 1, 3] rfl)
          · replace hf := (if_neg c28).symm.trans hf
            refine lv_iconst (v := (-1 : Int32)) hx hb dX12_dominance_35 (by decide) ?_
            refine lv_goto (tgt := 40) hx hb dX12_dominance_36 (by decide) ?_
            cases hf
            exact J15 H_27 lo_27 I_27 ls_10 (lv_sub hl_10 [0, 1, 3] rfl)
        · replace hf := (if_neg c29).symm.trans hf
          refine lv_iconst (v := (1 : Int32)) hx hb dX12_dominance_22 (by decide) ?_
          refine lv_goto (tgt := 40) hx hb dX12_dominance_23 (by decide) ?_
          cases hf
          exact J15 H_14 lo_14 I_14 ls_10 (lv_sub hl_10 [0, 1, 3] rfl)
  exact L1 FU _ _ hq1 H lo I ls_2 (lv_sub hl_2 [2, 3, 1, 0] rfl)
def M_size_s1 (a0 : Int32) (x3 : Int32) (x4 : Int32) : Option ((Int32 × Int32) ⊕ (Int32)) :=
if (8 : Int32) ≤ x4 then
(some (.inr x3))
else
(nm (x3 + ((a0 >>> (x4 &&& 31)) &&& (1 : Int32)) : Int32) fun x12 =>
nm (x4 + (1 : Int32) : Int32) fun x14 =>
some (.inl (x12, x14)))
def M_size (a0 : Int32) : Option (Int32) :=
bd (lp (fun q => M_size_s1 a0 q.1 q.2) FU ((0 : Int32), (0 : Int32))) fun x5 =>
some x5
set_option maxRecDepth 100000 in
set_option maxHeartbeats 4000000 in
theorem cM_size (G : Nat → Nat → Int32) (E : Nat → Nat → Int64) (Dd : Nat → Nat → UInt64) (a0 : Int32) (rv : Int32)  (hf : M_size a0 = some rv) : sMi D (mT cI cJ cD) (mW ad cI cJ cD) l yX12_size (ws1 yX12_size cX12_size 3 (some .int)) ({ frames := 0, cells := 0, slots := 0, locals := 0 }) [.int a0] (G, E, Dd) (rv, (G, E, Dd)) := by
  unfold M_size at hf
  refine sMi_of (by decide) (Nat.le_of_ble_eq_true rfl) ?_
  intro p e R s m args below meth c A Q ls H lo F hRf hRl I hl ret
  obtain ⟨hx, hb, hml, hown, hG⟩ := id F
  replace hl : lv_has ls 3 [(0, .int a0)] := hl
  refine lv_iconst (v := (0 : Int32)) hx hb dX12_size_0 (by decide) ?_
  refine lv_istore_n (lv' := [(1, .int (0 : Int32)), (0, .int a0)]) hx hb dX12_size_1 rfl hl (by decide) rfl (fun ls_1 hl_1 => ?_)
  refine lv_iconst (v := (0 : Int32)) hx hb dX12_size_2 (by decide) ?_
  refine lv_istore_n (lv' := [(2, .int (0 : Int32)), (1, .int (0 : Int32)), (0, .int a0)]) hx hb dX12_size_3 rfl hl_1 (by decide) rfl (fun ls_2 hl_2 => ?_)
  obtain ⟨x5, hq1, hf⟩ := bd_some hf
  have K1 : ∀ (H : Heap) (locs : List Loc), sInv D (mT cI cJ cD) (mW ad cI cJ cD) A s H locs (G, E, Dd) → ∀ (ls : Array Slot), lv_has ls 3 [(1, .int x5)] → W p l e R s m args below meth c H locs 0 0 Q (F0 m 24 ls []) := by
    intro H_6 lo_6 I_6 ls_7 hl_7
    refine lv_iload_n hx hb dX12_size_24 rfl (lv_at hl_7 0 rfl) ?_
    cases hf
    exact ret H_6 lo_6 _ ls_7 I_6 dX12_size_25
  have L1 : ∀ (n : Nat) (x3 : Int32) (x4 : Int32), lp (fun q => M_size_s1 a0 q.1 q.2) n (x3, x4) = some x5 → ∀ (H : Heap) (locs : List Loc), sInv D (mT cI cJ cD) (mW ad cI cJ cD) A s H locs (G, E, Dd) → ∀ (ls : Array Slot), lv_has ls 3 [(0, .int a0), (1, .int x3), (2, .int x4)] → W p l e R s m args below meth c H locs 0 0 Q (F0 m 4 ls []) := by
    intro n
    induction n with
    | zero => intro x3 x4 hq; exact (lp_0 hq).elim
    | succ n ih1 =>
      intro x3 x4 hq H_9 lo_9 I_9 ls_10 hl_10
      obtain ⟨y1, hf, hK1⟩ := lp_go hq
      replace hf : M_size_s1 a0 x3 x4 = some y1 := hf
      unfold M_size_s1 at hf
      refine lv_iload_n hx hb dX12_size_4 rfl (lv_at hl_10 2 rfl) ?_
      refine lv_bipush (v := (8 : Int32)) hx hb dX12_size_5 (by decide) ?_
      refine lv_icmp_ge (tgt := 24) hx hb dX12_size_7 (by decide) (fun c16 => ?_) (fun c16 => ?_)
      · replace hf := (if_pos c16).symm.trans hf
        cases hf
        cases (show x3 = x5 from hK1)
        exact K1 H_9 lo_9 I_9 ls_10 (lv_sub hl_10 [1] rfl)
      · replace hf := (if_neg c16).symm.trans hf
        refine lv_iload_n hx hb dX12_size_10 rfl (lv_at hl_10 1 rfl) ?_
        refine lv_iload_n hx hb dX12_size_11 rfl (lv_at hl_10 0 rfl) ?_
        refine lv_iload_n hx hb dX12_size_12 rfl (lv_at hl_10 2 rfl) ?_
        refine lv_ishr hx hb dX12_size_13 ?_
        refine lv_iconst (v := (1 : Int32)) hx hb dX12_size_14 (by decide) ?_
        refine lv_iand hx hb dX12_size_15 ?_
        refine lv_iadd hx hb dX12_size_16 ?_
        refine lv_topi (fun x12 ex12 => ?_)
        replace hf := nm_some ex12 hf
        refine lv_istore_n (lv' := [(1, .int x12), (0, .int a0), (2, .int x4)]) hx hb dX12_size_17 rfl hl_10 (by decide) rfl (fun ls_13 hl_13 => ?_)
        obtain ⟨x14, ex14⟩ : ∃ y : Int32, y = x4 + (1 : Int32) := ⟨_, rfl⟩
        replace hf := nm_some ex14 hf
        refine lv_iinc (v := x14) (lv' := [(2, .int x14), (1, .int x12), (0, .int a0)]) hx hb dX12_size_18 hl_13 (k := 2) rfl (by rw [ex14]; rfl) (by decide) rfl (fun ls_15 hl_15 => ?_)
        refine lv_goto (tgt := 4) hx hb dX12_size_21 (by decide) ?_
        cases hf
        exact ih1 _ _ hK1 H_9 lo_9 I_9 ls_15 (lv_sub hl_15 [2, 1, 0] rfl)
  exact L1 FU _ _ hq1 H lo I ls_2 (lv_sub hl_2 [2, 1, 0] rfl)
def M_isTop_s2 (a0 : Int32) (a1 : Int32) (x9 : Int32) (G : Nat → Nat → Int32) (x19 : Int32) (x20 : Int32) : Option ((Int32 × Int32) ⊕ (Int32)) :=
if G 1 0 ≤ x20 then
(some (.inr x19))
else
(bd (if (a0 >>> (x9 &&& 31)) &&& (1 : Int32) = (1 : Int32) then
(if (a1 &&& (a0 ^^^ (-1 : Int32))) &&& ((1 : Int32) <<< (x20 &&& 31)) = 0 then
(some (0 : Int32))
else
(some (1 : Int32)))
else
(some (0 : Int32))) fun x31 =>
bd (if x19 = 0 then
(some (0 : Int32))
else
(if x31 = 0 then
(some (1 : Int32))
else
(bd (M_beats G x9 x20) fun r45 =>
if r45 = 0 then
(some (0 : Int32))
else
(some (1 : Int32))))) fun x37 =>
nm (x20 + (1 : Int32) : Int32) fun x42 =>
some (.inl (x37, x42)))
def M_isTop_s1 (a0 : Int32) (a1 : Int32) (G : Nat → Nat → Int32) (x8 : Int32) (x9 : Int32) : Option ((Int32 × Int32) ⊕ (Int32)) :=
if G 1 0 ≤ x9 then
(some (.inr x8))
else
(if x8 = 0 then
(some (.inr x8))
else
(bd (lp (fun q => M_isTop_s2 a0 a1 x9 G q.1 q.2) FU (x8, (0 : Int32))) fun x21 =>
nm (x9 + (1 : Int32) : Int32) fun x25 =>
some (.inl (x21, x25))))
def M_isTop (G : Nat → Nat → Int32) (a0 : Int32) (a1 : Int32) : Option (Int32) :=
bd (if a0 = 0 then
(some (0 : Int32))
else
(if a0 &&& (a1 ^^^ (-1 : Int32)) = 0 then
(some (1 : Int32))
else
(some (0 : Int32)))) fun x2 =>
bd (lp (fun q => M_isTop_s1 a0 a1 G q.1 q.2) FU (x2, (0 : Int32))) fun x10 =>
gd (x10 = 0 ∨ x10 = 1) <|
some x10
set_option maxRecDepth 100000 in
set_option maxHeartbeats 4000000 in
theorem cM_isTop (G : Nat → Nat → Int32) (E : Nat → Nat → Int64) (Dd : Nat → Nat → UInt64) (a0 : Int32) (a1 : Int32) (rv : Int32)  (hf : M_isTop G a0 a1 = some rv) : sMi D (mT cI cJ cD) (mW ad cI cJ cD) l yX12_isTop (ws1 yX12_isTop cX12_isTop 7 (some .boolean)) ({ frames := 1, cells := 0, slots := 0, locals := 22 }) [.ref (ad 0), .int a0, .int a1] (G, E, Dd) (rv, (G, E, Dd)) := by
  unfold M_isTop at hf
  refine sMz_of (by decide) (Nat.le_of_ble_eq_true rfl) ?_
  intro p e R s m args below meth c A Q ls H lo F hRf hRl I hl ret
  obtain ⟨hx, hb, hml, hown, hG⟩ := id F
  replace hl : lv_has ls 7 [(0, .ref (ad 0)), (1, .int a0), (2, .int a1)] := hl
  refine lv_iload_n hx hb dX12_isTop_0 rfl (lv_at hl 1 rfl) ?_
  obtain ⟨x2, hv57, hf⟩ := bd_some hf
  have J1 : ∀ (H : Heap) (locs : List Loc), sInv D (mT cI cJ cD) (mW ad cI cJ cD) A s H locs (G, E, Dd) → ∀ (ls : Array Slot), lv_has ls 7 [(0, .ref (ad 0)), (1, .int a0), (2, .int a1)] → W p l e R s m args below meth c H locs 0 0 Q (F0 m 17 ls [.int x2]) := by
    intro H_3 lo_3 I_3 ls_4 hl_4
    refine lv_istore_n (lv' := [(3, .int x2), (0, .ref (ad 0)), (1, .int a0), (2, .int a1)]) hx hb dX12_isTop_17 rfl hl_4 (by decide) rfl (fun ls_6 hl_6 => ?_)
    refine lv_iconst (v := (0 : Int32)) hx hb dX12_isTop_18 (by decide) ?_
    refine lv_istore (lv' := [(4, .int (0 : Int32)), (3, .int x2), (0, .ref (ad 0)), (1, .int a0), (2, .int a1)]) hx hb dX12_isTop_19 hl_6 (by decide) rfl (fun ls_7 hl_7 => ?_)
    obtain ⟨x10, hq1, hf⟩ := bd_some hf
    have K1 : ∀ (H : Heap) (locs : List Loc), sInv D (mT cI cJ cD) (mW ad cI cJ cD) A s H locs (G, E, Dd) → ∀ (ls : Array Slot), lv_has ls 7 [(3, .int x10)] → W p l e R s m args below meth c H locs 0 0 Q (F0 m 114 ls []) := by
      intro H_11 lo_11 I_11 ls_12 hl_12
      refine lv_iload_n hx hb dX12_isTop_114 rfl (lv_at hl_12 0 rfl) ?_
      obtain ⟨g14, hf⟩ := gd_some hf
      cases hf
      exact ret H_11 lo_11 _ ls_12 I_11 g14 dX12_isTop_115
    have L1 : ∀ (n : Nat) (x8 : Int32) (x9 : Int32), lp (fun q => M_isTop_s1 a0 a1 G q.1 q.2) n (x8, x9) = some x10 → ∀ (H : Heap) (locs : List Loc), sInv D (mT cI cJ cD) (mW ad cI cJ cD) A s H locs (G, E, Dd) → ∀ (ls : Array Slot), lv_has ls 7 [(0, .ref (ad 0)), (1, .int a0), (2, .int a1), (3, .int x8), (4, .int x9)] → W p l e R s m args below meth c H locs 0 0 Q (F0 m 21 ls []) := by
      intro n
      induction n with
      | zero => intro x8 x9 hq; exact (lp_0 hq).elim
      | succ n ih1 =>
        intro x8 x9 hq H_15 lo_15 I_15 ls_16 hl_16
        obtain ⟨y1, hf, hK1⟩ := lp_go hq
        replace hf : M_isTop_s1 a0 a1 G x8 x9 = some y1 := hf
        unfold M_isTop_s1 at hf
        refine lv_iload hx hb dX12_isTop_21 (lv_at hl_16 4 rfl) ?_
        refine lv_aload_n hx hb dX12_isTop_23 rfl (lv_at hl_16 0 rfl) ?_
        refine mgtX12_92_0 F I_15 dX12_isTop_24 ?_
        refine lv_icmp_ge (tgt := 114) hx hb dX12_isTop_27 (by decide) (fun c56 => ?_) (fun c56 => ?_)
        · replace hf := (if_pos c56).symm.trans hf
          cases hf
          cases (show x8 = x10 from hK1)
          exact K1 H_15 lo_15 I_15 ls_16 (lv_sub hl_16 [3] rfl)
        · replace hf := (if_neg c56).symm.trans hf
          refine lv_iload_n hx hb dX12_isTop_30 rfl (lv_at hl_16 3 rfl) ?_
          refine lv_if_eq (tgt := 114) hx hb dX12_isTop_31 (by decide) (fun c55 => ?_) (fun c55 => ?_)
          · replace hf := (if_pos c55).symm.trans hf
            cases hf
            cases (show x8 = x10 from hK1)
            exact K1 H_15 lo_15 I_15 ls_16 (lv_sub hl_16 [3] rfl)
          · replace hf := (if_neg c55).symm.trans hf
            refine lv_iconst (v := (0 : Int32)) hx hb dX12_isTop_34 (by decide) ?_
            refine lv_istore (lv' := [(5, .int (0 : Int32)), (0, .ref (ad 0)), (1, .int a0), (2, .int a1), (3, .int x8), (4, .int x9)]) hx hb dX12_isTop_35 hl_16 (by decide) rfl (fun ls_18 hl_18 => ?_)
            obtain ⟨x21, hq2, hf⟩ := bd_some hf
            have K2 : ∀ (H : Heap) (locs : List Loc), sInv D (mT cI cJ cD) (mW ad cI cJ cD) A s H locs (G, E, Dd) → ∀ (ls : Array Slot), lv_has ls 7 [(0, .ref (ad 0)), (1, .int a0), (2, .int a1), (3, .int x21), (4, .int x9)] → W p l e R s m args below meth c H locs 0 0 Q (F0 m 108 ls []) := by
              intro H_22 lo_22 I_22 ls_23 hl_23
              obtain ⟨x25, ex25⟩ : ∃ y : Int32, y = x9 + (1 : Int32) := ⟨_, rfl⟩
              replace hf := nm_some ex25 hf
              refine lv_iinc (v := x25) (lv' := [(4, .int x25), (0, .ref (ad 0)), (1, .int a0), (2, .int a1), (3, .int x21)]) hx hb dX12_isTop_108 hl_23 (k := 4) rfl (by rw [ex25]; rfl) (by decide) rfl (fun ls_26 hl_26 => ?_)
              refine lv_goto (tgt := 21) hx hb dX12_isTop_111 (by decide) ?_
              cases hf
              exact ih1 _ _ hK1 H_22 lo_22 I_22 ls_26 (lv_sub hl_26 [1, 2, 3, 4, 0] rfl)
            have L2 : ∀ (n : Nat) (x19 : Int32) (x20 : Int32), lp (fun q => M_isTop_s2 a0 a1 x9 G q.1 q.2) n (x19, x20) = some x21 → ∀ (H : Heap) (locs : List Loc), sInv D (mT cI cJ cD) (mW ad cI cJ cD) A s H locs (G, E, Dd) → ∀ (ls : Array Slot), lv_has ls 7 [(0, .ref (ad 0)), (1, .int a0), (2, .int a1), (3, .int x19), (4, .int x9), (5, .int x20)] → W p l e R s m args below meth c H locs 0 0 Q (F0 m 37 ls []) := by
              intro n
              induction n with
              | zero => intro x19 x20 hq; exact (lp_0 hq).elim
              | succ n ih2 =>
                intro x19 x20 hq H_27 lo_27 I_27 ls_28 hl_28
                obtain ⟨y2, hf, hK2⟩ := lp_go hq
                replace hf : M_isTop_s2 a0 a1 x9 G x19 x20 = some y2 := hf
                unfold M_isTop_s2 at hf
                refine lv_iload hx hb dX12_isTop_37 (lv_at hl_28 5 rfl) ?_
                refine lv_aload_n hx hb dX12_isTop_39 rfl (lv_at hl_28 0 rfl) ?_
                refine mgtX12_92_0 F I_27 dX12_isTop_40 ?_
                refine lv_icmp_ge (tgt := 108) hx hb dX12_isTop_43 (by decide) (fun c54 => ?_) (fun c54 => ?_)
                · replace hf := (if_pos c54).symm.trans hf
                  cases hf
                  cases (show x19 = x21 from hK2)
                  exact K2 H_27 lo_27 I_27 ls_28 (lv_sub hl_28 [0, 1, 2, 3, 4] rfl)
                · replace hf := (if_neg c54).symm.trans hf
                  refine lv_iload_n hx hb dX12_isTop_46 rfl (lv_at hl_28 1 rfl) ?_
                  refine lv_iload hx hb dX12_isTop_47 (lv_at hl_28 4 rfl) ?_
                  refine lv_ishr hx hb dX12_isTop_49 ?_
                  refine lv_iconst (v := (1 : Int32)) hx hb dX12_isTop_50 (by decide) ?_
                  refine lv_iand hx hb dX12_isTop_51 ?_
                  refine lv_iconst (v := (1 : Int32)) hx hb dX12_isTop_52 (by decide) ?_
                  obtain ⟨x31, hv51, hf⟩ := bd_some hf
                  have J30 : ∀ (H : Heap) (locs : List Loc), sInv D (mT cI cJ cD) (mW ad cI cJ cD) A s H locs (G, E, Dd) → ∀ (ls : Array Slot), lv_has ls 7 [(0, .ref (ad 0)), (1, .int a0), (2, .int a1), (3, .int x19), (4, .int x9), (5, .int x20)] → W p l e R s m args below meth c H locs 0 0 Q (F0 m 74 ls [.int x31]) := by
                    intro H_32 lo_32 I_32 ls_33 hl_33
                    refine lv_istore (lv' := [(6, .int x31), (0, .ref (ad 0)), (1, .int a0), (2, .int a1), (3, .int x19), (4, .int x9), (5, .int x20)]) hx hb dX12_isTop_74 hl_33 (by decide) rfl (fun ls_35 hl_35 => ?_)
                    refine lv_iload_n hx hb dX12_isTop_76 rfl (lv_at hl_35 4 rfl) ?_
                    obtain ⟨x37, hv44, hf⟩ := bd_some hf
                    have J36 : ∀ (H : Heap) (locs : List Loc), sInv D (mT cI cJ cD) (mW ad cI cJ cD) A s H locs (G, E, Dd) → ∀ (ls : Array Slot), lv_has ls 7 [(0, .ref (ad 0)), (1, .int a0), (2, .int a1), (4, .int x9), (5, .int x20)] → W p l e R s m args below meth c H locs 0 0 Q (F0 m 101 ls [.int x37]) := by
                      intro H_38 lo_38 I_38 ls_39 hl_39
                      refine lv_istore_n (lv' := [(3, .int x37), (0, .ref (ad 0)), (1, .int a0), (2, .int a1), (4, .int x9), (5, .int x20)]) hx hb dX12_isTop_101 rfl hl_39 (by decide) rfl (fun ls_41 hl_41 => ?_)
                      obtain ⟨x42, ex42⟩ : ∃ y : Int32, y = x20 + (1 : Int32) := ⟨_, rfl⟩
                      replace hf := nm_some ex42 hf
                      refine lv_iinc (v := x42) (lv' := [(5, .int x42), (3, .int x37), (0, .ref (ad 0)), (1, .int a0), (2, .int a1), (4, .int x9)]) hx hb dX12_isTop_102 hl_41 (k := 5) rfl (by rw [ex42]; rfl) (by decide) rfl (fun ls_43 hl_43 => ?_)
                      refine lv_goto (tgt := 37) hx hb dX12_isTop_105 (by decide) ?_
                      cases hf
                      exact ih2 _ _ hK2 H_38 lo_38 I_38 ls_43 (lv_sub hl_43 [2, 3, 4, 1, 5, 0] rfl)
                    replace hf := hv44
                    refine lv_if_eq (tgt := 100) hx hb dX12_isTop_77 (by decide) (fun c50 => ?_) (fun c50 => ?_)
                    · replace hf := (if_pos c50).symm.trans hf
                      refine lv_iconst (v := (0 : Int32)) hx hb dX12_isTop_100 (by decide) ?_
                      cases hf
                      exact J36 H_32 lo_32 I_32 ls_35 (lv_sub hl_35 [1, 2, 3, 5, 6] rfl)
                    · replace hf := (if_neg c50).symm.trans hf
                      refine lv_iload hx hb dX12_isTop_80 (lv_at hl_35 0 rfl) ?_
                      refine lv_if_eq (tgt := 96) hx hb dX12_isTop_82 (by decide) (fun c49 => ?_) (fun c49 => ?_)
                      · replace hf := (if_pos c49).symm.trans hf
                        refine lv_iconst (v := (1 : Int32)) hx hb dX12_isTop_96 (by decide) ?_
                        refine lv_goto (tgt := 101) hx hb dX12_isTop_97 (by decide) ?_
                        cases hf
                        exact J36 H_32 lo_32 I_32 ls_35 (lv_sub hl_35 [1, 2, 3, 5, 6] rfl)
                      · replace hf := (if_neg c49).symm.trans hf
                        refine lv_aload_n hx hb dX12_isTop_85 rfl (lv_at hl_35 1 rfl) ?_
                        refine lv_iload hx hb dX12_isTop_86 (lv_at hl_35 5 rfl) ?_
                        refine lv_iload hx hb dX12_isTop_88 (lv_at hl_35 6 rfl) ?_
                        obtain ⟨r45, h46, hf⟩ := bd_some hf
                        refine s_callVi (As := [.int x9, .int x20]) (rest := []) F I_32 (cM_beats G E Dd x9 x20 r45 h46) kX12_249 ⟨rfl, rfl⟩ ⟨Nat.le_trans (Nat.le_of_ble_eq_true rfl) hRf, Nat.le_trans (Nat.le_of_ble_eq_true rfl) hRl⟩ (0) 12 rfl rfl rfl rfl rfl hl_35.1 (Nat.le_of_ble_eq_true rfl) ⟨Nat.zero_le _, Nat.zero_le _⟩ dX12_isTop_90 ?_
                        intro H_47 lo_47 I_47
                        refine lv_if_eq (tgt := 100) hx hb dX12_isTop_93 (by decide) (fun c48 => ?_) (fun c48 => ?_)
                        · replace hf := (if_pos c48).symm.trans hf
                          refine lv_iconst (v := (0 : Int32)) hx hb dX12_isTop_100 (by decide) ?_
                          cases hf
                          exact J36 H_47 lo_47 I_47 ls_35 (lv_sub hl_35 [1, 2, 3, 5, 6] rfl)
                        · replace hf := (if_neg c48).symm.trans hf
                          refine lv_iconst (v := (1 : Int32)) hx hb dX12_isTop_96 (by decide) ?_
                          refine lv_goto (tgt := 101) hx hb dX12_isTop_97 (by decide) ?_
                          cases hf
                          exact J36 H_47 lo_47 I_47 ls_35 (lv_sub hl_35 [1, 2, 3, 5, 6] rfl)
                  replace hf := hv51
                  refine lv_icmp_ne (tgt := 73) hx hb dX12_isTop_53 (by decide) (fun c53 => ?_) (fun c53 => ?_)
                  · replace hf := (if_neg c53).symm.trans hf
                    refine lv_iconst (v := (0 : Int32)) hx hb dX12_isTop_73 (by decide) ?_
                    cases hf
                    exact J30 H_27 lo_27 I_27 ls_28 (lv_sub hl_28 [0, 1, 2, 3, 4, 5] rfl)
                  · replace hf := (if_pos c53).symm.trans hf
                    refine lv_iload_n hx hb dX12_isTop_56 rfl (lv_at hl_28 2 rfl) ?_
                    refine lv_iload_n hx hb dX12_isTop_57 rfl (lv_at hl_28 1 rfl) ?_
                    refine lv_iconst (v := (-1 : Int32)) hx hb dX12_isTop_58 (by decide) ?_
                    refine lv_ixor hx hb dX12_isTop_59 ?_
                    refine lv_iand hx hb dX12_isTop_60 ?_
                    refine lv_iconst (v := (1 : Int32)) hx hb dX12_isTop_61 (by decide) ?_
                    refine lv_iload hx hb dX12_isTop_62 (lv_at hl_28 5 rfl) ?_
                    refine lv_ishl hx hb dX12_isTop_64 ?_
                    refine lv_iand hx hb dX12_isTop_65 ?_
                    refine lv_if_eq (tgt := 73) hx hb dX12_isTop_66 (by decide) (fun c52 => ?_) (fun c52 => ?_)
                    · replace hf := (if_pos c52).symm.trans hf
                      refine lv_iconst (v := (0 : Int32)) hx hb dX12_isTop_73 (by decide) ?_
                      cases hf
                      exact J30 H_27 lo_27 I_27 ls_28 (lv_sub hl_28 [0, 1, 2, 3, 4, 5] rfl)
                    · replace hf := (if_neg c52).symm.trans hf
                      refine lv_iconst (v := (1 : Int32)) hx hb dX12_isTop_69 (by decide) ?_
                      refine lv_goto (tgt := 74) hx hb dX12_isTop_70 (by decide) ?_
                      cases hf
                      exact J30 H_27 lo_27 I_27 ls_28 (lv_sub hl_28 [0, 1, 2, 3, 4, 5] rfl)
            exact L2 FU _ _ hq2 H_15 lo_15 I_15 ls_18 (lv_sub hl_18 [1, 2, 3, 4, 5, 0] rfl)
    exact L1 FU _ _ hq1 H_3 lo_3 I_3 ls_7 (lv_sub hl_7 [2, 3, 4, 1, 0] rfl)
  replace hf := hv57
  refine lv_if_eq (tgt := 16) hx hb dX12_isTop_1 (by decide) (fun c59 => ?_) (fun c59 => ?_)
  · replace hf := (if_pos c59).symm.trans hf
    refine lv_iconst (v := (0 : Int32)) hx hb dX12_isTop_16 (by decide) ?_
    cases hf
    exact J1 H lo I ls (lv_sub hl [0, 1, 2] rfl)
  · replace hf := (if_neg c59).symm.trans hf
    refine lv_iload_n hx hb dX12_isTop_4 rfl (lv_at hl 1 rfl) ?_
    refine lv_iload_n hx hb dX12_isTop_5 rfl (lv_at hl 2 rfl) ?_
    refine lv_iconst (v := (-1 : Int32)) hx hb dX12_isTop_6 (by decide) ?_
    refine lv_ixor hx hb dX12_isTop_7 ?_
    refine lv_iand hx hb dX12_isTop_8 ?_
    refine lv_if_ne (tgt := 16) hx hb dX12_isTop_9 (by decide) (fun c58 => ?_) (fun c58 => ?_)
    · replace hf := (if_neg c58).symm.trans hf
      refine lv_iconst (v := (0 : Int32)) hx hb dX12_isTop_16 (by decide) ?_
      cases hf
      exact J1 H lo I ls (lv_sub hl [0, 1, 2] rfl)
    · replace hf := (if_pos c58).symm.trans hf
      refine lv_iconst (v := (1 : Int32)) hx hb dX12_isTop_12 (by decide) ?_
      refine lv_goto (tgt := 17) hx hb dX12_isTop_13 (by decide) ?_
      cases hf
      exact J1 H lo I ls (lv_sub hl [0, 1, 2] rfl)
def M_topOf_s1 (a0 : Int32) (G : Nat → Nat → Int32) (x3 : Int32) (x4 : Int32) : Option ((Int32 × Int32) ⊕ (Int32)) :=
if (1 : Int32) <<< ((G 1 0) &&& 31) ≤ x4 then
(some (.inr x3))
else
(bd (M_size x4) fun r12 =>
bd (M_size x3) fun r15 =>
bd (if r15 ≤ r12 then
(some x3)
else
(bd (M_isTop G x4 a0) fun r27 =>
if r27 = 0 then
(some x3)
else
(some x4))) fun x19 =>
nm (x4 + (1 : Int32) : Int32) fun x24 =>
some (.inl (x19, x24)))
def M_topOf (G : Nat → Nat → Int32) (a0 : Int32) : Option (Int32) :=
bd (lp (fun q => M_topOf_s1 a0 G q.1 q.2) FU (a0, (1 : Int32))) fun x5 =>
some x5
set_option maxRecDepth 100000 in
set_option maxHeartbeats 4000000 in
theorem cM_topOf (G : Nat → Nat → Int32) (E : Nat → Nat → Int64) (Dd : Nat → Nat → UInt64) (a0 : Int32) (rv : Int32)  (hf : M_topOf G a0 = some rv) : sMi D (mT cI cJ cD) (mW ad cI cJ cD) l yX12_topOf (ws1 yX12_topOf cX12_topOf 4 (some .int)) ({ frames := 2, cells := 0, slots := 0, locals := 48 }) [.ref (ad 0), .int a0] (G, E, Dd) (rv, (G, E, Dd)) := by
  unfold M_topOf at hf
  refine sMi_of (by decide) (Nat.le_of_ble_eq_true rfl) ?_
  intro p e R s m args below meth c A Q ls H lo F hRf hRl I hl ret
  obtain ⟨hx, hb, hml, hown, hG⟩ := id F
  replace hl : lv_has ls 4 [(0, .ref (ad 0)), (1, .int a0)] := hl
  refine lv_iload_n hx hb dX12_topOf_0 rfl (lv_at hl 1 rfl) ?_
  refine lv_istore_n (lv' := [(2, .int a0), (0, .ref (ad 0)), (1, .int a0)]) hx hb dX12_topOf_1 rfl hl (by decide) rfl (fun ls_1 hl_1 => ?_)
  refine lv_iconst (v := (1 : Int32)) hx hb dX12_topOf_2 (by decide) ?_
  refine lv_istore_n (lv' := [(3, .int (1 : Int32)), (2, .int a0), (0, .ref (ad 0)), (1, .int a0)]) hx hb dX12_topOf_3 rfl hl_1 (by decide) rfl (fun ls_2 hl_2 => ?_)
  obtain ⟨x5, hq1, hf⟩ := bd_some hf
  have K1 : ∀ (H : Heap) (locs : List Loc), sInv D (mT cI cJ cD) (mW ad cI cJ cD) A s H locs (G, E, Dd) → ∀ (ls : Array Slot), lv_has ls 4 [(2, .int x5)] → W p l e R s m args below meth c H locs 0 0 Q (F0 m 46 ls []) := by
    intro H_6 lo_6 I_6 ls_7 hl_7
    refine lv_iload_n hx hb dX12_topOf_46 rfl (lv_at hl_7 0 rfl) ?_
    cases hf
    exact ret H_6 lo_6 _ ls_7 I_6 dX12_topOf_47
  have L1 : ∀ (n : Nat) (x3 : Int32) (x4 : Int32), lp (fun q => M_topOf_s1 a0 G q.1 q.2) n (x3, x4) = some x5 → ∀ (H : Heap) (locs : List Loc), sInv D (mT cI cJ cD) (mW ad cI cJ cD) A s H locs (G, E, Dd) → ∀ (ls : Array Slot), lv_has ls 4 [(0, .ref (ad 0)), (1, .int a0), (2, .int x3), (3, .int x4)] → W p l e R s m args below meth c H locs 0 0 Q (F0 m 4 ls []) := by
    intro n
    induction n with
    | zero => intro x3 x4 hq; exact (lp_0 hq).elim
    | succ n ih1 =>
      intro x3 x4 hq H_9 lo_9 I_9 ls_10 hl_10
      obtain ⟨y1, hf, hK1⟩ := lp_go hq
      replace hf : M_topOf_s1 a0 G x3 x4 = some y1 := hf
      unfold M_topOf_s1 at hf
      refine lv_iload_n hx hb dX12_topOf_4 rfl (lv_at hl_10 3 rfl) ?_
      refine lv_iconst (v := (1 : Int32)) hx hb dX12_topOf_5 (by decide) ?_
      refine lv_aload_n hx hb dX12_topOf_6 rfl (lv_at hl_10 0 rfl) ?_
      refine mgtX12_92_0 F I_9 dX12_topOf_7 ?_
      refine lv_ishl hx hb dX12_topOf_10 ?_
      refine lv_icmp_ge (tgt := 46) hx hb dX12_topOf_11 (by decide) (fun c32 => ?_) (fun c32 => ?_)
      · replace hf := (if_pos c32).symm.trans hf
        cases hf
        cases (show x3 = x5 from hK1)
        exact K1 H_9 lo_9 I_9 ls_10 (lv_sub hl_10 [2] rfl)
      · replace hf := (if_neg c32).symm.trans hf
        refine lv_iload_n hx hb dX12_topOf_14 rfl (lv_at hl_10 3 rfl) ?_
        obtain ⟨r12, h13, hf⟩ := bd_some hf
        refine s_callSi (As := [.int x4]) (rest := []) F I_9 (cM_size G E Dd x4 r12 h13) kX12_253 ⟨rfl, rfl⟩ ⟨Nat.le_trans (Nat.le_of_ble_eq_true rfl) hRf, Nat.le_trans (Nat.le_of_ble_eq_true rfl) hRl⟩ rfl rfl hl_10.1 (Nat.le_of_ble_eq_true rfl) ⟨Nat.zero_le _, Nat.zero_le _⟩ dX12_topOf_15 ?_
        intro H_14 lo_14 I_14
        refine lv_iload_n hx hb dX12_topOf_18 rfl (lv_at hl_10 2 rfl) ?_
        obtain ⟨r15, h16, hf⟩ := bd_some hf
        refine s_callSi (As := [.int x3]) (rest := [.int r12]) F I_14 (cM_size G E Dd x3 r15 h16) kX12_253 ⟨rfl, rfl⟩ ⟨Nat.le_trans (Nat.le_of_ble_eq_true rfl) hRf, Nat.le_trans (Nat.le_of_ble_eq_true rfl) hRl⟩ rfl rfl hl_10.1 (Nat.le_of_ble_eq_true rfl) ⟨Nat.zero_le _, Nat.zero_le _⟩ dX12_topOf_19 ?_
        intro H_17 lo_17 I_17
        obtain ⟨x19, hv26, hf⟩ := bd_some hf
        have J18 : ∀ (H : Heap) (locs : List Loc), sInv D (mT cI cJ cD) (mW ad cI cJ cD) A s H locs (G, E, Dd) → ∀ (ls : Array Slot), lv_has ls 4 [(0, .ref (ad 0)), (1, .int a0), (3, .int x4)] → W p l e R s m args below meth c H locs 0 0 Q (F0 m 39 ls [.int x19]) := by
          intro H_20 lo_20 I_20 ls_21 hl_21
          refine lv_istore_n (lv' := [(2, .int x19), (0, .ref (ad 0)), (1, .int a0), (3, .int x4)]) hx hb dX12_topOf_39 rfl hl_21 (by decide) rfl (fun ls_23 hl_23 => ?_)
          obtain ⟨x24, ex24⟩ : ∃ y : Int32, y = x4 + (1 : Int32) := ⟨_, rfl⟩
          replace hf := nm_some ex24 hf
          refine lv_iinc (v := x24) (lv' := [(3, .int x24), (2, .int x19), (0, .ref (ad 0)), (1, .int a0)]) hx hb dX12_topOf_40 hl_23 (k := 3) rfl (by rw [ex24]; rfl) (by decide) rfl (fun ls_25 hl_25 => ?_)
          refine lv_goto (tgt := 4) hx hb dX12_topOf_43 (by decide) ?_
          cases hf
          exact ih1 _ _ hK1 H_20 lo_20 I_20 ls_25 (lv_sub hl_25 [2, 3, 1, 0] rfl)
        replace hf := hv26
        refine lv_icmp_ge (tgt := 38) hx hb dX12_topOf_22 (by decide) (fun c31 => ?_) (fun c31 => ?_)
        · replace hf := (if_pos c31).symm.trans hf
          refine lv_iload_n hx hb dX12_topOf_38 rfl (lv_at hl_10 2 rfl) ?_
          cases hf
          exact J18 H_17 lo_17 I_17 ls_10 (lv_sub hl_10 [0, 1, 3] rfl)
        · replace hf := (if_neg c31).symm.trans hf
          refine lv_aload_n hx hb dX12_topOf_25 rfl (lv_at hl_10 0 rfl) ?_
          refine lv_iload_n hx hb dX12_topOf_26 rfl (lv_at hl_10 3 rfl) ?_
          refine lv_iload_n hx hb dX12_topOf_27 rfl (lv_at hl_10 1 rfl) ?_
          obtain ⟨r27, h28, hf⟩ := bd_some hf
          refine s_callVi (As := [.int x4, .int a0]) (rest := []) F I_17 (cM_isTop G E Dd x4 a0 r27 h28) kX12_256 ⟨rfl, rfl⟩ ⟨Nat.le_trans (Nat.le_of_ble_eq_true rfl) hRf, Nat.le_trans (Nat.le_of_ble_eq_true rfl) hRl⟩ (0) 12 rfl rfl rfl rfl rfl hl_10.1 (Nat.le_of_ble_eq_true rfl) ⟨Nat.zero_le _, Nat.zero_le _⟩ dX12_topOf_28 ?_
          intro H_29 lo_29 I_29
          refine lv_if_eq (tgt := 38) hx hb dX12_topOf_31 (by decide) (fun c30 => ?_) (fun c30 => ?_)
          · replace hf := (if_pos c30).symm.trans hf
            refine lv_iload_n hx hb dX12_topOf_38 rfl (lv_at hl_10 2 rfl) ?_
            cases hf
            exact J18 H_29 lo_29 I_29 ls_10 (lv_sub hl_10 [0, 1, 3] rfl)
          · replace hf := (if_neg c30).symm.trans hf
            refine lv_iload_n hx hb dX12_topOf_34 rfl (lv_at hl_10 3 rfl) ?_
            refine lv_goto (tgt := 39) hx hb dX12_topOf_35 (by decide) ?_
            cases hf
            exact J18 H_29 lo_29 I_29 ls_10 (lv_sub hl_10 [0, 1, 3] rfl)
  exact L1 FU _ _ hq1 H lo I ls_2 (lv_sub hl_2 [2, 3, 1, 0] rfl)
def M_layerOf_s1 (a0 : Int32) (G : Nat → Nat → Int32) (x4 : Int32) (x5 : Int32) : Option ((Int32 × Int32) ⊕ (Int32)) :=
if x4 = 0 then
(some (.inr x5))
else
(bd (M_topOf G x4) fun r9 =>
if a0 = (-1 : Int32) then
(nm (x4 &&& (r9 ^^^ (-1 : Int32)) : Int32) fun x13 =>
nm (x5 + (1 : Int32) : Int32) fun x15 =>
some (.inl (x13, x15)))
else
(if (r9 >>> (a0 &&& 31)) &&& (1 : Int32) = (1 : Int32) then
(some (.inr x5))
else
(nm (x4 &&& (r9 ^^^ (-1 : Int32)) : Int32) fun x17 =>
nm (x5 + (1 : Int32) : Int32) fun x19 =>
some (.inl (x17, x19)))))
def M_layerOf (G : Nat → Nat → Int32) (a0 : Int32) : Option (Int32) :=
nm (((1 : Int32) <<< ((G 1 0) &&& 31)) - (1 : Int32) : Int32) fun x1 =>
lp (fun q => M_layerOf_s1 a0 G q.1 q.2) FU (x1, (0 : Int32))
set_option maxRecDepth 100000 in
set_option maxHeartbeats 4000000 in
theorem cM_layerOf (G : Nat → Nat → Int32) (E : Nat → Nat → Int64) (Dd : Nat → Nat → UInt64) (a0 : Int32) (rv : Int32)  (hf : M_layerOf G a0 = some rv) : sMi D (mT cI cJ cD) (mW ad cI cJ cD) l yX12_layerOf (ws1 yX12_layerOf cX12_layerOf 5 (some .int)) ({ frames := 3, cells := 0, slots := 0, locals := 71 }) [.ref (ad 0), .int a0] (G, E, Dd) (rv, (G, E, Dd)) := by
  unfold M_layerOf at hf
  refine sMi_of (by decide) (Nat.le_of_ble_eq_true rfl) ?_
  intro p e R s m args below meth c A Q ls H lo F hRf hRl I hl ret
  obtain ⟨hx, hb, hml, hown, hG⟩ := id F
  replace hl : lv_has ls 5 [(0, .ref (ad 0)), (1, .int a0)] := hl
  refine lv_iconst (v := (1 : Int32)) hx hb dX12_layerOf_0 (by decide) ?_
  refine lv_aload_n hx hb dX12_layerOf_1 rfl (lv_at hl 0 rfl) ?_
  refine mgtX12_92_0 F I dX12_layerOf_2 ?_
  refine lv_ishl hx hb dX12_layerOf_5 ?_
  refine lv_iconst (v := (1 : Int32)) hx hb dX12_layerOf_6 (by decide) ?_
  refine lv_isub hx hb dX12_layerOf_7 ?_
  refine lv_topi (fun x1 ex1 => ?_)
  replace hf := nm_some ex1 hf
  refine lv_istore_n (lv' := [(2, .int x1), (0, .ref (ad 0)), (1, .int a0)]) hx hb dX12_layerOf_8 rfl hl (by decide) rfl (fun ls_2 hl_2 => ?_)
  refine lv_iconst (v := (0 : Int32)) hx hb dX12_layerOf_9 (by decide) ?_
  refine lv_istore_n (lv' := [(3, .int (0 : Int32)), (2, .int x1), (0, .ref (ad 0)), (1, .int a0)]) hx hb dX12_layerOf_10 rfl hl_2 (by decide) rfl (fun ls_3 hl_3 => ?_)
  have hq1 : lp (fun q => M_layerOf_s1 a0 G q.1 q.2) FU (x1, (0 : Int32)) = some rv := hf
  have L1 : ∀ (n : Nat) (x4 : Int32) (x5 : Int32), lp (fun q => M_layerOf_s1 a0 G q.1 q.2) n (x4, x5) = some rv → ∀ (H : Heap) (locs : List Loc), sInv D (mT cI cJ cD) (mW ad cI cJ cD) A s H locs (G, E, Dd) → ∀ (ls : Array Slot), lv_has ls 5 [(0, .ref (ad 0)), (1, .int a0), (2, .int x4), (3, .int x5)] → W p l e R s m args below meth c H locs 0 0 Q (F0 m 11 ls []) := by
    intro n
    induction n with
    | zero => intro x4 x5 hq; exact (lp_0 hq).elim
    | succ n ih1 =>
      intro x4 x5 hq H_6 lo_6 I_6 ls_7 hl_7
      obtain ⟨y1, hf, hK1⟩ := lp_go hq
      replace hf : M_layerOf_s1 a0 G x4 x5 = some y1 := hf
      unfold M_layerOf_s1 at hf
      refine lv_iload_n hx hb dX12_layerOf_11 rfl (lv_at hl_7 2 rfl) ?_
      refine lv_if_eq (tgt := 52) hx hb dX12_layerOf_12 (by decide) (fun c23 => ?_) (fun c23 => ?_)
      · replace hf := (if_pos c23).symm.trans hf
        refine lv_iload_n hx hb dX12_layerOf_52 rfl (lv_at hl_7 3 rfl) ?_
        cases hf
        have hf := congrArg some (show _ = _ from hK1)
        cases hf
        exact ret H_6 lo_6 _ ls_7 I_6 dX12_layerOf_53
      · replace hf := (if_neg c23).symm.trans hf
        refine lv_aload_n hx hb dX12_layerOf_15 rfl (lv_at hl_7 0 rfl) ?_
        refine lv_iload_n hx hb dX12_layerOf_16 rfl (lv_at hl_7 2 rfl) ?_
        obtain ⟨r9, h10, hf⟩ := bd_some hf
        refine s_callVi (As := [.int x4]) (rest := []) F I_6 (cM_topOf G E Dd x4 r9 h10) kX12_259 ⟨rfl, rfl⟩ ⟨Nat.le_trans (Nat.le_of_ble_eq_true rfl) hRf, Nat.le_trans (Nat.le_of_ble_eq_true rfl) hRl⟩ (0) 12 rfl rfl rfl rfl rfl hl_7.1 (Nat.le_of_ble_eq_true rfl) ⟨Nat.zero_le _, Nat.zero_le _⟩ dX12_layerOf_17 ?_
        intro H_11 lo_11 I_11
        refine lv_istore (lv' := [(4, .int r9), (0, .ref (ad 0)), (1, .int a0), (2, .int x4), (3, .int x5)]) hx hb dX12_layerOf_20 hl_7 (by decide) rfl (fun ls_12 hl_12 => ?_)
        refine lv_iload_n hx hb dX12_layerOf_22 rfl (lv_at hl_12 2 rfl) ?_
        refine lv_iconst (v := (-1 : Int32)) hx hb dX12_layerOf_23 (by decide) ?_
        refine lv_icmp_eq (tgt := 39) hx hb dX12_layerOf_24 (by decide) (fun c22 => ?_) (fun c22 => ?_)
        · replace hf := (if_pos c22).symm.trans hf
          refine lv_iload_n hx hb dX12_layerOf_39 rfl (lv_at hl_12 3 rfl) ?_
          refine lv_iload hx hb dX12_layerOf_40 (lv_at hl_12 0 rfl) ?_
          refine lv_iconst (v := (-1 : Int32)) hx hb dX12_layerOf_42 (by decide) ?_
          refine lv_ixor hx hb dX12_layerOf_43 ?_
          refine lv_iand hx hb dX12_layerOf_44 ?_
          refine lv_topi (fun x13 ex13 => ?_)
          replace hf := nm_some ex13 hf
          refine lv_istore_n (lv' := [(2, .int x13), (4, .int r9), (0, .ref (ad 0)), (1, .int a0), (3, .int x5)]) hx hb dX12_layerOf_45 rfl hl_12 (by decide) rfl (fun ls_14 hl_14 => ?_)
          obtain ⟨x15, ex15⟩ : ∃ y : Int32, y = x5 + (1 : Int32) := ⟨_, rfl⟩
          replace hf := nm_some ex15 hf
          refine lv_iinc (v := x15) (lv' := [(3, .int x15), (2, .int x13), (4, .int r9), (0, .ref (ad 0)), (1, .int a0)]) hx hb dX12_layerOf_46 hl_14 (k := 4) rfl (by rw [ex15]; rfl) (by decide) rfl (fun ls_16 hl_16 => ?_)
          refine lv_goto (tgt := 11) hx hb dX12_layerOf_49 (by decide) ?_
          cases hf
          exact ih1 _ _ hK1 H_11 lo_11 I_11 ls_16 (lv_sub hl_16 [3, 4, 1, 0] rfl)
        · replace hf := (if_neg c22).symm.trans hf
          refine lv_iload hx hb dX12_layerOf_27 (lv_at hl_12 0 rfl) ?_
          refine lv_iload_n hx hb dX12_layerOf_29 rfl (lv_at hl_12 2 rfl) ?_
          refine lv_ishr hx hb dX12_layerOf_30 ?_
          refine lv_iconst (v := (1 : Int32)) hx hb dX12_layerOf_31 (by decide) ?_
          refine lv_iand hx hb dX12_layerOf_32 ?_
          refine lv_iconst (v := (1 : Int32)) hx hb dX12_layerOf_33 (by decide) ?_
          refine lv_icmp_ne (tgt := 39) hx hb dX12_layerOf_34 (by decide) (fun c21 => ?_) (fun c21 => ?_)
          · replace hf := (if_neg c21).symm.trans hf
            refine lv_iload_n hx hb dX12_layerOf_39 rfl (lv_at hl_12 3 rfl) ?_
            refine lv_iload hx hb dX12_layerOf_40 (lv_at hl_12 0 rfl) ?_
            refine lv_iconst (v := (-1 : Int32)) hx hb dX12_layerOf_42 (by decide) ?_
            refine lv_ixor hx hb dX12_layerOf_43 ?_
            refine lv_iand hx hb dX12_layerOf_44 ?_
            refine lv_topi (fun x17 ex17 => ?_)
            replace hf := nm_some ex17 hf
            refine lv_istore_n (lv' := [(2, .int x17), (4, .int r9), (0, .ref (ad 0)), (1, .int a0), (3, .int x5)]) hx hb dX12_layerOf_45 rfl hl_12 (by decide) rfl (fun ls_18 hl_18 => ?_)
            obtain ⟨x19, ex19⟩ : ∃ y : Int32, y = x5 + (1 : Int32) := ⟨_, rfl⟩
            replace hf := nm_some ex19 hf
            refine lv_iinc (v := x19) (lv' := [(3, .int x19), (2, .int x17), (4, .int r9), (0, .ref (ad 0)), (1, .int a0)]) hx hb dX12_layerOf_46 hl_18 (k := 4) rfl (by rw [ex19]; rfl) (by decide) rfl (fun ls_20 hl_20 => ?_)
            refine lv_goto (tgt := 11) hx hb dX12_layerOf_49 (by decide) ?_
            cases hf
            exact ih1 _ _ hK1 H_11 lo_11 I_11 ls_20 (lv_sub hl_20 [3, 4, 1, 0] rfl)
          · replace hf := (if_pos c21).symm.trans hf
            refine lv_iload_n hx hb dX12_layerOf_37 rfl (lv_at hl_12 4 rfl) ?_
            cases hf
            have hf := congrArg some (show _ = _ from hK1)
            cases hf
            exact ret H_11 lo_11 _ ls_12 I_11 dX12_layerOf_38
  exact L1 FU _ _ hq1 H lo I ls_3 (lv_sub hl_3 [2, 3, 1, 0] rfl)
def M_costOf_s1 (a0 : Int32) (a1 : Int32) (G : Nat → Nat → Int32) (x3 : Int32) (x4 : Int32) : Option ((Int32 × Int32) ⊕ (Int32)) :=
if G 1 0 ≤ x4 then
(some (.inr x3))
else
(bd (if (a1 >>> (x4 &&& 31)) &&& (1 : Int32) = (1 : Int32) then
(bd (M_beats G x4 a0) fun r22 =>
if r22 = 0 then
(some (0 : Int32))
else
(ri 64 (((8 : Int32) * x4) + a0) <|
some (G 29 (((8 : Int32) * x4) + a0).toNatClampNeg)))
else
(some (0 : Int32))) fun x13 =>
nm (x3 + x13 : Int32) fun x17 =>
nm (x4 + (1 : Int32) : Int32) fun x19 =>
some (.inl (x17, x19)))
def M_costOf (G : Nat → Nat → Int32) (a0 : Int32) (a1 : Int32) : Option (Int32) :=
bd (lp (fun q => M_costOf_s1 a0 a1 G q.1 q.2) FU ((0 : Int32), (0 : Int32))) fun x5 =>
some x5
set_option maxRecDepth 100000 in
set_option maxHeartbeats 4000000 in
theorem cM_costOf (G : Nat → Nat → Int32) (E : Nat → Nat → Int64) (Dd : Nat → Nat → UInt64) (a0 : Int32) (a1 : Int32) (rv : Int32)  (hf : M_costOf G a0 a1 = some rv) : sMi D (mT cI cJ cD) (mW ad cI cJ cD) l yX12_costOf (ws1 yX12_costOf cX12_costOf 5 (some .int)) ({ frames := 1, cells := 0, slots := 0, locals := 22 }) [.ref (ad 0), .int a0, .int a1] (G, E, Dd) (rv, (G, E, Dd)) := by
  unfold M_costOf at hf
  refine sMi_of (by decide) (Nat.le_of_ble_eq_true rfl) ?_
  intro p e R s m args below meth c A Q ls H lo F hRf hRl I hl ret
  obtain ⟨hx, hb, hml, hown, hG⟩ := id F
  replace hl : lv_has ls 5 [(0, .ref (ad 0)), (1, .int a0), (2, .int a1)] := hl
  refine lv_iconst (v := (0 : Int32)) hx hb dX12_costOf_0 (by decide) ?_
  refine lv_istore_n (lv' := [(3, .int (0 : Int32)), (0, .ref (ad 0)), (1, .int a0), (2, .int a1)]) hx hb dX12_costOf_1 rfl hl (by decide) rfl (fun ls_1 hl_1 => ?_)
  refine lv_iconst (v := (0 : Int32)) hx hb dX12_costOf_2 (by decide) ?_
  refine lv_istore (lv' := [(4, .int (0 : Int32)), (3, .int (0 : Int32)), (0, .ref (ad 0)), (1, .int a0), (2, .int a1)]) hx hb dX12_costOf_3 hl_1 (by decide) rfl (fun ls_2 hl_2 => ?_)
  obtain ⟨x5, hq1, hf⟩ := bd_some hf
  have K1 : ∀ (H : Heap) (locs : List Loc), sInv D (mT cI cJ cD) (mW ad cI cJ cD) A s H locs (G, E, Dd) → ∀ (ls : Array Slot), lv_has ls 5 [(3, .int x5)] → W p l e R s m args below meth c H locs 0 0 Q (F0 m 59 ls []) := by
    intro H_6 lo_6 I_6 ls_7 hl_7
    refine lv_iload_n hx hb dX12_costOf_59 rfl (lv_at hl_7 0 rfl) ?_
    cases hf
    exact ret H_6 lo_6 _ ls_7 I_6 dX12_costOf_60
  have L1 : ∀ (n : Nat) (x3 : Int32) (x4 : Int32), lp (fun q => M_costOf_s1 a0 a1 G q.1 q.2) n (x3, x4) = some x5 → ∀ (H : Heap) (locs : List Loc), sInv D (mT cI cJ cD) (mW ad cI cJ cD) A s H locs (G, E, Dd) → ∀ (ls : Array Slot), lv_has ls 5 [(0, .ref (ad 0)), (1, .int a0), (2, .int a1), (3, .int x3), (4, .int x4)] → W p l e R s m args below meth c H locs 0 0 Q (F0 m 5 ls []) := by
    intro n
    induction n with
    | zero => intro x3 x4 hq; exact (lp_0 hq).elim
    | succ n ih1 =>
      intro x3 x4 hq H_9 lo_9 I_9 ls_10 hl_10
      obtain ⟨y1, hf, hK1⟩ := lp_go hq
      replace hf : M_costOf_s1 a0 a1 G x3 x4 = some y1 := hf
      unfold M_costOf_s1 at hf
      refine lv_iload hx hb dX12_costOf_5 (lv_at hl_10 4 rfl) ?_
      refine lv_aload_n hx hb dX12_costOf_7 rfl (lv_at hl_10 0 rfl) ?_
      refine mgtX12_92_0 F I_9 dX12_costOf_8 ?_
      refine lv_icmp_ge (tgt := 59) hx hb dX12_costOf_11 (by decide) (fun c28 => ?_) (fun c28 => ?_)
      · replace hf := (if_pos c28).symm.trans hf
        cases hf
        cases (show x3 = x5 from hK1)
        exact K1 H_9 lo_9 I_9 ls_10 (lv_sub hl_10 [3] rfl)
      · replace hf := (if_neg c28).symm.trans hf
        refine lv_iload_n hx hb dX12_costOf_14 rfl (lv_at hl_10 3 rfl) ?_
        refine lv_iload_n hx hb dX12_costOf_15 rfl (lv_at hl_10 2 rfl) ?_
        refine lv_iload hx hb dX12_costOf_16 (lv_at hl_10 4 rfl) ?_
        refine lv_ishr hx hb dX12_costOf_18 ?_
        refine lv_iconst (v := (1 : Int32)) hx hb dX12_costOf_19 (by decide) ?_
        refine lv_iand hx hb dX12_costOf_20 ?_
        refine lv_iconst (v := (1 : Int32)) hx hb dX12_costOf_21 (by decide) ?_
        obtain ⟨x13, hv21, hf⟩ := bd_some hf
        have J12 : ∀ (H : Heap) (locs : List Loc), sInv D (mT cI cJ cD) (mW ad cI cJ cD) A s H locs (G, E, Dd) → ∀ (ls : Array Slot), lv_has ls 5 [(0, .ref (ad 0)), (1, .int a0), (2, .int a1), (4, .int x4)] → W p l e R s m args below meth c H locs 0 0 Q (F0 m 51 ls [.int x13, .int x3]) := by
          intro H_14 lo_14 I_14 ls_15 hl_15
          refine lv_iadd hx hb dX12_costOf_51 ?_
          refine lv_topi (fun x17 ex17 => ?_)
          replace hf := nm_some ex17 hf
          refine lv_istore_n (lv' := [(3, .int x17), (0, .ref (ad 0)), (1, .int a0), (2, .int a1), (4, .int x4)]) hx hb dX12_costOf_52 rfl hl_15 (by decide) rfl (fun ls_18 hl_18 => ?_)
          obtain ⟨x19, ex19⟩ : ∃ y : Int32, y = x4 + (1 : Int32) := ⟨_, rfl⟩
          replace hf := nm_some ex19 hf
          refine lv_iinc (v := x19) (lv' := [(4, .int x19), (3, .int x17), (0, .ref (ad 0)), (1, .int a0), (2, .int a1)]) hx hb dX12_costOf_53 hl_18 (k := 4) rfl (by rw [ex19]; rfl) (by decide) rfl (fun ls_20 hl_20 => ?_)
          refine lv_goto (tgt := 5) hx hb dX12_costOf_56 (by decide) ?_
          cases hf
          exact ih1 _ _ hK1 H_14 lo_14 I_14 ls_20 (lv_sub hl_20 [2, 3, 4, 1, 0] rfl)
        replace hf := hv21
        refine lv_icmp_ne (tgt := 50) hx hb dX12_costOf_22 (by decide) (fun c27 => ?_) (fun c27 => ?_)
        · replace hf := (if_neg c27).symm.trans hf
          refine lv_iconst (v := (0 : Int32)) hx hb dX12_costOf_50 (by decide) ?_
          cases hf
          exact J12 H_9 lo_9 I_9 ls_10 (lv_sub hl_10 [0, 1, 2, 4] rfl)
        · replace hf := (if_pos c27).symm.trans hf
          refine lv_aload_n hx hb dX12_costOf_25 rfl (lv_at hl_10 0 rfl) ?_
          refine lv_iload hx hb dX12_costOf_26 (lv_at hl_10 4 rfl) ?_
          refine lv_iload_n hx hb dX12_costOf_28 rfl (lv_at hl_10 1 rfl) ?_
          obtain ⟨r22, h23, hf⟩ := bd_some hf
          refine s_callVi (As := [.int x4, .int a0]) (rest := [.int x3]) F I_9 (cM_beats G E Dd x4 a0 r22 h23) kX12_249 ⟨rfl, rfl⟩ ⟨Nat.le_trans (Nat.le_of_ble_eq_true rfl) hRf, Nat.le_trans (Nat.le_of_ble_eq_true rfl) hRl⟩ (0) 12 rfl rfl rfl rfl rfl hl_10.1 (Nat.le_of_ble_eq_true rfl) ⟨Nat.zero_le _, Nat.zero_le _⟩ dX12_costOf_29 ?_
          intro H_24 lo_24 I_24
          refine lv_if_eq (tgt := 50) hx hb dX12_costOf_32 (by decide) (fun c26 => ?_) (fun c26 => ?_)
          · replace hf := (if_pos c26).symm.trans hf
            refine lv_iconst (v := (0 : Int32)) hx hb dX12_costOf_50 (by decide) ?_
            cases hf
            exact J12 H_24 lo_24 I_24 ls_10 (lv_sub hl_10 [0, 1, 2, 4] rfl)
          · replace hf := (if_neg c26).symm.trans hf
            refine lv_aload_n hx hb dX12_costOf_35 rfl (lv_at hl_10 0 rfl) ?_
            refine mgtX12_56_0 F I_24 dX12_costOf_36 ?_
            refine lv_bipush (v := (8 : Int32)) hx hb dX12_costOf_39 (by decide) ?_
            refine lv_iload hx hb dX12_costOf_41 (lv_at hl_10 4 rfl) ?_
            refine lv_imul hx hb dX12_costOf_43 ?_
            refine lv_iload_n hx hb dX12_costOf_44 rfl (lv_at hl_10 1 rfl) ?_
            refine lv_iadd hx hb dX12_costOf_45 ?_
            obtain ⟨g25, hf⟩ := ri_some hf
            refine mal15 F I_24 g25 dX12_costOf_46 ?_
            refine lv_goto (tgt := 51) hx hb dX12_costOf_47 (by decide) ?_
            cases hf
            exact J12 H_24 lo_24 I_24 ls_10 (lv_sub hl_10 [0, 1, 2, 4] rfl)
  exact L1 FU _ _ hq1 H lo I ls_2 (lv_sub hl_2 [2, 3, 4, 1, 0] rfl)
def M_costBy (G : Nat → Nat → Int32) (a0 : Int32) (a1 : Int32) : Option (Int32) :=
bd (M_costOf G a0 (a1 &&& (((1 : Int32) <<< (a0 &&& 31)) ^^^ (-1 : Int32)))) fun r1 =>
ri 256 (a1 &&& (((1 : Int32) <<< (a0 &&& 31)) ^^^ (-1 : Int32))) <|
some (r1 + (G 30 (a1 &&& (((1 : Int32) <<< (a0 &&& 31)) ^^^ (-1 : Int32))).toNatClampNeg))
set_option maxRecDepth 100000 in
set_option maxHeartbeats 4000000 in
theorem cM_costBy (G : Nat → Nat → Int32) (E : Nat → Nat → Int64) (Dd : Nat → Nat → UInt64) (a0 : Int32) (a1 : Int32) (rv : Int32)  (hf : M_costBy G a0 a1 = some rv) : sMi D (mT cI cJ cD) (mW ad cI cJ cD) l yX12_costBy (ws1 yX12_costBy cX12_costBy 3 (some .int)) ({ frames := 2, cells := 0, slots := 0, locals := 46 }) [.ref (ad 0), .int a0, .int a1] (G, E, Dd) (rv, (G, E, Dd)) := by
  unfold M_costBy at hf
  refine sMi_of (by decide) (Nat.le_of_ble_eq_true rfl) ?_
  intro p e R s m args below meth c A Q ls H lo F hRf hRl I hl ret
  obtain ⟨hx, hb, hml, hown, hG⟩ := id F
  replace hl : lv_has ls 3 [(0, .ref (ad 0)), (1, .int a0), (2, .int a1)] := hl
  refine lv_aload_n hx hb dX12_costBy_0 rfl (lv_at hl 0 rfl) ?_
  refine lv_iload_n hx hb dX12_costBy_1 rfl (lv_at hl 1 rfl) ?_
  refine lv_iload_n hx hb dX12_costBy_2 rfl (lv_at hl 2 rfl) ?_
  refine lv_iconst (v := (1 : Int32)) hx hb dX12_costBy_3 (by decide) ?_
  refine lv_iload_n hx hb dX12_costBy_4 rfl (lv_at hl 1 rfl) ?_
  refine lv_ishl hx hb dX12_costBy_5 ?_
  refine lv_iconst (v := (-1 : Int32)) hx hb dX12_costBy_6 (by decide) ?_
  refine lv_ixor hx hb dX12_costBy_7 ?_
  refine lv_iand hx hb dX12_costBy_8 ?_
  obtain ⟨r1, h2, hf⟩ := bd_some hf
  refine s_callVi (As := [.int a0, .int (a1 &&& (((1 : Int32) <<< (a0 &&& 31)) ^^^ (-1 : Int32)))]) (rest := []) F I (cM_costOf G E Dd a0 (a1 &&& (((1 : Int32) <<< (a0 &&& 31)) ^^^ (-1 : Int32))) r1 h2) kX12_262 ⟨rfl, rfl⟩ ⟨Nat.le_trans (Nat.le_of_ble_eq_true rfl) hRf, Nat.le_trans (Nat.le_of_ble_eq_true rfl) hRl⟩ (0) 12 rfl rfl rfl rfl rfl hl.1 (Nat.le_of_ble_eq_true rfl) ⟨Nat.zero_le _, Nat.zero_le _⟩ dX12_costBy_9 ?_
  intro H_3 lo_3 I_3
  refine lv_aload_n hx hb dX12_costBy_12 rfl (lv_at hl 0 rfl) ?_
  refine mgtX12_59_0 F I_3 dX12_costBy_13 ?_
  refine lv_iload_n hx hb dX12_costBy_16 rfl (lv_at hl 2 rfl) ?_
  refine lv_iconst (v := (1 : Int32)) hx hb dX12_costBy_17 (by decide) ?_
  refine lv_iload_n hx hb dX12_costBy_18 rfl (lv_at hl 1 rfl) ?_
  refine lv_ishl hx hb dX12_costBy_19 ?_
  refine lv_iconst (v := (-1 : Int32)) hx hb dX12_costBy_20 (by decide) ?_
  refine lv_ixor hx hb dX12_costBy_21 ?_
  refine lv_iand hx hb dX12_costBy_22 ?_
  obtain ⟨g4, hf⟩ := ri_some hf
  refine mal16 F I_3 g4 dX12_costBy_23 ?_
  refine lv_iadd hx hb dX12_costBy_24 ?_
  cases hf
  exact ret H_3 lo_3 _ ls I_3 dX12_costBy_25
def M_layOrders_s2 (x8 : Int32) (x21 : Int32) (G22 : Nat → Nat → Int32) : Option ((Int32 × (Nat → Nat → Int32)) ⊕ ((Nat → Nat → Int32))) :=
if G22 1 0 ≤ x21 then
(some (.inr G22))
else
(bd (if (x8 >>> (x21 &&& 31)) &&& (1 : Int32) = (1 : Int32) then
(bd (M_costBy G22 x21 x8) fun r40 =>
ri 256 (x8 &&& (((1 : Int32) <<< (x21 &&& 31)) ^^^ (-1 : Int32))) <|
nm (G22 31 (x8 &&& (((1 : Int32) <<< (x21 &&& 31)) ^^^ (-1 : Int32))).toNatClampNeg : Int32) fun x45 =>
ri 256 x8 <|
bd (if G22 30 x8.toNatClampNeg ≤ r40 then
(ri 256 x8 <|
if r40 = G22 30 x8.toNatClampNeg then
(ri 256 x8 <|
some ((G22 31 x8.toNatClampNeg) + x45))
else
(ri 256 x8 <|
some (G22 31 x8.toNatClampNeg)))
else
(some x45)) fun x49 =>
ri 256 x8 <|
nm (wr G22 31 x8 x49) fun G54 =>
ri 256 x8 <|
bd (if G54 30 x8.toNatClampNeg ≤ r40 then
(ri 256 x8 <|
some (G54 30 x8.toNatClampNeg))
else
(some r40)) fun x58 =>
ri 256 x8 <|
nm (wr G54 30 x8 x58) fun G63 =>
some G63)
else
(some G22)) fun G33 =>
nm (x21 + (1 : Int32) : Int32) fun x37 =>
some (.inl (x37, G33)))
def M_layOrders_s1  (x8 : Int32) (G9 : Nat → Nat → Int32) : Option ((Int32 × (Nat → Nat → Int32)) ⊕ ((Nat → Nat → Int32))) :=
if (1 : Int32) <<< ((G9 1 0) &&& 31) ≤ x8 then
(some (.inr G9))
else
(ri 256 x8 <|
nm (wr G9 30 x8 (268435456 : Int32)) fun G18 =>
bd (lp (fun q => M_layOrders_s2 x8 q.1 q.2) FU ((0 : Int32), G18)) fun G23 =>
nm (x8 + (1 : Int32) : Int32) fun x27 =>
some (.inl (x27, G23)))
def M_layOrders (G : Nat → Nat → Int32) : Option ((Nat → Nat → Int32)) :=
ri 256 (0 : Int32) <|
nm (wr G 30 (0 : Int32) (0 : Int32)) fun G2 =>
ri 256 (0 : Int32) <|
nm (wr G2 31 (0 : Int32) (1 : Int32)) fun G5 =>
bd (lp (fun q => M_layOrders_s1 q.1 q.2) FU ((1 : Int32), G5)) fun G10 =>
some G10
set_option maxRecDepth 100000 in
set_option maxHeartbeats 4000000 in
theorem cM_layOrders (G : Nat → Nat → Int32) (E : Nat → Nat → Int64) (Dd : Nat → Nat → UInt64)   (newG : Nat → Nat → Int32) (hf : M_layOrders G = some newG) : sMv D (mT cI cJ cD) (mW ad cI cJ cD) l yX12_layOrders (ws1 yX12_layOrders cX12_layOrders 5 none) ({ frames := 3, cells := 0, slots := 0, locals := 68 }) [.ref (ad 0)] (G, E, Dd) (newG, E, Dd) := by
  unfold M_layOrders at hf
  refine sMv_of (by decide) (Nat.le_of_ble_eq_true rfl) ?_
  intro p e R s m args below meth c A Q ls H lo F hRf hRl I hl ret
  obtain ⟨hx, hb, hml, hown, hG⟩ := id F
  replace hl : lv_has ls 5 [(0, .ref (ad 0))] := hl
  refine lv_aload_n hx hb dX12_layOrders_0 rfl (lv_at hl 0 rfl) ?_
  refine mgtX12_59_0 F I dX12_layOrders_1 ?_
  refine lv_iconst (v := (0 : Int32)) hx hb dX12_layOrders_4 (by decide) ?_
  refine lv_iconst (v := (0 : Int32)) hx hb dX12_layOrders_5 (by decide) ?_
  obtain ⟨g1, hf⟩ := ri_some hf
  refine mas16 F I g1 dX12_layOrders_6 ?_
  intro H_3 lo_3 G2 eG2 I_3
  replace hf := nm_some eG2 hf
  refine lv_aload_n hx hb dX12_layOrders_7 rfl (lv_at hl 0 rfl) ?_
  refine mgtX12_62_0 F I_3 dX12_layOrders_8 ?_
  refine lv_iconst (v := (0 : Int32)) hx hb dX12_layOrders_11 (by decide) ?_
  refine lv_iconst (v := (1 : Int32)) hx hb dX12_layOrders_12 (by decide) ?_
  obtain ⟨g4, hf⟩ := ri_some hf
  refine mas17 F I_3 g4 dX12_layOrders_13 ?_
  intro H_6 lo_6 G5 eG5 I_6
  replace hf := nm_some eG5 hf
  refine lv_iconst (v := (1 : Int32)) hx hb dX12_layOrders_14 (by decide) ?_
  refine lv_istore_n (lv' := [(1, .int (1 : Int32)), (0, .ref (ad 0))]) hx hb dX12_layOrders_15 rfl hl (by decide) rfl (fun ls_7 hl_7 => ?_)
  obtain ⟨G10, hq1, hf⟩ := bd_some hf
  have K1 : ∀ (H : Heap) (locs : List Loc), sInv D (mT cI cJ cD) (mW ad cI cJ cD) A s H locs (G10, E, Dd) → ∀ (ls : Array Slot), lv_has ls 5 [] → W p l e R s m args below meth c H locs 0 0 Q (F0 m 162 ls []) := by
    intro H_11 lo_11 I_11 ls_12 hl_12
    cases hf
    exact ret H_11 lo_11 _ ls_12 I_11 dX12_layOrders_162
  have L1 : ∀ (n : Nat) (x8 : Int32) (G9 : Nat → Nat → Int32), lp (fun q => M_layOrders_s1 q.1 q.2) n (x8, G9) = some G10 → ∀ (H : Heap) (locs : List Loc), sInv D (mT cI cJ cD) (mW ad cI cJ cD) A s H locs (G9, E, Dd) → ∀ (ls : Array Slot), lv_has ls 5 [(0, .ref (ad 0)), (1, .int x8)] → W p l e R s m args below meth c H locs 0 0 Q (F0 m 16 ls []) := by
    intro n
    induction n with
    | zero => intro x8 G9 hq; exact (lp_0 hq).elim
    | succ n ih1 =>
      intro x8 G9 hq H_14 lo_14 I_14 ls_15 hl_15
      obtain ⟨y1, hf, hK1⟩ := lp_go hq
      replace hf : M_layOrders_s1 x8 G9 = some y1 := hf
      unfold M_layOrders_s1 at hf
      refine lv_iload_n hx hb dX12_layOrders_16 rfl (lv_at hl_15 1 rfl) ?_
      refine lv_iconst (v := (1 : Int32)) hx hb dX12_layOrders_17 (by decide) ?_
      refine lv_aload_n hx hb dX12_layOrders_18 rfl (lv_at hl_15 0 rfl) ?_
      refine mgtX12_92_0 F I_14 dX12_layOrders_19 ?_
      refine lv_ishl hx hb dX12_layOrders_22 ?_
      refine lv_icmp_ge (tgt := 162) hx hb dX12_layOrders_23 (by decide) (fun c76 => ?_) (fun c76 => ?_)
      · replace hf := (if_pos c76).symm.trans hf
        cases hf
        cases (show G9 = G10 from hK1)
        exact K1 H_14 lo_14 I_14 ls_15 (lv_sub hl_15 [] rfl)
      · replace hf := (if_neg c76).symm.trans hf
        refine lv_aload_n hx hb dX12_layOrders_26 rfl (lv_at hl_15 0 rfl) ?_
        refine mgtX12_59_0 F I_14 dX12_layOrders_27 ?_
        refine lv_iload_n hx hb dX12_layOrders_30 rfl (lv_at hl_15 1 rfl) ?_
        refine lv_ldcw (v := (268435456 : Int32)) hx hb hown (hG _ q1534) dX12_layOrders_31 ?_
        obtain ⟨g17, hf⟩ := ri_some hf
        refine mas16 F I_14 g17 dX12_layOrders_34 ?_
        intro H_19 lo_19 G18 eG18 I_19
        replace hf := nm_some eG18 hf
        refine lv_iconst (v := (0 : Int32)) hx hb dX12_layOrders_35 (by decide) ?_
        refine lv_istore_n (lv' := [(2, .int (0 : Int32)), (0, .ref (ad 0)), (1, .int x8)]) hx hb dX12_layOrders_36 rfl hl_15 (by decide) rfl (fun ls_20 hl_20 => ?_)
        obtain ⟨G23, hq2, hf⟩ := bd_some hf
        have K2 : ∀ (H : Heap) (locs : List Loc), sInv D (mT cI cJ cD) (mW ad cI cJ cD) A s H locs (G23, E, Dd) → ∀ (ls : Array Slot), lv_has ls 5 [(0, .ref (ad 0)), (1, .int x8)] → W p l e R s m args below meth c H locs 0 0 Q (F0 m 156 ls []) := by
          intro H_24 lo_24 I_24 ls_25 hl_25
          obtain ⟨x27, ex27⟩ : ∃ y : Int32, y = x8 + (1 : Int32) := ⟨_, rfl⟩
          replace hf := nm_some ex27 hf
          refine lv_iinc (v := x27) (lv' := [(1, .int x27), (0, .ref (ad 0))]) hx hb dX12_layOrders_156 hl_25 (k := 1) rfl (by rw [ex27]; rfl) (by decide) rfl (fun ls_28 hl_28 => ?_)
          refine lv_goto (tgt := 16) hx hb dX12_layOrders_159 (by decide) ?_
          cases hf
          exact ih1 _ _ hK1 H_24 lo_24 I_24 ls_28 (lv_sub hl_28 [1, 0] rfl)
        have L2 : ∀ (n : Nat) (x21 : Int32) (G22 : Nat → Nat → Int32), lp (fun q => M_layOrders_s2 x8 q.1 q.2) n (x21, G22) = some G23 → ∀ (H : Heap) (locs : List Loc), sInv D (mT cI cJ cD) (mW ad cI cJ cD) A s H locs (G22, E, Dd) → ∀ (ls : Array Slot), lv_has ls 5 [(0, .ref (ad 0)), (1, .int x8), (2, .int x21)] → W p l e R s m args below meth c H locs 0 0 Q (F0 m 37 ls []) := by
          intro n
          induction n with
          | zero => intro x21 G22 hq; exact (lp_0 hq).elim
          | succ n ih2 =>
            intro x21 G22 hq H_29 lo_29 I_29 ls_30 hl_30
            obtain ⟨y2, hf, hK2⟩ := lp_go hq
            replace hf : M_layOrders_s2 x8 x21 G22 = some y2 := hf
            unfold M_layOrders_s2 at hf
            refine lv_iload_n hx hb dX12_layOrders_37 rfl (lv_at hl_30 2 rfl) ?_
            refine lv_aload_n hx hb dX12_layOrders_38 rfl (lv_at hl_30 0 rfl) ?_
            refine mgtX12_92_0 F I_29 dX12_layOrders_39 ?_
            refine lv_icmp_ge (tgt := 156) hx hb dX12_layOrders_42 (by decide) (fun c75 => ?_) (fun c75 => ?_)
            · replace hf := (if_pos c75).symm.trans hf
              cases hf
              cases (show G22 = G23 from hK2)
              exact K2 H_29 lo_29 I_29 ls_30 (lv_sub hl_30 [0, 1] rfl)
            · replace hf := (if_neg c75).symm.trans hf
              refine lv_iload_n hx hb dX12_layOrders_45 rfl (lv_at hl_30 1 rfl) ?_
              refine lv_iload_n hx hb dX12_layOrders_46 rfl (lv_at hl_30 2 rfl) ?_
              refine lv_ishr hx hb dX12_layOrders_47 ?_
              refine lv_iconst (v := (1 : Int32)) hx hb dX12_layOrders_48 (by decide) ?_
              refine lv_iand hx hb dX12_layOrders_49 ?_
              refine lv_iconst (v := (1 : Int32)) hx hb dX12_layOrders_50 (by decide) ?_
              obtain ⟨G33, hv39, hf⟩ := bd_some hf
              have J32 : ∀ (H : Heap) (locs : List Loc), sInv D (mT cI cJ cD) (mW ad cI cJ cD) A s H locs (G33, E, Dd) → ∀ (ls : Array Slot), lv_has ls 5 [(0, .ref (ad 0)), (1, .int x8), (2, .int x21)] → W p l e R s m args below meth c H locs 0 0 Q (F0 m 150 ls []) := by
                intro H_34 lo_34 I_34 ls_35 hl_35
                obtain ⟨x37, ex37⟩ : ∃ y : Int32, y = x21 + (1 : Int32) := ⟨_, rfl⟩
                replace hf := nm_some ex37 hf
                refine lv_iinc (v := x37) (lv' := [(2, .int x37), (0, .ref (ad 0)), (1, .int x8)]) hx hb dX12_layOrders_150 hl_35 (k := 2) rfl (by rw [ex37]; rfl) (by decide) rfl (fun ls_38 hl_38 => ?_)
                refine lv_goto (tgt := 37) hx hb dX12_layOrders_153 (by decide) ?_
                cases hf
                exact ih2 _ _ hK2 H_34 lo_34 I_34 ls_38 (lv_sub hl_38 [1, 2, 0] rfl)
              replace hf := hv39
              refine lv_icmp_ne (tgt := 150) hx hb dX12_layOrders_51 (by decide) (fun c74 => ?_) (fun c74 => ?_)
              · replace hf := (if_neg c74).symm.trans hf
                cases hf
                exact J32 H_29 lo_29 I_29 ls_30 (lv_sub hl_30 [0, 1, 2] rfl)
              · replace hf := (if_pos c74).symm.trans hf
                refine lv_aload_n hx hb dX12_layOrders_54 rfl (lv_at hl_30 0 rfl) ?_
                refine lv_iload_n hx hb dX12_layOrders_55 rfl (lv_at hl_30 2 rfl) ?_
                refine lv_iload_n hx hb dX12_layOrders_56 rfl (lv_at hl_30 1 rfl) ?_
                obtain ⟨r40, h41, hf⟩ := bd_some hf
                refine s_callVi (As := [.int x21, .int x8]) (rest := []) F I_29 (cM_costBy G22 E Dd x21 x8 r40 h41) kX12_266 ⟨rfl, rfl⟩ ⟨Nat.le_trans (Nat.le_of_ble_eq_true rfl) hRf, Nat.le_trans (Nat.le_of_ble_eq_true rfl) hRl⟩ (0) 12 rfl rfl rfl rfl rfl hl_30.1 (Nat.le_of_ble_eq_true rfl) ⟨Nat.zero_le _, Nat.zero_le _⟩ dX12_layOrders_57 ?_
                intro H_42 lo_42 I_42
                refine lv_istore_n (lv' := [(3, .int r40), (0, .ref (ad 0)), (1, .int x8), (2, .int x21)]) hx hb dX12_layOrders_60 rfl hl_30 (by decide) rfl (fun ls_43 hl_43 => ?_)
                refine lv_aload_n hx hb dX12_layOrders_61 rfl (lv_at hl_43 1 rfl) ?_
                refine mgtX12_62_0 F I_42 dX12_layOrders_62 ?_
                refine lv_iload_n hx hb dX12_layOrders_65 rfl (lv_at hl_43 2 rfl) ?_
                refine lv_iconst (v := (1 : Int32)) hx hb dX12_layOrders_66 (by decide) ?_
                refine lv_iload_n hx hb dX12_layOrders_67 rfl (lv_at hl_43 3 rfl) ?_
                refine lv_ishl hx hb dX12_layOrders_68 ?_
                refine lv_iconst (v := (-1 : Int32)) hx hb dX12_layOrders_69 (by decide) ?_
                refine lv_ixor hx hb dX12_layOrders_70 ?_
                refine lv_iand hx hb dX12_layOrders_71 ?_
                obtain ⟨g44, hf⟩ := ri_some hf
                refine mal17 F I_42 g44 dX12_layOrders_72 ?_
                refine lv_topi (fun x45 ex45 => ?_)
                replace hf := nm_some ex45 hf
                refine lv_istore (lv' := [(4, .int x45), (3, .int r40), (0, .ref (ad 0)), (1, .int x8), (2, .int x21)]) hx hb dX12_layOrders_73 hl_43 (by decide) rfl (fun ls_46 hl_46 => ?_)
                refine lv_aload_n hx hb dX12_layOrders_75 rfl (lv_at hl_46 2 rfl) ?_
                refine mgtX12_62_0 F I_42 dX12_layOrders_76 ?_
                refine lv_iload_n hx hb dX12_layOrders_79 rfl (lv_at hl_46 3 rfl) ?_
                refine lv_iload_n hx hb dX12_layOrders_80 rfl (lv_at hl_46 1 rfl) ?_
                refine lv_aload_n hx hb dX12_layOrders_81 rfl (lv_at hl_46 2 rfl) ?_
                refine mgtX12_59_0 F I_42 dX12_layOrders_82 ?_
                refine lv_iload_n hx hb dX12_layOrders_85 rfl (lv_at hl_46 3 rfl) ?_
                obtain ⟨g47, hf⟩ := ri_some hf
                refine mal16 F I_42 g47 dX12_layOrders_86 ?_
                obtain ⟨x49, hv68, hf⟩ := bd_some hf
                have J48 : ∀ (H : Heap) (locs : List Loc), sInv D (mT cI cJ cD) (mW ad cI cJ cD) A s H locs (G22, E, Dd) → ∀ (ls : Array Slot), lv_has ls 5 [(0, .ref (ad 0)), (1, .int x8), (2, .int x21), (3, .int r40)] → W p l e R s m args below meth c H locs 0 0 Q (F0 m 123 ls [.int x49, .int x8, .ref (ad 17)]) := by
                  intro H_50 lo_50 I_50 ls_51 hl_51
                  obtain ⟨g53, hf⟩ := ri_some hf
                  refine mas17 F I_50 g53 dX12_layOrders_123 ?_
                  intro H_55 lo_55 G54 eG54 I_55
                  replace hf := nm_some eG54 hf
                  refine lv_aload_n hx hb dX12_layOrders_124 rfl (lv_at hl_51 0 rfl) ?_
                  refine mgtX12_59_0 F I_55 dX12_layOrders_125 ?_
                  refine lv_iload_n hx hb dX12_layOrders_128 rfl (lv_at hl_51 1 rfl) ?_
                  refine lv_iload_n hx hb dX12_layOrders_129 rfl (lv_at hl_51 3 rfl) ?_
                  refine lv_aload_n hx hb dX12_layOrders_130 rfl (lv_at hl_51 0 rfl) ?_
                  refine mgtX12_59_0 F I_55 dX12_layOrders_131 ?_
                  refine lv_iload_n hx hb dX12_layOrders_134 rfl (lv_at hl_51 1 rfl) ?_
                  obtain ⟨g56, hf⟩ := ri_some hf
                  refine mal16 F I_55 g56 dX12_layOrders_135 ?_
                  obtain ⟨x58, hv65, hf⟩ := bd_some hf
                  have J57 : ∀ (H : Heap) (locs : List Loc), sInv D (mT cI cJ cD) (mW ad cI cJ cD) A s H locs (G54, E, Dd) → ∀ (ls : Array Slot), lv_has ls 5 [(0, .ref (ad 0)), (1, .int x8), (2, .int x21)] → W p l e R s m args below meth c H locs 0 0 Q (F0 m 149 ls [.int x58, .int x8, .ref (ad 16)]) := by
                    intro H_59 lo_59 I_59 ls_60 hl_60
                    obtain ⟨g62, hf⟩ := ri_some hf
                    refine mas16 F I_59 g62 dX12_layOrders_149 ?_
                    intro H_64 lo_64 G63 eG63 I_64
                    replace hf := nm_some eG63 hf
                    cases hf
                    exact J32 H_64 lo_64 I_64 ls_60 (lv_sub hl_60 [0, 1, 2] rfl)
                  replace hf := hv65
                  refine lv_icmp_ge (tgt := 143) hx hb dX12_layOrders_136 (by decide) (fun c67 => ?_) (fun c67 => ?_)
                  · replace hf := (if_pos c67).symm.trans hf
                    refine lv_aload_n hx hb dX12_layOrders_143 rfl (lv_at hl_51 0 rfl) ?_
                    refine mgtX12_59_0 F I_55 dX12_layOrders_144 ?_
                    refine lv_iload_n hx hb dX12_layOrders_147 rfl (lv_at hl_51 1 rfl) ?_
                    obtain ⟨g66, hf⟩ := ri_some hf
                    refine mal16 F I_55 g66 dX12_layOrders_148 ?_
                    cases hf
                    exact J57 H_55 lo_55 I_55 ls_51 (lv_sub hl_51 [0, 1, 2] rfl)
                  · replace hf := (if_neg c67).symm.trans hf
                    refine lv_iload_n hx hb dX12_layOrders_139 rfl (lv_at hl_51 3 rfl) ?_
                    refine lv_goto (tgt := 149) hx hb dX12_layOrders_140 (by decide) ?_
                    cases hf
                    exact J57 H_55 lo_55 I_55 ls_51 (lv_sub hl_51 [0, 1, 2] rfl)
                replace hf := hv68
                refine lv_icmp_ge (tgt := 95) hx hb dX12_layOrders_87 (by decide) (fun c73 => ?_) (fun c73 => ?_)
                · replace hf := (if_pos c73).symm.trans hf
                  refine lv_iload_n hx hb dX12_layOrders_95 rfl (lv_at hl_46 1 rfl) ?_
                  refine lv_aload_n hx hb dX12_layOrders_96 rfl (lv_at hl_46 2 rfl) ?_
                  refine mgtX12_59_0 F I_42 dX12_layOrders_97 ?_
                  refine lv_iload_n hx hb dX12_layOrders_100 rfl (lv_at hl_46 3 rfl) ?_
                  obtain ⟨g69, hf⟩ := ri_some hf
                  refine mal16 F I_42 g69 dX12_layOrders_101 ?_
                  refine lv_icmp_ne (tgt := 117) hx hb dX12_layOrders_102 (by decide) (fun c72 => ?_) (fun c72 => ?_)
                  · replace hf := (if_neg c72).symm.trans hf
                    refine lv_aload_n hx hb dX12_layOrders_117 rfl (lv_at hl_46 2 rfl) ?_
                    refine mgtX12_62_0 F I_42 dX12_layOrders_118 ?_
                    refine lv_iload_n hx hb dX12_layOrders_121 rfl (lv_at hl_46 3 rfl) ?_
                    obtain ⟨g70, hf⟩ := ri_some hf
                    refine mal17 F I_42 g70 dX12_layOrders_122 ?_
                    cases hf
                    exact J48 H_42 lo_42 I_42 ls_46 (lv_sub hl_46 [2, 3, 4, 1] rfl)
                  · replace hf := (if_pos c72).symm.trans hf
                    refine lv_aload_n hx hb dX12_layOrders_105 rfl (lv_at hl_46 2 rfl) ?_
                    refine mgtX12_62_0 F I_42 dX12_layOrders_106 ?_
                    refine lv_iload_n hx hb dX12_layOrders_109 rfl (lv_at hl_46 3 rfl) ?_
                    obtain ⟨g71, hf⟩ := ri_some hf
                    refine mal17 F I_42 g71 dX12_layOrders_110 ?_
                    refine lv_iload hx hb dX12_layOrders_111 (lv_at hl_46 0 rfl) ?_
                    refine lv_iadd hx hb dX12_layOrders_113 ?_
                    refine lv_goto (tgt := 123) hx hb dX12_layOrders_114 (by decide) ?_
                    cases hf
                    exact J48 H_42 lo_42 I_42 ls_46 (lv_sub hl_46 [2, 3, 4, 1] rfl)
                · replace hf := (if_neg c73).symm.trans hf
                  refine lv_iload hx hb dX12_layOrders_90 (lv_at hl_46 0 rfl) ?_
                  refine lv_goto (tgt := 123) hx hb dX12_layOrders_92 (by decide) ?_
                  cases hf
                  exact J48 H_42 lo_42 I_42 ls_46 (lv_sub hl_46 [2, 3, 4, 1] rfl)
        exact L2 FU _ _ hq2 H_19 lo_19 I_19 ls_20 (lv_sub hl_20 [1, 2, 0] rfl)
  exact L1 FU _ _ hq1 H_6 lo_6 I_6 ls_7 (lv_sub hl_7 [1, 0] rfl)
def M_at_s2 (x5 : Int32) (G : Nat → Nat → Int32) (x16 : Int32) : Option ((Int32) ⊕ (Int32)) :=
if (x5 >>> (x16 &&& 31)) &&& (1 : Int32) = 0 then
(nm (x16 + (1 : Int32) : Int32) fun x28 =>
some (.inl x28))
else
(bd (M_costBy G x16 x5) fun r30 =>
ri 256 x5 <|
if r30 = G 30 x5.toNatClampNeg then
(some (.inr x16))
else
(nm (x16 + (1 : Int32) : Int32) fun x34 =>
some (.inl x34)))
def M_at_s1 (a0 : Int32) (G : Nat → Nat → Int32) (x5 : Int32) (x6 : Int32) (x7 : Int32) : Option ((Int32 × Int32 × Int32) ⊕ (Int32)) :=
if a0 < x7 then
(some (.inr x6))
else
(bd (lp (fun q => M_at_s2 x5 G q) FU (0 : Int32)) fun x17 =>
nm (x5 &&& (((1 : Int32) <<< (x17 &&& 31)) ^^^ (-1 : Int32)) : Int32) fun x21 =>
nm (x7 + (1 : Int32) : Int32) fun x23 =>
some (.inl (x21, x17, x23)))
def M_at (G : Nat → Nat → Int32) (a0 : Int32) : Option (Int32) :=
nm (((1 : Int32) <<< ((G 1 0) &&& 31)) - (1 : Int32) : Int32) fun x1 =>
bd (lp (fun q => M_at_s1 a0 G q.1 q.2.1 q.2.2) FU (x1, (0 : Int32), (0 : Int32))) fun x8 =>
some x8
set_option maxRecDepth 100000 in
set_option maxHeartbeats 4000000 in
theorem cM_at (G : Nat → Nat → Int32) (E : Nat → Nat → Int64) (Dd : Nat → Nat → UInt64) (a0 : Int32) (rv : Int32)  (hf : M_at G a0 = some rv) : sMi D (mT cI cJ cD) (mW ad cI cJ cD) l yX12_at (ws1 yX12_at cX12_at 5 (some .int)) ({ frames := 3, cells := 0, slots := 0, locals := 68 }) [.ref (ad 0), .int a0] (G, E, Dd) (rv, (G, E, Dd)) := by
  unfold M_at at hf
  refine sMi_of (by decide) (Nat.le_of_ble_eq_true rfl) ?_
  intro p e R s m args below meth c A Q ls H lo F hRf hRl I hl ret
  obtain ⟨hx, hb, hml, hown, hG⟩ := id F
  replace hl : lv_has ls 5 [(0, .ref (ad 0)), (1, .int a0)] := hl
  refine lv_iconst (v := (1 : Int32)) hx hb dX12_at_0 (by decide) ?_
  refine lv_aload_n hx hb dX12_at_1 rfl (lv_at hl 0 rfl) ?_
  refine mgtX12_92_0 F I dX12_at_2 ?_
  refine lv_ishl hx hb dX12_at_5 ?_
  refine lv_iconst (v := (1 : Int32)) hx hb dX12_at_6 (by decide) ?_
  refine lv_isub hx hb dX12_at_7 ?_
  refine lv_topi (fun x1 ex1 => ?_)
  replace hf := nm_some ex1 hf
  refine lv_istore_n (lv' := [(2, .int x1), (0, .ref (ad 0)), (1, .int a0)]) hx hb dX12_at_8 rfl hl (by decide) rfl (fun ls_2 hl_2 => ?_)
  refine lv_iconst (v := (0 : Int32)) hx hb dX12_at_9 (by decide) ?_
  refine lv_istore_n (lv' := [(3, .int (0 : Int32)), (2, .int x1), (0, .ref (ad 0)), (1, .int a0)]) hx hb dX12_at_10 rfl hl_2 (by decide) rfl (fun ls_3 hl_3 => ?_)
  refine lv_iconst (v := (0 : Int32)) hx hb dX12_at_11 (by decide) ?_
  refine lv_istore (lv' := [(4, .int (0 : Int32)), (3, .int (0 : Int32)), (2, .int x1), (0, .ref (ad 0)), (1, .int a0)]) hx hb dX12_at_12 hl_3 (by decide) rfl (fun ls_4 hl_4 => ?_)
  obtain ⟨x8, hq1, hf⟩ := bd_some hf
  have K1 : ∀ (H : Heap) (locs : List Loc), sInv D (mT cI cJ cD) (mW ad cI cJ cD) A s H locs (G, E, Dd) → ∀ (ls : Array Slot), lv_has ls 5 [(3, .int x8)] → W p l e R s m args below meth c H locs 0 0 Q (F0 m 65 ls []) := by
    intro H_9 lo_9 I_9 ls_10 hl_10
    refine lv_iload_n hx hb dX12_at_65 rfl (lv_at hl_10 0 rfl) ?_
    cases hf
    exact ret H_9 lo_9 _ ls_10 I_9 dX12_at_66
  have L1 : ∀ (n : Nat) (x5 : Int32) (x6 : Int32) (x7 : Int32), lp (fun q => M_at_s1 a0 G q.1 q.2.1 q.2.2) n (x5, x6, x7) = some x8 → ∀ (H : Heap) (locs : List Loc), sInv D (mT cI cJ cD) (mW ad cI cJ cD) A s H locs (G, E, Dd) → ∀ (ls : Array Slot), lv_has ls 5 [(0, .ref (ad 0)), (1, .int a0), (2, .int x5), (3, .int x6), (4, .int x7)] → W p l e R s m args below meth c H locs 0 0 Q (F0 m 14 ls []) := by
    intro n
    induction n with
    | zero => intro x5 x6 x7 hq; exact (lp_0 hq).elim
    | succ n ih1 =>
      intro x5 x6 x7 hq H_12 lo_12 I_12 ls_13 hl_13
      obtain ⟨y1, hf, hK1⟩ := lp_go hq
      replace hf : M_at_s1 a0 G x5 x6 x7 = some y1 := hf
      unfold M_at_s1 at hf
      refine lv_iload hx hb dX12_at_14 (lv_at hl_13 4 rfl) ?_
      refine lv_iload_n hx hb dX12_at_16 rfl (lv_at hl_13 1 rfl) ?_
      refine lv_icmp_gt (tgt := 65) hx hb dX12_at_17 (by decide) (fun c38 => ?_) (fun c38 => ?_)
      · replace hf := (if_pos c38).symm.trans hf
        cases hf
        cases (show x6 = x8 from hK1)
        exact K1 H_12 lo_12 I_12 ls_13 (lv_sub hl_13 [3] rfl)
      · replace hf := (if_neg c38).symm.trans hf
        refine lv_iconst (v := (0 : Int32)) hx hb dX12_at_20 (by decide) ?_
        refine lv_istore_n (lv' := [(3, .int (0 : Int32)), (0, .ref (ad 0)), (1, .int a0), (2, .int x5), (4, .int x7)]) hx hb dX12_at_21 rfl hl_13 (by decide) rfl (fun ls_15 hl_15 => ?_)
        obtain ⟨x17, hq2, hf⟩ := bd_some hf
        have K2 : ∀ (H : Heap) (locs : List Loc), sInv D (mT cI cJ cD) (mW ad cI cJ cD) A s H locs (G, E, Dd) → ∀ (ls : Array Slot), lv_has ls 5 [(0, .ref (ad 0)), (1, .int a0), (2, .int x5), (3, .int x17), (4, .int x7)] → W p l e R s m args below meth c H locs 0 0 Q (F0 m 51 ls []) := by
          intro H_18 lo_18 I_18 ls_19 hl_19
          refine lv_iload_n hx hb dX12_at_51 rfl (lv_at hl_19 2 rfl) ?_
          refine lv_iconst (v := (1 : Int32)) hx hb dX12_at_52 (by decide) ?_
          refine lv_iload_n hx hb dX12_at_53 rfl (lv_at hl_19 3 rfl) ?_
          refine lv_ishl hx hb dX12_at_54 ?_
          refine lv_iconst (v := (-1 : Int32)) hx hb dX12_at_55 (by decide) ?_
          refine lv_ixor hx hb dX12_at_56 ?_
          refine lv_iand hx hb dX12_at_57 ?_
          refine lv_topi (fun x21 ex21 => ?_)
          replace hf := nm_some ex21 hf
          refine lv_istore_n (lv' := [(2, .int x21), (0, .ref (ad 0)), (1, .int a0), (3, .int x17), (4, .int x7)]) hx hb dX12_at_58 rfl hl_19 (by decide) rfl (fun ls_22 hl_22 => ?_)
          obtain ⟨x23, ex23⟩ : ∃ y : Int32, y = x7 + (1 : Int32) := ⟨_, rfl⟩
          replace hf := nm_some ex23 hf
          refine lv_iinc (v := x23) (lv' := [(4, .int x23), (2, .int x21), (0, .ref (ad 0)), (1, .int a0), (3, .int x17)]) hx hb dX12_at_59 hl_22 (k := 4) rfl (by rw [ex23]; rfl) (by decide) rfl (fun ls_24 hl_24 => ?_)
          refine lv_goto (tgt := 14) hx hb dX12_at_62 (by decide) ?_
          cases hf
          exact ih1 _ _ _ hK1 H_18 lo_18 I_18 ls_24 (lv_sub hl_24 [2, 3, 1, 4, 0] rfl)
        have L2 : ∀ (n : Nat) (x16 : Int32), lp (fun q => M_at_s2 x5 G q) n x16 = some x17 → ∀ (H : Heap) (locs : List Loc), sInv D (mT cI cJ cD) (mW ad cI cJ cD) A s H locs (G, E, Dd) → ∀ (ls : Array Slot), lv_has ls 5 [(0, .ref (ad 0)), (1, .int a0), (2, .int x5), (3, .int x16), (4, .int x7)] → W p l e R s m args below meth c H locs 0 0 Q (F0 m 22 ls []) := by
          intro n
          induction n with
          | zero => intro x16 hq; exact (lp_0 hq).elim
          | succ n ih2 =>
            intro x16 hq H_25 lo_25 I_25 ls_26 hl_26
            obtain ⟨y2, hf, hK2⟩ := lp_go hq
            replace hf : M_at_s2 x5 G x16 = some y2 := hf
            unfold M_at_s2 at hf
            refine lv_iload_n hx hb dX12_at_22 rfl (lv_at hl_26 2 rfl) ?_
            refine lv_iload_n hx hb dX12_at_23 rfl (lv_at hl_26 3 rfl) ?_
            refine lv_ishr hx hb dX12_at_24 ?_
            refine lv_iconst (v := (1 : Int32)) hx hb dX12_at_25 (by decide) ?_
            refine lv_iand hx hb dX12_at_26 ?_
            refine lv_if_eq (tgt := 45) hx hb dX12_at_27 (by decide) (fun c37 => ?_) (fun c37 => ?_)
            · replace hf := (if_pos c37).symm.trans hf
              obtain ⟨x28, ex28⟩ : ∃ y : Int32, y = x16 + (1 : Int32) := ⟨_, rfl⟩
              replace hf := nm_some ex28 hf
              refine lv_iinc (v := x28) (lv' := [(3, .int x28), (0, .ref (ad 0)), (1, .int a0), (2, .int x5), (4, .int x7)]) hx hb dX12_at_45 hl_26 (k := 3) rfl (by rw [ex28]; rfl) (by decide) rfl (fun ls_29 hl_29 => ?_)
              refine lv_goto (tgt := 22) hx hb dX12_at_48 (by decide) ?_
              cases hf
              exact ih2 _ hK2 H_25 lo_25 I_25 ls_29 (lv_sub hl_29 [1, 2, 3, 0, 4] rfl)
            · replace hf := (if_neg c37).symm.trans hf
              refine lv_aload_n hx hb dX12_at_30 rfl (lv_at hl_26 0 rfl) ?_
              refine lv_iload_n hx hb dX12_at_31 rfl (lv_at hl_26 3 rfl) ?_
              refine lv_iload_n hx hb dX12_at_32 rfl (lv_at hl_26 2 rfl) ?_
              obtain ⟨r30, h31, hf⟩ := bd_some hf
              refine s_callVi (As := [.int x16, .int x5]) (rest := []) F I_25 (cM_costBy G E Dd x16 x5 r30 h31) kX12_266 ⟨rfl, rfl⟩ ⟨Nat.le_trans (Nat.le_of_ble_eq_true rfl) hRf, Nat.le_trans (Nat.le_of_ble_eq_true rfl) hRl⟩ (0) 12 rfl rfl rfl rfl rfl hl_26.1 (Nat.le_of_ble_eq_true rfl) ⟨Nat.zero_le _, Nat.zero_le _⟩ dX12_at_33 ?_
              intro H_32 lo_32 I_32
              refine lv_aload_n hx hb dX12_at_36 rfl (lv_at hl_26 0 rfl) ?_
              refine mgtX12_59_0 F I_32 dX12_at_37 ?_
              refine lv_iload_n hx hb dX12_at_40 rfl (lv_at hl_26 2 rfl) ?_
              obtain ⟨g33, hf⟩ := ri_some hf
              refine mal16 F I_32 g33 dX12_at_41 ?_
              refine lv_icmp_eq (tgt := 51) hx hb dX12_at_42 (by decide) (fun c36 => ?_) (fun c36 => ?_)
              · replace hf := (if_pos c36).symm.trans hf
                cases hf
                cases (show x16 = x17 from hK2)
                exact K2 H_32 lo_32 I_32 ls_26 (lv_sub hl_26 [0, 1, 2, 3, 4] rfl)
              · replace hf := (if_neg c36).symm.trans hf
                obtain ⟨x34, ex34⟩ : ∃ y : Int32, y = x16 + (1 : Int32) := ⟨_, rfl⟩
                replace hf := nm_some ex34 hf
                refine lv_iinc (v := x34) (lv' := [(3, .int x34), (0, .ref (ad 0)), (1, .int a0), (2, .int x5), (4, .int x7)]) hx hb dX12_at_45 hl_26 (k := 3) rfl (by rw [ex34]; rfl) (by decide) rfl (fun ls_35 hl_35 => ?_)
                refine lv_goto (tgt := 22) hx hb dX12_at_48 (by decide) ?_
                cases hf
                exact ih2 _ hK2 H_32 lo_32 I_32 ls_35 (lv_sub hl_35 [1, 2, 3, 0, 4] rfl)
        exact L2 FU _ hq2 H_12 lo_12 I_12 ls_15 (lv_sub hl_15 [1, 2, 3, 0, 4] rfl)
  exact L1 FU _ _ _ hq1 H lo I ls_4 (lv_sub hl_4 [3, 4, 2, 1, 0] rfl)
def M_placeOf_s1 (a0 : Int32) (G : Nat → Nat → Int32) (x2 : Int32) : Option ((Int32) ⊕ (Int32)) :=
bd (M_at G x2) fun r10 =>
if r10 = a0 then
(some (.inr x2))
else
(nm (x2 + (1 : Int32) : Int32) fun x13 =>
some (.inl x13))
def M_placeOf (G : Nat → Nat → Int32) (a0 : Int32) : Option (Int32) :=
bd (lp (fun q => M_placeOf_s1 a0 G q) FU (0 : Int32)) fun x3 =>
some x3
set_option maxRecDepth 100000 in
set_option maxHeartbeats 4000000 in
theorem cM_placeOf (G : Nat → Nat → Int32) (E : Nat → Nat → Int64) (Dd : Nat → Nat → UInt64) (a0 : Int32) (rv : Int32)  (hf : M_placeOf G a0 = some rv) : sMi D (mT cI cJ cD) (mW ad cI cJ cD) l yX12_placeOf (ws1 yX12_placeOf cX12_placeOf 3 (some .int)) ({ frames := 4, cells := 0, slots := 0, locals := 92 }) [.ref (ad 0), .int a0] (G, E, Dd) (rv, (G, E, Dd)) := by
  unfold M_placeOf at hf
  refine sMi_of (by decide) (Nat.le_of_ble_eq_true rfl) ?_
  intro p e R s m args below meth c A Q ls H lo F hRf hRl I hl ret
  obtain ⟨hx, hb, hml, hown, hG⟩ := id F
  replace hl : lv_has ls 3 [(0, .ref (ad 0)), (1, .int a0)] := hl
  refine lv_iconst (v := (0 : Int32)) hx hb dX12_placeOf_0 (by decide) ?_
  refine lv_istore_n (lv' := [(2, .int (0 : Int32)), (0, .ref (ad 0)), (1, .int a0)]) hx hb dX12_placeOf_1 rfl hl (by decide) rfl (fun ls_1 hl_1 => ?_)
  obtain ⟨x3, hq1, hf⟩ := bd_some hf
  have K1 : ∀ (H : Heap) (locs : List Loc), sInv D (mT cI cJ cD) (mW ad cI cJ cD) A s H locs (G, E, Dd) → ∀ (ls : Array Slot), lv_has ls 3 [(2, .int x3)] → W p l e R s m args below meth c H locs 0 0 Q (F0 m 17 ls []) := by
    intro H_4 lo_4 I_4 ls_5 hl_5
    refine lv_iload_n hx hb dX12_placeOf_17 rfl (lv_at hl_5 0 rfl) ?_
    cases hf
    exact ret H_4 lo_4 _ ls_5 I_4 dX12_placeOf_18
  have L1 : ∀ (n : Nat) (x2 : Int32), lp (fun q => M_placeOf_s1 a0 G q) n x2 = some x3 → ∀ (H : Heap) (locs : List Loc), sInv D (mT cI cJ cD) (mW ad cI cJ cD) A s H locs (G, E, Dd) → ∀ (ls : Array Slot), lv_has ls 3 [(0, .ref (ad 0)), (1, .int a0), (2, .int x2)] → W p l e R s m args below meth c H locs 0 0 Q (F0 m 2 ls []) := by
    intro n
    induction n with
    | zero => intro x2 hq; exact (lp_0 hq).elim
    | succ n ih1 =>
      intro x2 hq H_7 lo_7 I_7 ls_8 hl_8
      obtain ⟨y1, hf, hK1⟩ := lp_go hq
      replace hf : M_placeOf_s1 a0 G x2 = some y1 := hf
      unfold M_placeOf_s1 at hf
      refine lv_aload_n hx hb dX12_placeOf_2 rfl (lv_at hl_8 0 rfl) ?_
      refine lv_iload_n hx hb dX12_placeOf_3 rfl (lv_at hl_8 2 rfl) ?_
      obtain ⟨r10, h11, hf⟩ := bd_some hf
      refine s_callVi (As := [.int x2]) (rest := []) F I_7 (cM_at G E Dd x2 r10 h11) kX12_269 ⟨rfl, rfl⟩ ⟨Nat.le_trans (Nat.le_of_ble_eq_true rfl) hRf, Nat.le_trans (Nat.le_of_ble_eq_true rfl) hRl⟩ (0) 12 rfl rfl rfl rfl rfl hl_8.1 (Nat.le_of_ble_eq_true rfl) ⟨Nat.zero_le _, Nat.zero_le _⟩ dX12_placeOf_4 ?_
      intro H_12 lo_12 I_12
      refine lv_iload_n hx hb dX12_placeOf_7 rfl (lv_at hl_8 1 rfl) ?_
      refine lv_icmp_eq (tgt := 17) hx hb dX12_placeOf_8 (by decide) (fun c15 => ?_) (fun c15 => ?_)
      · replace hf := (if_pos c15).symm.trans hf
        cases hf
        cases (show x2 = x3 from hK1)
        exact K1 H_12 lo_12 I_12 ls_8 (lv_sub hl_8 [2] rfl)
      · replace hf := (if_neg c15).symm.trans hf
        obtain ⟨x13, ex13⟩ : ∃ y : Int32, y = x2 + (1 : Int32) := ⟨_, rfl⟩
        replace hf := nm_some ex13 hf
        refine lv_iinc (v := x13) (lv' := [(2, .int x13), (0, .ref (ad 0)), (1, .int a0)]) hx hb dX12_placeOf_11 hl_8 (k := 2) rfl (by rw [ex13]; rfl) (by decide) rfl (fun ls_14 hl_14 => ?_)
        refine lv_goto (tgt := 2) hx hb dX12_placeOf_14 (by decide) ?_
        cases hf
        exact ih1 _ hK1 H_12 lo_12 I_12 ls_14 (lv_sub hl_14 [1, 2, 0] rfl)
  exact L1 FU _ hq1 H lo I ls_1 (lv_sub hl_1 [1, 2, 0] rfl)
def M_sampleNow (G : Nat → Nat → Int32) (a0 : Int32) (a1 : Int32) : Option (Int32 × (Nat → Nat → Int32)) :=
bd (M_layMargins G) fun G1 =>
bd (M_layOrders G1) fun G4 =>
if a1 = (0 : Int32) then
(bd (M_pointsWithout G4 a0 (-1 : Int32)) fun r8 =>
some (r8, G4))
else if a1 = (1 : Int32) then
(bd (M_rankWithout G4 a0 (-1 : Int32)) fun r12 =>
some (r12, G4))
else if a1 = (2 : Int32) then
(bd (M_isStable G4 a0) fun r16 =>
if r16 = 0 then
(some ((0 : Int32), G4))
else
(some ((1 : Int32), G4)))
else if a1 = (3 : Int32) then
(bd (M_dominance G4 a0) fun r21 =>
some (r21, G4))
else if a1 = (4 : Int32) then
(bd (M_layerOf G4 a0) fun r25 =>
some (r25, G4))
else (bd (M_placeOf G4 a0) fun r28 =>
some (r28, G4))
set_option maxRecDepth 100000 in
set_option maxHeartbeats 4000000 in
theorem cM_sampleNow (G : Nat → Nat → Int32) (E : Nat → Nat → Int64) (Dd : Nat → Nat → UInt64) (a0 : Int32) (a1 : Int32) (rv : Int32) (newG : Nat → Nat → Int32) (hf : M_sampleNow G a0 a1 = some (rv, newG)) : sMi D (mT cI cJ cD) (mW ad cI cJ cD) l yX12_sampleNow (ws1 yX12_sampleNow cX12_sampleNow 3 (some .int)) ({ frames := 5, cells := 0, slots := 0, locals := 114 }) [.ref (ad 0), .int a0, .int a1] (G, E, Dd) (rv, (newG, E, Dd)) := by
  unfold M_sampleNow at hf
  refine sMi_of (by decide) (Nat.le_of_ble_eq_true rfl) ?_
  intro p e R s m args below meth c A Q ls H lo F hRf hRl I hl ret
  obtain ⟨hx, hb, hml, hown, hG⟩ := id F
  replace hl : lv_has ls 3 [(0, .ref (ad 0)), (1, .int a0), (2, .int a1)] := hl
  refine lv_aload_n hx hb dX12_sampleNow_0 rfl (lv_at hl 0 rfl) ?_
  obtain ⟨G1, h2, hf⟩ := bd_some hf
  refine s_callVv (As := []) (rest := []) F I (cM_layMargins G E Dd G1 h2) kX12_272 ⟨rfl, rfl⟩ ⟨Nat.le_trans (Nat.le_of_ble_eq_true rfl) hRf, Nat.le_trans (Nat.le_of_ble_eq_true rfl) hRl⟩ (0) 12 rfl rfl rfl rfl rfl hl.1 (Nat.le_of_ble_eq_true rfl) ⟨Nat.zero_le _, Nat.zero_le _⟩ dX12_sampleNow_1 ?_
  intro H_3 lo_3 I_3
  refine lv_aload_n hx hb dX12_sampleNow_4 rfl (lv_at hl 0 rfl) ?_
  obtain ⟨G4, h5, hf⟩ := bd_some hf
  refine s_callVv (As := []) (rest := []) F I_3 (cM_layOrders G1 E Dd G4 h5) kX12_275 ⟨rfl, rfl⟩ ⟨Nat.le_trans (Nat.le_of_ble_eq_true rfl) hRf, Nat.le_trans (Nat.le_of_ble_eq_true rfl) hRl⟩ (0) 12 rfl rfl rfl rfl rfl hl.1 (Nat.le_of_ble_eq_true rfl) ⟨Nat.zero_le _, Nat.zero_le _⟩ dX12_sampleNow_5 ?_
  intro H_6 lo_6 I_6
  refine lv_iload_n hx hb dX12_sampleNow_8 rfl (lv_at hl 2 rfl) ?_
  by_cases c7 : a1 = (0 : Int32)
  · replace hf := (if_pos c7).symm.trans hf
    refine lv_tableIn (off := 35) (tgt := 44) hx hb dX12_sampleNow_9 (by rw [c7]; decide) (by rw [c7]; decide) (by rw [c7]; rfl) (by decide) ?_
    refine lv_aload_n hx hb dX12_sampleNow_44 rfl (lv_at hl 0 rfl) ?_
    refine lv_iload_n hx hb dX12_sampleNow_45 rfl (lv_at hl 1 rfl) ?_
    refine lv_iconst (v := (-1 : Int32)) hx hb dX12_sampleNow_46 (by decide) ?_
    obtain ⟨r8, h9, hf⟩ := bd_some hf
    refine s_callVi (As := [.int a0, .int (-1 : Int32)]) (rest := []) F I_6 (cM_pointsWithout G4 E Dd a0 (-1 : Int32) r8 h9) kX12_243 ⟨rfl, rfl⟩ ⟨Nat.le_trans (Nat.le_of_ble_eq_true rfl) hRf, Nat.le_trans (Nat.le_of_ble_eq_true rfl) hRl⟩ (0) 12 rfl rfl rfl rfl rfl hl.1 (Nat.le_of_ble_eq_true rfl) ⟨Nat.zero_le _, Nat.zero_le _⟩ dX12_sampleNow_47 ?_
    intro H_10 lo_10 I_10
    cases hf
    exact ret H_10 lo_10 _ ls I_10 dX12_sampleNow_50
  replace hf := (if_neg c7).symm.trans hf
  by_cases c11 : a1 = (1 : Int32)
  · replace hf := (if_pos c11).symm.trans hf
    refine lv_tableIn (off := 42) (tgt := 51) hx hb dX12_sampleNow_9 (by rw [c11]; decide) (by rw [c11]; decide) (by rw [c11]; rfl) (by decide) ?_
    refine lv_aload_n hx hb dX12_sampleNow_51 rfl (lv_at hl 0 rfl) ?_
    refine lv_iload_n hx hb dX12_sampleNow_52 rfl (lv_at hl 1 rfl) ?_
    refine lv_iconst (v := (-1 : Int32)) hx hb dX12_sampleNow_53 (by decide) ?_
    obtain ⟨r12, h13, hf⟩ := bd_some hf
    refine s_callVi (As := [.int a0, .int (-1 : Int32)]) (rest := []) F I_6 (cM_rankWithout G4 E Dd a0 (-1 : Int32) r12 h13) kX12_246 ⟨rfl, rfl⟩ ⟨Nat.le_trans (Nat.le_of_ble_eq_true rfl) hRf, Nat.le_trans (Nat.le_of_ble_eq_true rfl) hRl⟩ (0) 12 rfl rfl rfl rfl rfl hl.1 (Nat.le_of_ble_eq_true rfl) ⟨Nat.zero_le _, Nat.zero_le _⟩ dX12_sampleNow_54 ?_
    intro H_14 lo_14 I_14
    cases hf
    exact ret H_14 lo_14 _ ls I_14 dX12_sampleNow_57
  replace hf := (if_neg c11).symm.trans hf
  by_cases c15 : a1 = (2 : Int32)
  · replace hf := (if_pos c15).symm.trans hf
    refine lv_tableIn (off := 49) (tgt := 58) hx hb dX12_sampleNow_9 (by rw [c15]; decide) (by rw [c15]; decide) (by rw [c15]; rfl) (by decide) ?_
    refine lv_aload_n hx hb dX12_sampleNow_58 rfl (lv_at hl 0 rfl) ?_
    refine lv_iload_n hx hb dX12_sampleNow_59 rfl (lv_at hl 1 rfl) ?_
    obtain ⟨r16, h17, hf⟩ := bd_some hf
    refine s_callVi (As := [.int a0]) (rest := []) F I_6 (cM_isStable G4 E Dd a0 r16 h17) kX12_278 ⟨rfl, rfl⟩ ⟨Nat.le_trans (Nat.le_of_ble_eq_true rfl) hRf, Nat.le_trans (Nat.le_of_ble_eq_true rfl) hRl⟩ (0) 12 rfl rfl rfl rfl rfl hl.1 (Nat.le_of_ble_eq_true rfl) ⟨Nat.zero_le _, Nat.zero_le _⟩ dX12_sampleNow_60 ?_
    intro H_18 lo_18 I_18
    refine lv_if_eq (tgt := 70) hx hb dX12_sampleNow_63 (by decide) (fun c19 => ?_) (fun c19 => ?_)
    · replace hf := (if_pos c19).symm.trans hf
      refine lv_iconst (v := (0 : Int32)) hx hb dX12_sampleNow_70 (by decide) ?_
      cases hf
      exact ret H_18 lo_18 _ ls I_18 dX12_sampleNow_71
    · replace hf := (if_neg c19).symm.trans hf
      refine lv_iconst (v := (1 : Int32)) hx hb dX12_sampleNow_66 (by decide) ?_
      refine lv_goto (tgt := 71) hx hb dX12_sampleNow_67 (by decide) ?_
      cases hf
      exact ret H_18 lo_18 _ ls I_18 dX12_sampleNow_71
  replace hf := (if_neg c15).symm.trans hf
  by_cases c20 : a1 = (3 : Int32)
  · replace hf := (if_pos c20).symm.trans hf
    refine lv_tableIn (off := 63) (tgt := 72) hx hb dX12_sampleNow_9 (by rw [c20]; decide) (by rw [c20]; decide) (by rw [c20]; rfl) (by decide) ?_
    refine lv_aload_n hx hb dX12_sampleNow_72 rfl (lv_at hl 0 rfl) ?_
    refine lv_iload_n hx hb dX12_sampleNow_73 rfl (lv_at hl 1 rfl) ?_
    obtain ⟨r21, h22, hf⟩ := bd_some hf
    refine s_callVi (As := [.int a0]) (rest := []) F I_6 (cM_dominance G4 E Dd a0 r21 h22) kX12_281 ⟨rfl, rfl⟩ ⟨Nat.le_trans (Nat.le_of_ble_eq_true rfl) hRf, Nat.le_trans (Nat.le_of_ble_eq_true rfl) hRl⟩ (0) 12 rfl rfl rfl rfl rfl hl.1 (Nat.le_of_ble_eq_true rfl) ⟨Nat.zero_le _, Nat.zero_le _⟩ dX12_sampleNow_74 ?_
    intro H_23 lo_23 I_23
    cases hf
    exact ret H_23 lo_23 _ ls I_23 dX12_sampleNow_77
  replace hf := (if_neg c20).symm.trans hf
  by_cases c24 : a1 = (4 : Int32)
  · replace hf := (if_pos c24).symm.trans hf
    refine lv_tableIn (off := 69) (tgt := 78) hx hb dX12_sampleNow_9 (by rw [c24]; decide) (by rw [c24]; decide) (by rw [c24]; rfl) (by decide) ?_
    refine lv_aload_n hx hb dX12_sampleNow_78 rfl (lv_at hl 0 rfl) ?_
    refine lv_iload_n hx hb dX12_sampleNow_79 rfl (lv_at hl 1 rfl) ?_
    obtain ⟨r25, h26, hf⟩ := bd_some hf
    refine s_callVi (As := [.int a0]) (rest := []) F I_6 (cM_layerOf G4 E Dd a0 r25 h26) kX12_284 ⟨rfl, rfl⟩ ⟨Nat.le_trans (Nat.le_of_ble_eq_true rfl) hRf, Nat.le_trans (Nat.le_of_ble_eq_true rfl) hRl⟩ (0) 12 rfl rfl rfl rfl rfl hl.1 (Nat.le_of_ble_eq_true rfl) ⟨Nat.zero_le _, Nat.zero_le _⟩ dX12_sampleNow_80 ?_
    intro H_27 lo_27 I_27
    cases hf
    exact ret H_27 lo_27 _ ls I_27 dX12_sampleNow_83
  replace hf := (if_neg c24).symm.trans hf
  refine lv_tableOut (tgt := 84) hx hb dX12_sampleNow_9 (tsw4 c7 c11 c15 c20 c24) (by decide) ?_
  refine lv_aload_n hx hb dX12_sampleNow_84 rfl (lv_at hl 0 rfl) ?_
  refine lv_iload_n hx hb dX12_sampleNow_85 rfl (lv_at hl 1 rfl) ?_
  obtain ⟨r28, h29, hf⟩ := bd_some hf
  refine s_callVi (As := [.int a0]) (rest := []) F I_6 (cM_placeOf G4 E Dd a0 r28 h29) kX12_287 ⟨rfl, rfl⟩ ⟨Nat.le_trans (Nat.le_of_ble_eq_true rfl) hRf, Nat.le_trans (Nat.le_of_ble_eq_true rfl) hRl⟩ (0) 12 rfl rfl rfl rfl rfl hl.1 (Nat.le_of_ble_eq_true rfl) ⟨Nat.zero_le _, Nat.zero_le _⟩ dX12_sampleNow_86 ?_
  intro H_30 lo_30 I_30
  cases hf
  exact ret H_30 lo_30 _ ls I_30 dX12_sampleNow_89
def M_sample (G : Nat → Nat → Int32) (a0 : Int32) (a1 : Int32) : Option (Int32 × (Nat → Nat → Int32)) :=
bd (M_isSample G a0) fun r1 =>
bd (if r1 = 0 then
(some (1 : Int32))
else
(bd (M_within a1 (0 : Int32) (5 : Int32)) fun r17 =>
if r17 = 0 then
(some (2 : Int32))
else
(some (0 : Int32)))) fun x5 =>
nm (wf G 0 x5) fun G9 =>
if G9 0 0 ≤ 0 then
(bd2 (M_sampleNow G9 a0 a1) fun r11 G12 =>
some (r11, G12))
else
(some ((0 : Int32), G9))
set_option maxRecDepth 100000 in
set_option maxHeartbeats 4000000 in
theorem cM_sample (G : Nat → Nat → Int32) (E : Nat → Nat → Int64) (Dd : Nat → Nat → UInt64) (a0 : Int32) (a1 : Int32) (rv : Int32) (newG : Nat → Nat → Int32) (hf : M_sample G a0 a1 = some (rv, newG)) : sMi D (mT cI cJ cD) (mW ad cI cJ cD) l yX12_sample (ws1 yX12_sample cX12_sample 3 (some .int)) ({ frames := 6, cells := 0, slots := 0, locals := 136 }) [.ref (ad 0), .int a0, .int a1] (G, E, Dd) (rv, (newG, E, Dd)) := by
  unfold M_sample at hf
  refine sMi_of (by decide) (Nat.le_of_ble_eq_true rfl) ?_
  intro p e R s m args below meth c A Q ls H lo F hRf hRl I hl ret
  obtain ⟨hx, hb, hml, hown, hG⟩ := id F
  replace hl : lv_has ls 3 [(0, .ref (ad 0)), (1, .int a0), (2, .int a1)] := hl
  refine lv_aload_n hx hb dX12_sample_0 rfl (lv_at hl 0 rfl) ?_
  refine lv_aload_n hx hb dX12_sample_1 rfl (lv_at hl 0 rfl) ?_
  refine lv_iload_n hx hb dX12_sample_2 rfl (lv_at hl 1 rfl) ?_
  obtain ⟨r1, h2, hf⟩ := bd_some hf
  refine s_callVi (As := [.int a0]) (rest := [.ref (ad 0)]) F I (cM_isSample G E Dd a0 r1 h2) kX12_151 ⟨rfl, rfl⟩ ⟨Nat.le_trans (Nat.le_of_ble_eq_true rfl) hRf, Nat.le_trans (Nat.le_of_ble_eq_true rfl) hRl⟩ (0) 12 rfl rfl rfl rfl rfl hl.1 (Nat.le_of_ble_eq_true rfl) ⟨Nat.zero_le _, Nat.zero_le _⟩ dX12_sample_3 ?_
  intro H_3 lo_3 I_3
  obtain ⟨x5, hv16, hf⟩ := bd_some hf
  have J4 : ∀ (H : Heap) (locs : List Loc), sInv D (mT cI cJ cD) (mW ad cI cJ cD) A s H locs (G, E, Dd) → ∀ (ls : Array Slot), lv_has ls 3 [(0, .ref (ad 0)), (1, .int a0), (2, .int a1)] → W p l e R s m args below meth c H locs 0 0 Q (F0 m 27 ls [.int x5, .ref (ad 0)]) := by
    intro H_6 lo_6 I_6 ls_7 hl_7
    refine mptX12_89_0 F I_6 dX12_sample_27 ?_
    intro H_10 lo_10 G9 eG9 I_10
    replace hf := nm_some eG9 hf
    refine lv_aload_n hx hb dX12_sample_30 rfl (lv_at hl_7 0 rfl) ?_
    refine mgtX12_89_0 F I_10 dX12_sample_31 ?_
    refine lv_if_le (tgt := 41) hx hb dX12_sample_34 (by decide) (fun c15 => ?_) (fun c15 => ?_)
    · replace hf := (if_pos c15).symm.trans hf
      refine lv_aload_n hx hb dX12_sample_41 rfl (lv_at hl_7 0 rfl) ?_
      refine lv_iload_n hx hb dX12_sample_42 rfl (lv_at hl_7 1 rfl) ?_
      refine lv_iload_n hx hb dX12_sample_43 rfl (lv_at hl_7 2 rfl) ?_
      obtain ⟨r11, G12, h13, hf⟩ := bd2_some hf
      refine s_callVi (As := [.int a0, .int a1]) (rest := []) F I_10 (cM_sampleNow G9 E Dd a0 a1 r11 G12 h13) kX12_290 ⟨rfl, rfl⟩ ⟨Nat.le_trans (Nat.le_of_ble_eq_true rfl) hRf, Nat.le_trans (Nat.le_of_ble_eq_true rfl) hRl⟩ (0) 12 rfl rfl rfl rfl rfl hl_7.1 (Nat.le_of_ble_eq_true rfl) ⟨Nat.zero_le _, Nat.zero_le _⟩ dX12_sample_44 ?_
      intro H_14 lo_14 I_14
      cases hf
      exact ret H_14 lo_14 _ ls_7 I_14 dX12_sample_47
    · replace hf := (if_neg c15).symm.trans hf
      refine lv_iconst (v := (0 : Int32)) hx hb dX12_sample_37 (by decide) ?_
      refine lv_goto (tgt := 47) hx hb dX12_sample_38 (by decide) ?_
      cases hf
      exact ret H_10 lo_10 _ ls_7 I_10 dX12_sample_47
  replace hf := hv16
  refine lv_if_ne (tgt := 13) hx hb dX12_sample_6 (by decide) (fun c21 => ?_) (fun c21 => ?_)
  · replace hf := (if_neg c21).symm.trans hf
    refine lv_iload_n hx hb dX12_sample_13 rfl (lv_at hl 2 rfl) ?_
    refine lv_iconst (v := (0 : Int32)) hx hb dX12_sample_14 (by decide) ?_
    refine lv_iconst (v := (5 : Int32)) hx hb dX12_sample_15 (by decide) ?_
    obtain ⟨r17, h18, hf⟩ := bd_some hf
    refine s_callSi (As := [.int a1, .int (0 : Int32), .int (5 : Int32)]) (rest := [.ref (ad 0)]) F I_3 (cM_within G E Dd a1 (0 : Int32) (5 : Int32) r17 h18) kX12_95 ⟨rfl, rfl⟩ ⟨Nat.le_trans (Nat.le_of_ble_eq_true rfl) hRf, Nat.le_trans (Nat.le_of_ble_eq_true rfl) hRl⟩ rfl rfl hl.1 (Nat.le_of_ble_eq_true rfl) ⟨Nat.zero_le _, Nat.zero_le _⟩ dX12_sample_16 ?_
    intro H_19 lo_19 I_19
    refine lv_if_eq (tgt := 26) hx hb dX12_sample_19 (by decide) (fun c20 => ?_) (fun c20 => ?_)
    · replace hf := (if_pos c20).symm.trans hf
      refine lv_iconst (v := (2 : Int32)) hx hb dX12_sample_26 (by decide) ?_
      cases hf
      exact J4 H_19 lo_19 I_19 ls (lv_sub hl [0, 1, 2] rfl)
    · replace hf := (if_neg c20).symm.trans hf
      refine lv_iconst (v := (0 : Int32)) hx hb dX12_sample_22 (by decide) ?_
      refine lv_goto (tgt := 27) hx hb dX12_sample_23 (by decide) ?_
      cases hf
      exact J4 H_19 lo_19 I_19 ls (lv_sub hl [0, 1, 2] rfl)
  · replace hf := (if_pos c21).symm.trans hf
    refine lv_iconst (v := (1 : Int32)) hx hb dX12_sample_9 (by decide) ?_
    refine lv_goto (tgt := 27) hx hb dX12_sample_10 (by decide) ?_
    cases hf
    exact J4 H_3 lo_3 I_3 ls (lv_sub hl [0, 1, 2] rfl)
def M_order (G : Nat → Nat → Int32) (a0 : Int32) : Option (Int32 × (Nat → Nat → Int32)) :=
bd (M_isSample G a0) fun r1 =>
bd (if r1 = 0 then
(some (1 : Int32))
else
(some (0 : Int32))) fun x5 =>
nm (wf G 0 x5) fun G9 =>
if G9 0 0 ≤ 0 then
(bd (M_layMargins G9) fun G11 =>
bd (M_layOrders G11) fun G14 =>
bd (M_at G14 a0) fun r17 =>
some (r17, G14))
else
(some ((0 : Int32), G9))
set_option maxRecDepth 100000 in
set_option maxHeartbeats 4000000 in
theorem cM_order (G : Nat → Nat → Int32) (E : Nat → Nat → Int64) (Dd : Nat → Nat → UInt64) (a0 : Int32) (rv : Int32) (newG : Nat → Nat → Int32) (hf : M_order G a0 = some (rv, newG)) : sMi D (mT cI cJ cD) (mW ad cI cJ cD) l yX12_order (ws1 yX12_order cX12_order 2 (some .int)) ({ frames := 4, cells := 0, slots := 0, locals := 95 }) [.ref (ad 0), .int a0] (G, E, Dd) (rv, (newG, E, Dd)) := by
  unfold M_order at hf
  refine sMi_of (by decide) (Nat.le_of_ble_eq_true rfl) ?_
  intro p e R s m args below meth c A Q ls H lo F hRf hRl I hl ret
  obtain ⟨hx, hb, hml, hown, hG⟩ := id F
  replace hl : lv_has ls 2 [(0, .ref (ad 0)), (1, .int a0)] := hl
  refine lv_aload_n hx hb dX12_order_0 rfl (lv_at hl 0 rfl) ?_
  refine lv_aload_n hx hb dX12_order_1 rfl (lv_at hl 0 rfl) ?_
  refine lv_iload_n hx hb dX12_order_2 rfl (lv_at hl 1 rfl) ?_
  obtain ⟨r1, h2, hf⟩ := bd_some hf
  refine s_callVi (As := [.int a0]) (rest := [.ref (ad 0)]) F I (cM_isSample G E Dd a0 r1 h2) kX12_151 ⟨rfl, rfl⟩ ⟨Nat.le_trans (Nat.le_of_ble_eq_true rfl) hRf, Nat.le_trans (Nat.le_of_ble_eq_true rfl) hRl⟩ (0) 12 rfl rfl rfl rfl rfl hl.1 (Nat.le_of_ble_eq_true rfl) ⟨Nat.zero_le _, Nat.zero_le _⟩ dX12_order_3 ?_
  intro H_3 lo_3 I_3
  obtain ⟨x5, hv21, hf⟩ := bd_some hf
  have J4 : ∀ (H : Heap) (locs : List Loc), sInv D (mT cI cJ cD) (mW ad cI cJ cD) A s H locs (G, E, Dd) → ∀ (ls : Array Slot), lv_has ls 2 [(0, .ref (ad 0)), (1, .int a0)] → W p l e R s m args below meth c H locs 0 0 Q (F0 m 14 ls [.int x5, .ref (ad 0)]) := by
    intro H_6 lo_6 I_6 ls_7 hl_7
    refine mptX12_89_0 F I_6 dX12_order_14 ?_
    intro H_10 lo_10 G9 eG9 I_10
    replace hf := nm_some eG9 hf
    refine lv_aload_n hx hb dX12_order_17 rfl (lv_at hl_7 0 rfl) ?_
    refine mgtX12_89_0 F I_10 dX12_order_18 ?_
    refine lv_if_le (tgt := 26) hx hb dX12_order_21 (by decide) (fun c20 => ?_) (fun c20 => ?_)
    · replace hf := (if_pos c20).symm.trans hf
      refine lv_aload_n hx hb dX12_order_26 rfl (lv_at hl_7 0 rfl) ?_
      obtain ⟨G11, h12, hf⟩ := bd_some hf
      refine s_callVv (As := []) (rest := []) F I_10 (cM_layMargins G9 E Dd G11 h12) kX12_272 ⟨rfl, rfl⟩ ⟨Nat.le_trans (Nat.le_of_ble_eq_true rfl) hRf, Nat.le_trans (Nat.le_of_ble_eq_true rfl) hRl⟩ (0) 12 rfl rfl rfl rfl rfl hl_7.1 (Nat.le_of_ble_eq_true rfl) ⟨Nat.zero_le _, Nat.zero_le _⟩ dX12_order_27 ?_
      intro H_13 lo_13 I_13
      refine lv_aload_n hx hb dX12_order_30 rfl (lv_at hl_7 0 rfl) ?_
      obtain ⟨G14, h15, hf⟩ := bd_some hf
      refine s_callVv (As := []) (rest := []) F I_13 (cM_layOrders G11 E Dd G14 h15) kX12_275 ⟨rfl, rfl⟩ ⟨Nat.le_trans (Nat.le_of_ble_eq_true rfl) hRf, Nat.le_trans (Nat.le_of_ble_eq_true rfl) hRl⟩ (0) 12 rfl rfl rfl rfl rfl hl_7.1 (Nat.le_of_ble_eq_true rfl) ⟨Nat.zero_le _, Nat.zero_le _⟩ dX12_order_31 ?_
      intro H_16 lo_16 I_16
      refine lv_aload_n hx hb dX12_order_34 rfl (lv_at hl_7 0 rfl) ?_
      refine lv_iload_n hx hb dX12_order_35 rfl (lv_at hl_7 1 rfl) ?_
      obtain ⟨r17, h18, hf⟩ := bd_some hf
      refine s_callVi (As := [.int a0]) (rest := []) F I_16 (cM_at G14 E Dd a0 r17 h18) kX12_269 ⟨rfl, rfl⟩ ⟨Nat.le_trans (Nat.le_of_ble_eq_true rfl) hRf, Nat.le_trans (Nat.le_of_ble_eq_true rfl) hRl⟩ (0) 12 rfl rfl rfl rfl rfl hl_7.1 (Nat.le_of_ble_eq_true rfl) ⟨Nat.zero_le _, Nat.zero_le _⟩ dX12_order_36 ?_
      intro H_19 lo_19 I_19
      cases hf
      exact ret H_19 lo_19 _ ls_7 I_19 dX12_order_39
    · replace hf := (if_neg c20).symm.trans hf
      refine lv_iconst (v := (0 : Int32)) hx hb dX12_order_24 (by decide) ?_
      cases hf
      exact ret H_10 lo_10 _ ls_7 I_10 dX12_order_25
  replace hf := hv21
  refine lv_if_eq (tgt := 13) hx hb dX12_order_6 (by decide) (fun c22 => ?_) (fun c22 => ?_)
  · replace hf := (if_pos c22).symm.trans hf
    refine lv_iconst (v := (1 : Int32)) hx hb dX12_order_13 (by decide) ?_
    cases hf
    exact J4 H_3 lo_3 I_3 ls (lv_sub hl [0, 1] rfl)
  · replace hf := (if_neg c22).symm.trans hf
    refine lv_iconst (v := (0 : Int32)) hx hb dX12_order_9 (by decide) ?_
    refine lv_goto (tgt := 14) hx hb dX12_order_10 (by decide) ?_
    cases hf
    exact J4 H_3 lo_3 I_3 ls (lv_sub hl [0, 1] rfl)
def M_goesAhead (G : Nat → Nat → Int32) (a0 : Int32) (a1 : Int32) (a2 : Int32) : Option (Int32) :=
if a0 = (-1 : Int32) then
(bd (M_beats G a1 a2) fun r5 =>
gd (r5 = 0 ∨ r5 = 1) <|
some r5)
else
(bd (M_prefers G a0 a1 a2) fun r1 =>
gd (r1 = 0 ∨ r1 = 1) <|
some r1)
set_option maxRecDepth 100000 in
set_option maxHeartbeats 4000000 in
theorem cM_goesAhead (G : Nat → Nat → Int32) (E : Nat → Nat → Int64) (Dd : Nat → Nat → UInt64) (a0 : Int32) (a1 : Int32) (a2 : Int32) (rv : Int32)  (hf : M_goesAhead G a0 a1 a2 = some rv) : sMi D (mT cI cJ cD) (mW ad cI cJ cD) l yX12_goesAhead (ws1 yX12_goesAhead cX12_goesAhead 4 (some .boolean)) ({ frames := 3, cells := 0, slots := 0, locals := 73 }) [.ref (ad 0), .int a0, .int a1, .int a2] (G, E, Dd) (rv, (G, E, Dd)) := by
  unfold M_goesAhead at hf
  refine sMz_of (by decide) (Nat.le_of_ble_eq_true rfl) ?_
  intro p e R s m args below meth c A Q ls H lo F hRf hRl I hl ret
  obtain ⟨hx, hb, hml, hown, hG⟩ := id F
  replace hl : lv_has ls 4 [(0, .ref (ad 0)), (1, .int a0), (2, .int a1), (3, .int a2)] := hl
  refine lv_iload_n hx hb dX12_goesAhead_0 rfl (lv_at hl 1 rfl) ?_
  refine lv_iconst (v := (-1 : Int32)) hx hb dX12_goesAhead_1 (by decide) ?_
  refine lv_icmp_ne (tgt := 14) hx hb dX12_goesAhead_2 (by decide) (fun c9 => ?_) (fun c9 => ?_)
  · replace hf := (if_neg c9).symm.trans hf
    refine lv_aload_n hx hb dX12_goesAhead_14 rfl (lv_at hl 0 rfl) ?_
    refine lv_iload_n hx hb dX12_goesAhead_15 rfl (lv_at hl 1 rfl) ?_
    refine lv_iload_n hx hb dX12_goesAhead_16 rfl (lv_at hl 2 rfl) ?_
    refine lv_iload_n hx hb dX12_goesAhead_17 rfl (lv_at hl 3 rfl) ?_
    obtain ⟨r1, h2, hf⟩ := bd_some hf
    refine s_callVi (As := [.int a0, .int a1, .int a2]) (rest := []) F I (cM_prefers G E Dd a0 a1 a2 r1 h2) kX12_224 ⟨rfl, rfl⟩ ⟨Nat.le_trans (Nat.le_of_ble_eq_true rfl) hRf, Nat.le_trans (Nat.le_of_ble_eq_true rfl) hRl⟩ (0) 12 rfl rfl rfl rfl rfl hl.1 (Nat.le_of_ble_eq_true rfl) ⟨Nat.zero_le _, Nat.zero_le _⟩ dX12_goesAhead_18 ?_
    intro H_3 lo_3 I_3
    obtain ⟨g4, hf⟩ := gd_some hf
    cases hf
    exact ret H_3 lo_3 _ ls I_3 g4 dX12_goesAhead_21
  · replace hf := (if_pos c9).symm.trans hf
    refine lv_aload_n hx hb dX12_goesAhead_5 rfl (lv_at hl 0 rfl) ?_
    refine lv_iload_n hx hb dX12_goesAhead_6 rfl (lv_at hl 2 rfl) ?_
    refine lv_iload_n hx hb dX12_goesAhead_7 rfl (lv_at hl 3 rfl) ?_
    obtain ⟨r5, h6, hf⟩ := bd_some hf
    refine s_callVi (As := [.int a1, .int a2]) (rest := []) F I (cM_beats G E Dd a1 a2 r5 h6) kX12_249 ⟨rfl, rfl⟩ ⟨Nat.le_trans (Nat.le_of_ble_eq_true rfl) hRf, Nat.le_trans (Nat.le_of_ble_eq_true rfl) hRl⟩ (0) 12 rfl rfl rfl rfl rfl hl.1 (Nat.le_of_ble_eq_true rfl) ⟨Nat.zero_le _, Nat.zero_le _⟩ dX12_goesAhead_8 ?_
    intro H_7 lo_7 I_7
    refine lv_goto (tgt := 21) hx hb dX12_goesAhead_11 (by decide) ?_
    obtain ⟨g8, hf⟩ := gd_some hf
    cases hf
    exact ret H_7 lo_7 _ ls I_7 g8 dX12_goesAhead_21
def M_isRound (G : Nat → Nat → Int32) (a0 : Int32) (a1 : Int32) (a2 : Int32) (a3 : Int32) : Option (Int32) :=
bd (M_goesAhead G a0 a1 a2) fun r1 =>
if r1 = 0 then
(some (0 : Int32))
else
(bd (M_goesAhead G a0 a2 a3) fun r4 =>
if r4 = 0 then
(some (0 : Int32))
else
(bd (M_goesAhead G a0 a3 a1) fun r7 =>
if r7 = 0 then
(some (0 : Int32))
else
(some (1 : Int32))))
set_option maxRecDepth 100000 in
set_option maxHeartbeats 4000000 in
theorem cM_isRound (G : Nat → Nat → Int32) (E : Nat → Nat → Int64) (Dd : Nat → Nat → UInt64) (a0 : Int32) (a1 : Int32) (a2 : Int32) (a3 : Int32) (rv : Int32)  (hf : M_isRound G a0 a1 a2 a3 = some rv) : sMi D (mT cI cJ cD) (mW ad cI cJ cD) l yX12_isRound (ws1 yX12_isRound cX12_isRound 5 (some .boolean)) ({ frames := 4, cells := 0, slots := 0, locals := 96 }) [.ref (ad 0), .int a0, .int a1, .int a2, .int a3] (G, E, Dd) (rv, (G, E, Dd)) := by
  unfold M_isRound at hf
  refine sMz_of (by decide) (Nat.le_of_ble_eq_true rfl) ?_
  intro p e R s m args below meth c A Q ls H lo F hRf hRl I hl ret
  obtain ⟨hx, hb, hml, hown, hG⟩ := id F
  replace hl : lv_has ls 5 [(0, .ref (ad 0)), (1, .int a0), (2, .int a1), (3, .int a2), (4, .int a3)] := hl
  refine lv_aload_n hx hb dX12_isRound_0 rfl (lv_at hl 0 rfl) ?_
  refine lv_iload_n hx hb dX12_isRound_1 rfl (lv_at hl 1 rfl) ?_
  refine lv_iload_n hx hb dX12_isRound_2 rfl (lv_at hl 2 rfl) ?_
  refine lv_iload_n hx hb dX12_isRound_3 rfl (lv_at hl 3 rfl) ?_
  obtain ⟨r1, h2, hf⟩ := bd_some hf
  refine s_callVi (As := [.int a0, .int a1, .int a2]) (rest := []) F I (cM_goesAhead G E Dd a0 a1 a2 r1 h2) kX12_293 ⟨rfl, rfl⟩ ⟨Nat.le_trans (Nat.le_of_ble_eq_true rfl) hRf, Nat.le_trans (Nat.le_of_ble_eq_true rfl) hRl⟩ (0) 12 rfl rfl rfl rfl rfl hl.1 (Nat.le_of_ble_eq_true rfl) ⟨Nat.zero_le _, Nat.zero_le _⟩ dX12_isRound_4 ?_
  intro H_3 lo_3 I_3
  refine lv_if_eq (tgt := 36) hx hb dX12_isRound_7 (by decide) (fun c12 => ?_) (fun c12 => ?_)
  · replace hf := (if_pos c12).symm.trans hf
    refine lv_iconst (v := (0 : Int32)) hx hb dX12_isRound_36 (by decide) ?_
    cases hf
    exact ret H_3 lo_3 _ ls I_3 (Or.inl rfl) dX12_isRound_37
  · replace hf := (if_neg c12).symm.trans hf
    refine lv_aload_n hx hb dX12_isRound_10 rfl (lv_at hl 0 rfl) ?_
    refine lv_iload_n hx hb dX12_isRound_11 rfl (lv_at hl 1 rfl) ?_
    refine lv_iload_n hx hb dX12_isRound_12 rfl (lv_at hl 3 rfl) ?_
    refine lv_iload hx hb dX12_isRound_13 (lv_at hl 4 rfl) ?_
    obtain ⟨r4, h5, hf⟩ := bd_some hf
    refine s_callVi (As := [.int a0, .int a2, .int a3]) (rest := []) F I_3 (cM_goesAhead G E Dd a0 a2 a3 r4 h5) kX12_293 ⟨rfl, rfl⟩ ⟨Nat.le_trans (Nat.le_of_ble_eq_true rfl) hRf, Nat.le_trans (Nat.le_of_ble_eq_true rfl) hRl⟩ (0) 12 rfl rfl rfl rfl rfl hl.1 (Nat.le_of_ble_eq_true rfl) ⟨Nat.zero_le _, Nat.zero_le _⟩ dX12_isRound_15 ?_
    intro H_6 lo_6 I_6
    refine lv_if_eq (tgt := 36) hx hb dX12_isRound_18 (by decide) (fun c11 => ?_) (fun c11 => ?_)
    · replace hf := (if_pos c11).symm.trans hf
      refine lv_iconst (v := (0 : Int32)) hx hb dX12_isRound_36 (by decide) ?_
      cases hf
      exact ret H_6 lo_6 _ ls I_6 (Or.inl rfl) dX12_isRound_37
    · replace hf := (if_neg c11).symm.trans hf
      refine lv_aload_n hx hb dX12_isRound_21 rfl (lv_at hl 0 rfl) ?_
      refine lv_iload_n hx hb dX12_isRound_22 rfl (lv_at hl 1 rfl) ?_
      refine lv_iload hx hb dX12_isRound_23 (lv_at hl 4 rfl) ?_
      refine lv_iload_n hx hb dX12_isRound_25 rfl (lv_at hl 2 rfl) ?_
      obtain ⟨r7, h8, hf⟩ := bd_some hf
      refine s_callVi (As := [.int a0, .int a3, .int a1]) (rest := []) F I_6 (cM_goesAhead G E Dd a0 a3 a1 r7 h8) kX12_293 ⟨rfl, rfl⟩ ⟨Nat.le_trans (Nat.le_of_ble_eq_true rfl) hRf, Nat.le_trans (Nat.le_of_ble_eq_true rfl) hRl⟩ (0) 12 rfl rfl rfl rfl rfl hl.1 (Nat.le_of_ble_eq_true rfl) ⟨Nat.zero_le _, Nat.zero_le _⟩ dX12_isRound_26 ?_
      intro H_9 lo_9 I_9
      refine lv_if_eq (tgt := 36) hx hb dX12_isRound_29 (by decide) (fun c10 => ?_) (fun c10 => ?_)
      · replace hf := (if_pos c10).symm.trans hf
        refine lv_iconst (v := (0 : Int32)) hx hb dX12_isRound_36 (by decide) ?_
        cases hf
        exact ret H_9 lo_9 _ ls I_9 (Or.inl rfl) dX12_isRound_37
      · replace hf := (if_neg c10).symm.trans hf
        refine lv_iconst (v := (1 : Int32)) hx hb dX12_isRound_32 (by decide) ?_
        refine lv_goto (tgt := 37) hx hb dX12_isRound_33 (by decide) ?_
        cases hf
        exact ret H_9 lo_9 _ ls I_9 (Or.inr rfl) dX12_isRound_37
def M_ringsOf_s3 (a0 : Int32) (x4 : Int32) (x15 : Int32) (G : Nat → Nat → Int32) (x27 : Int32) (x28 : Int32) : Option ((Int32 × Int32) ⊕ (Int32)) :=
if G 1 0 ≤ x28 then
(some (.inr x27))
else
(bd (M_isRound G a0 x4 x15 x28) fun r38 =>
bd (if r38 = 0 then
(bd (M_isRound G a0 x28 x15 x4) fun r51 =>
if r51 = 0 then
(some (0 : Int32))
else
(some (1 : Int32)))
else
(some (1 : Int32))) fun x42 =>
nm (x27 + x42 : Int32) fun x46 =>
nm (x28 + (1 : Int32) : Int32) fun x48 =>
some (.inl (x46, x48)))
def M_ringsOf_s2 (a0 : Int32) (x4 : Int32) (G : Nat → Nat → Int32) (x14 : Int32) (x15 : Int32) : Option ((Int32 × Int32) ⊕ (Int32)) :=
if G 1 0 ≤ x15 then
(some (.inr x14))
else
(nm (x15 + (1 : Int32) : Int32) fun x25 =>
bd (lp (fun q => M_ringsOf_s3 a0 x4 x15 G q.1 q.2) FU (x14, x25)) fun x29 =>
nm (x15 + (1 : Int32) : Int32) fun x33 =>
some (.inl (x29, x33)))
def M_ringsOf_s1 (a0 : Int32) (G : Nat → Nat → Int32) (x3 : Int32) (x4 : Int32) : Option ((Int32 × Int32) ⊕ (Int32)) :=
if G 1 0 ≤ x4 then
(some (.inr x3))
else
(nm (x4 + (1 : Int32) : Int32) fun x12 =>
bd (lp (fun q => M_ringsOf_s2 a0 x4 G q.1 q.2) FU (x3, x12)) fun x16 =>
nm (x4 + (1 : Int32) : Int32) fun x20 =>
some (.inl (x16, x20)))
def M_ringsOf (G : Nat → Nat → Int32) (a0 : Int32) : Option (Int32) :=
bd (lp (fun q => M_ringsOf_s1 a0 G q.1 q.2) FU ((0 : Int32), (0 : Int32))) fun x5 =>
some x5
set_option maxRecDepth 100000 in
set_option maxHeartbeats 4000000 in
theorem cM_ringsOf (G : Nat → Nat → Int32) (E : Nat → Nat → Int64) (Dd : Nat → Nat → UInt64) (a0 : Int32) (rv : Int32)  (hf : M_ringsOf G a0 = some rv) : sMi D (mT cI cJ cD) (mW ad cI cJ cD) l yX12_ringsOf (ws1 yX12_ringsOf cX12_ringsOf 6 (some .int)) ({ frames := 5, cells := 0, slots := 0, locals := 120 }) [.ref (ad 0), .int a0] (G, E, Dd) (rv, (G, E, Dd)) := by
  unfold M_ringsOf at hf
  refine sMi_of (by decide) (Nat.le_of_ble_eq_true rfl) ?_
  intro p e R s m args below meth c A Q ls H lo F hRf hRl I hl ret
  obtain ⟨hx, hb, hml, hown, hG⟩ := id F
  replace hl : lv_has ls 6 [(0, .ref (ad 0)), (1, .int a0)] := hl
  refine lv_iconst (v := (0 : Int32)) hx hb dX12_ringsOf_0 (by decide) ?_
  refine lv_istore_n (lv' := [(2, .int (0 : Int32)), (0, .ref (ad 0)), (1, .int a0)]) hx hb dX12_ringsOf_1 rfl hl (by decide) rfl (fun ls_1 hl_1 => ?_)
  refine lv_iconst (v := (0 : Int32)) hx hb dX12_ringsOf_2 (by decide) ?_
  refine lv_istore_n (lv' := [(3, .int (0 : Int32)), (2, .int (0 : Int32)), (0, .ref (ad 0)), (1, .int a0)]) hx hb dX12_ringsOf_3 rfl hl_1 (by decide) rfl (fun ls_2 hl_2 => ?_)
  obtain ⟨x5, hq1, hf⟩ := bd_some hf
  have K1 : ∀ (H : Heap) (locs : List Loc), sInv D (mT cI cJ cD) (mW ad cI cJ cD) A s H locs (G, E, Dd) → ∀ (ls : Array Slot), lv_has ls 6 [(2, .int x5)] → W p l e R s m args below meth c H locs 0 0 Q (F0 m 93 ls []) := by
    intro H_6 lo_6 I_6 ls_7 hl_7
    refine lv_iload_n hx hb dX12_ringsOf_93 rfl (lv_at hl_7 0 rfl) ?_
    cases hf
    exact ret H_6 lo_6 _ ls_7 I_6 dX12_ringsOf_94
  have L1 : ∀ (n : Nat) (x3 : Int32) (x4 : Int32), lp (fun q => M_ringsOf_s1 a0 G q.1 q.2) n (x3, x4) = some x5 → ∀ (H : Heap) (locs : List Loc), sInv D (mT cI cJ cD) (mW ad cI cJ cD) A s H locs (G, E, Dd) → ∀ (ls : Array Slot), lv_has ls 6 [(0, .ref (ad 0)), (1, .int a0), (2, .int x3), (3, .int x4)] → W p l e R s m args below meth c H locs 0 0 Q (F0 m 4 ls []) := by
    intro n
    induction n with
    | zero => intro x3 x4 hq; exact (lp_0 hq).elim
    | succ n ih1 =>
      intro x3 x4 hq H_9 lo_9 I_9 ls_10 hl_10
      obtain ⟨y1, hf, hK1⟩ := lp_go hq
      replace hf : M_ringsOf_s1 a0 G x3 x4 = some y1 := hf
      unfold M_ringsOf_s1 at hf
      refine lv_iload_n hx hb dX12_ringsOf_4 rfl (lv_at hl_10 3 rfl) ?_
      refine lv_aload_n hx hb dX12_ringsOf_5 rfl (lv_at hl_10 0 rfl) ?_
      refine mgtX12_92_0 F I_9 dX12_ringsOf_6 ?_
      refine lv_icmp_ge (tgt := 93) hx hb dX12_ringsOf_9 (by decide) (fun c58 => ?_) (fun c58 => ?_)
      · replace hf := (if_pos c58).symm.trans hf
        cases hf
        cases (show x3 = x5 from hK1)
        exact K1 H_9 lo_9 I_9 ls_10 (lv_sub hl_10 [2] rfl)
      · replace hf := (if_neg c58).symm.trans hf
        refine lv_iload_n hx hb dX12_ringsOf_12 rfl (lv_at hl_10 3 rfl) ?_
        refine lv_iconst (v := (1 : Int32)) hx hb dX12_ringsOf_13 (by decide) ?_
        refine lv_iadd hx hb dX12_ringsOf_14 ?_
        refine lv_topi (fun x12 ex12 => ?_)
        replace hf := nm_some ex12 hf
        refine lv_istore (lv' := [(4, .int x12), (0, .ref (ad 0)), (1, .int a0), (2, .int x3), (3, .int x4)]) hx hb dX12_ringsOf_15 hl_10 (by decide) rfl (fun ls_13 hl_13 => ?_)
        obtain ⟨x16, hq2, hf⟩ := bd_some hf
        have K2 : ∀ (H : Heap) (locs : List Loc), sInv D (mT cI cJ cD) (mW ad cI cJ cD) A s H locs (G, E, Dd) → ∀ (ls : Array Slot), lv_has ls 6 [(0, .ref (ad 0)), (1, .int a0), (2, .int x16), (3, .int x4)] → W p l e R s m args below meth c H locs 0 0 Q (F0 m 87 ls []) := by
          intro H_17 lo_17 I_17 ls_18 hl_18
          obtain ⟨x20, ex20⟩ : ∃ y : Int32, y = x4 + (1 : Int32) := ⟨_, rfl⟩
          replace hf := nm_some ex20 hf
          refine lv_iinc (v := x20) (lv' := [(3, .int x20), (0, .ref (ad 0)), (1, .int a0), (2, .int x16)]) hx hb dX12_ringsOf_87 hl_18 (k := 3) rfl (by rw [ex20]; rfl) (by decide) rfl (fun ls_21 hl_21 => ?_)
          refine lv_goto (tgt := 4) hx hb dX12_ringsOf_90 (by decide) ?_
          cases hf
          exact ih1 _ _ hK1 H_17 lo_17 I_17 ls_21 (lv_sub hl_21 [1, 2, 3, 0] rfl)
        have L2 : ∀ (n : Nat) (x14 : Int32) (x15 : Int32), lp (fun q => M_ringsOf_s2 a0 x4 G q.1 q.2) n (x14, x15) = some x16 → ∀ (H : Heap) (locs : List Loc), sInv D (mT cI cJ cD) (mW ad cI cJ cD) A s H locs (G, E, Dd) → ∀ (ls : Array Slot), lv_has ls 6 [(0, .ref (ad 0)), (1, .int a0), (2, .int x14), (3, .int x4), (4, .int x15)] → W p l e R s m args below meth c H locs 0 0 Q (F0 m 17 ls []) := by
          intro n
          induction n with
          | zero => intro x14 x15 hq; exact (lp_0 hq).elim
          | succ n ih2 =>
            intro x14 x15 hq H_22 lo_22 I_22 ls_23 hl_23
            obtain ⟨y2, hf, hK2⟩ := lp_go hq
            replace hf : M_ringsOf_s2 a0 x4 G x14 x15 = some y2 := hf
            unfold M_ringsOf_s2 at hf
            refine lv_iload hx hb dX12_ringsOf_17 (lv_at hl_23 4 rfl) ?_
            refine lv_aload_n hx hb dX12_ringsOf_19 rfl (lv_at hl_23 0 rfl) ?_
            refine mgtX12_92_0 F I_22 dX12_ringsOf_20 ?_
            refine lv_icmp_ge (tgt := 87) hx hb dX12_ringsOf_23 (by decide) (fun c57 => ?_) (fun c57 => ?_)
            · replace hf := (if_pos c57).symm.trans hf
              cases hf
              cases (show x14 = x16 from hK2)
              exact K2 H_22 lo_22 I_22 ls_23 (lv_sub hl_23 [0, 1, 2, 3] rfl)
            · replace hf := (if_neg c57).symm.trans hf
              refine lv_iload hx hb dX12_ringsOf_26 (lv_at hl_23 4 rfl) ?_
              refine lv_iconst (v := (1 : Int32)) hx hb dX12_ringsOf_28 (by decide) ?_
              refine lv_iadd hx hb dX12_ringsOf_29 ?_
              refine lv_topi (fun x25 ex25 => ?_)
              replace hf := nm_some ex25 hf
              refine lv_istore (lv' := [(5, .int x25), (0, .ref (ad 0)), (1, .int a0), (2, .int x14), (3, .int x4), (4, .int x15)]) hx hb dX12_ringsOf_30 hl_23 (by decide) rfl (fun ls_26 hl_26 => ?_)
              obtain ⟨x29, hq3, hf⟩ := bd_some hf
              have K3 : ∀ (H : Heap) (locs : List Loc), sInv D (mT cI cJ cD) (mW ad cI cJ cD) A s H locs (G, E, Dd) → ∀ (ls : Array Slot), lv_has ls 6 [(0, .ref (ad 0)), (1, .int a0), (2, .int x29), (3, .int x4), (4, .int x15)] → W p l e R s m args below meth c H locs 0 0 Q (F0 m 81 ls []) := by
                intro H_30 lo_30 I_30 ls_31 hl_31
                obtain ⟨x33, ex33⟩ : ∃ y : Int32, y = x15 + (1 : Int32) := ⟨_, rfl⟩
                replace hf := nm_some ex33 hf
                refine lv_iinc (v := x33) (lv' := [(4, .int x33), (0, .ref (ad 0)), (1, .int a0), (2, .int x29), (3, .int x4)]) hx hb dX12_ringsOf_81 hl_31 (k := 4) rfl (by rw [ex33]; rfl) (by decide) rfl (fun ls_34 hl_34 => ?_)
                refine lv_goto (tgt := 17) hx hb dX12_ringsOf_84 (by decide) ?_
                cases hf
                exact ih2 _ _ hK2 H_30 lo_30 I_30 ls_34 (lv_sub hl_34 [1, 2, 3, 4, 0] rfl)
              have L3 : ∀ (n : Nat) (x27 : Int32) (x28 : Int32), lp (fun q => M_ringsOf_s3 a0 x4 x15 G q.1 q.2) n (x27, x28) = some x29 → ∀ (H : Heap) (locs : List Loc), sInv D (mT cI cJ cD) (mW ad cI cJ cD) A s H locs (G, E, Dd) → ∀ (ls : Array Slot), lv_has ls 6 [(0, .ref (ad 0)), (1, .int a0), (2, .int x27), (3, .int x4), (4, .int x15), (5, .int x28)] → W p l e R s m args below meth c H locs 0 0 Q (F0 m 32 ls []) := by
                intro n
                induction n with
                | zero => intro x27 x28 hq; exact (lp_0 hq).elim
                | succ n ih3 =>
                  intro x27 x28 hq H_35 lo_35 I_35 ls_36 hl_36
                  obtain ⟨y3, hf, hK3⟩ := lp_go hq
                  replace hf : M_ringsOf_s3 a0 x4 x15 G x27 x28 = some y3 := hf
                  unfold M_ringsOf_s3 at hf
                  refine lv_iload hx hb dX12_ringsOf_32 (lv_at hl_36 5 rfl) ?_
                  refine lv_aload_n hx hb dX12_ringsOf_34 rfl (lv_at hl_36 0 rfl) ?_
                  refine mgtX12_92_0 F I_35 dX12_ringsOf_35 ?_
                  refine lv_icmp_ge (tgt := 81) hx hb dX12_ringsOf_38 (by decide) (fun c56 => ?_) (fun c56 => ?_)
                  · replace hf := (if_pos c56).symm.trans hf
                    cases hf
                    cases (show x27 = x29 from hK3)
                    exact K3 H_35 lo_35 I_35 ls_36 (lv_sub hl_36 [0, 1, 2, 3, 4] rfl)
                  · replace hf := (if_neg c56).symm.trans hf
                    refine lv_iload_n hx hb dX12_ringsOf_41 rfl (lv_at hl_36 2 rfl) ?_
                    refine lv_aload_n hx hb dX12_ringsOf_42 rfl (lv_at hl_36 0 rfl) ?_
                    refine lv_iload_n hx hb dX12_ringsOf_43 rfl (lv_at hl_36 1 rfl) ?_
                    refine lv_iload_n hx hb dX12_ringsOf_44 rfl (lv_at hl_36 3 rfl) ?_
                    refine lv_iload hx hb dX12_ringsOf_45 (lv_at hl_36 4 rfl) ?_
                    refine lv_iload hx hb dX12_ringsOf_47 (lv_at hl_36 5 rfl) ?_
                    obtain ⟨r38, h39, hf⟩ := bd_some hf
                    refine s_callVi (As := [.int a0, .int x4, .int x15, .int x28]) (rest := [.int x27]) F I_35 (cM_isRound G E Dd a0 x4 x15 x28 r38 h39) kX12_296 ⟨rfl, rfl⟩ ⟨Nat.le_trans (Nat.le_of_ble_eq_true rfl) hRf, Nat.le_trans (Nat.le_of_ble_eq_true rfl) hRl⟩ (0) 12 rfl rfl rfl rfl rfl hl_36.1 (Nat.le_of_ble_eq_true rfl) ⟨Nat.zero_le _, Nat.zero_le _⟩ dX12_ringsOf_49 ?_
                    intro H_40 lo_40 I_40
                    obtain ⟨x42, hv50, hf⟩ := bd_some hf
                    have J41 : ∀ (H : Heap) (locs : List Loc), sInv D (mT cI cJ cD) (mW ad cI cJ cD) A s H locs (G, E, Dd) → ∀ (ls : Array Slot), lv_has ls 6 [(0, .ref (ad 0)), (1, .int a0), (3, .int x4), (4, .int x15), (5, .int x28)] → W p l e R s m args below meth c H locs 0 0 Q (F0 m 73 ls [.int x42, .int x27]) := by
                      intro H_43 lo_43 I_43 ls_44 hl_44
                      refine lv_iadd hx hb dX12_ringsOf_73 ?_
                      refine lv_topi (fun x46 ex46 => ?_)
                      replace hf := nm_some ex46 hf
                      refine lv_istore_n (lv' := [(2, .int x46), (0, .ref (ad 0)), (1, .int a0), (3, .int x4), (4, .int x15), (5, .int x28)]) hx hb dX12_ringsOf_74 rfl hl_44 (by decide) rfl (fun ls_47 hl_47 => ?_)
                      obtain ⟨x48, ex48⟩ : ∃ y : Int32, y = x28 + (1 : Int32) := ⟨_, rfl⟩
                      replace hf := nm_some ex48 hf
                      refine lv_iinc (v := x48) (lv' := [(5, .int x48), (2, .int x46), (0, .ref (ad 0)), (1, .int a0), (3, .int x4), (4, .int x15)]) hx hb dX12_ringsOf_75 hl_47 (k := 5) rfl (by rw [ex48]; rfl) (by decide) rfl (fun ls_49 hl_49 => ?_)
                      refine lv_goto (tgt := 32) hx hb dX12_ringsOf_78 (by decide) ?_
                      cases hf
                      exact ih3 _ _ hK3 H_43 lo_43 I_43 ls_49 (lv_sub hl_49 [2, 3, 1, 4, 5, 0] rfl)
                    replace hf := hv50
                    refine lv_if_ne (tgt := 68) hx hb dX12_ringsOf_52 (by decide) (fun c55 => ?_) (fun c55 => ?_)
                    · replace hf := (if_neg c55).symm.trans hf
                      refine lv_iconst (v := (1 : Int32)) hx hb dX12_ringsOf_68 (by decide) ?_
                      refine lv_goto (tgt := 73) hx hb dX12_ringsOf_69 (by decide) ?_
                      cases hf
                      exact J41 H_40 lo_40 I_40 ls_36 (lv_sub hl_36 [0, 1, 3, 4, 5] rfl)
                    · replace hf := (if_pos c55).symm.trans hf
                      refine lv_aload_n hx hb dX12_ringsOf_55 rfl (lv_at hl_36 0 rfl) ?_
                      refine lv_iload_n hx hb dX12_ringsOf_56 rfl (lv_at hl_36 1 rfl) ?_
                      refine lv_iload hx hb dX12_ringsOf_57 (lv_at hl_36 5 rfl) ?_
                      refine lv_iload hx hb dX12_ringsOf_59 (lv_at hl_36 4 rfl) ?_
                      refine lv_iload_n hx hb dX12_ringsOf_61 rfl (lv_at hl_36 3 rfl) ?_
                      obtain ⟨r51, h52, hf⟩ := bd_some hf
                      refine s_callVi (As := [.int a0, .int x28, .int x15, .int x4]) (rest := [.int x27]) F I_40 (cM_isRound G E Dd a0 x28 x15 x4 r51 h52) kX12_296 ⟨rfl, rfl⟩ ⟨Nat.le_trans (Nat.le_of_ble_eq_true rfl) hRf, Nat.le_trans (Nat.le_of_ble_eq_true rfl) hRl⟩ (0) 12 rfl rfl rfl rfl rfl hl_36.1 (Nat.le_of_ble_eq_true rfl) ⟨Nat.zero_le _, Nat.zero_le _⟩ dX12_ringsOf_62 ?_
                      intro H_53 lo_53 I_53
                      refine lv_if_eq (tgt := 72) hx hb dX12_ringsOf_65 (by decide) (fun c54 => ?_) (fun c54 => ?_)
                      · replace hf := (if_pos c54).symm.trans hf
                        refine lv_iconst (v := (0 : Int32)) hx hb dX12_ringsOf_72 (by decide) ?_
                        cases hf
                        exact J41 H_53 lo_53 I_53 ls_36 (lv_sub hl_36 [0, 1, 3, 4, 5] rfl)
                      · replace hf := (if_neg c54).symm.trans hf
                        refine lv_iconst (v := (1 : Int32)) hx hb dX12_ringsOf_68 (by decide) ?_
                        refine lv_goto (tgt := 73) hx hb dX12_ringsOf_69 (by decide) ?_
                        cases hf
                        exact J41 H_53 lo_53 I_53 ls_36 (lv_sub hl_36 [0, 1, 3, 4, 5] rfl)
              exact L3 FU _ _ hq3 H_22 lo_22 I_22 ls_26 (lv_sub hl_26 [1, 2, 3, 4, 5, 0] rfl)
        exact L2 FU _ _ hq2 H_9 lo_9 I_9 ls_13 (lv_sub hl_13 [1, 2, 3, 4, 0] rfl)
  exact L1 FU _ _ hq1 H lo I ls_2 (lv_sub hl_2 [2, 3, 1, 0] rfl)
def M_stables_s1 (G : Nat → Nat → Int32) (x3 : Int32) (x4 : Int32) : Option ((Int32 × Int32) ⊕ (Int32)) :=
if G 1 0 ≤ x4 then
(some (.inr x3))
else
(bd (M_isStable G x4) fun r12 =>
bd (if r12 = 0 then
(some (0 : Int32))
else
(some (1 : Int32))) fun x16 =>
nm (x3 + x16 : Int32) fun x20 =>
nm (x4 + (1 : Int32) : Int32) fun x22 =>
some (.inl (x20, x22)))
def M_stables (G : Nat → Nat → Int32) : Option (Int32) :=
bd (lp (fun q => M_stables_s1 G q.1 q.2) FU ((0 : Int32), (0 : Int32))) fun x5 =>
some x5
set_option maxRecDepth 100000 in
set_option maxHeartbeats 4000000 in
theorem cM_stables (G : Nat → Nat → Int32) (E : Nat → Nat → Int64) (Dd : Nat → Nat → UInt64)  (rv : Int32)  (hf : M_stables G = some rv) : sMi D (mT cI cJ cD) (mW ad cI cJ cD) l yX12_stables (ws1 yX12_stables cX12_stables 3 (some .int)) ({ frames := 4, cells := 0, slots := 0, locals := 96 }) [.ref (ad 0)] (G, E, Dd) (rv, (G, E, Dd)) := by
  unfold M_stables at hf
  refine sMi_of (by decide) (Nat.le_of_ble_eq_true rfl) ?_
  intro p e R s m args below meth c A Q ls H lo F hRf hRl I hl ret
  obtain ⟨hx, hb, hml, hown, hG⟩ := id F
  replace hl : lv_has ls 3 [(0, .ref (ad 0))] := hl
  refine lv_iconst (v := (0 : Int32)) hx hb dX12_stables_0 (by decide) ?_
  refine lv_istore_n (lv' := [(1, .int (0 : Int32)), (0, .ref (ad 0))]) hx hb dX12_stables_1 rfl hl (by decide) rfl (fun ls_1 hl_1 => ?_)
  refine lv_iconst (v := (0 : Int32)) hx hb dX12_stables_2 (by decide) ?_
  refine lv_istore_n (lv' := [(2, .int (0 : Int32)), (1, .int (0 : Int32)), (0, .ref (ad 0))]) hx hb dX12_stables_3 rfl hl_1 (by decide) rfl (fun ls_2 hl_2 => ?_)
  obtain ⟨x5, hq1, hf⟩ := bd_some hf
  have K1 : ∀ (H : Heap) (locs : List Loc), sInv D (mT cI cJ cD) (mW ad cI cJ cD) A s H locs (G, E, Dd) → ∀ (ls : Array Slot), lv_has ls 3 [(1, .int x5)] → W p l e R s m args below meth c H locs 0 0 Q (F0 m 34 ls []) := by
    intro H_6 lo_6 I_6 ls_7 hl_7
    refine lv_iload_n hx hb dX12_stables_34 rfl (lv_at hl_7 0 rfl) ?_
    cases hf
    exact ret H_6 lo_6 _ ls_7 I_6 dX12_stables_35
  have L1 : ∀ (n : Nat) (x3 : Int32) (x4 : Int32), lp (fun q => M_stables_s1 G q.1 q.2) n (x3, x4) = some x5 → ∀ (H : Heap) (locs : List Loc), sInv D (mT cI cJ cD) (mW ad cI cJ cD) A s H locs (G, E, Dd) → ∀ (ls : Array Slot), lv_has ls 3 [(0, .ref (ad 0)), (1, .int x3), (2, .int x4)] → W p l e R s m args below meth c H locs 0 0 Q (F0 m 4 ls []) := by
    intro n
    induction n with
    | zero => intro x3 x4 hq; exact (lp_0 hq).elim
    | succ n ih1 =>
      intro x3 x4 hq H_9 lo_9 I_9 ls_10 hl_10
      obtain ⟨y1, hf, hK1⟩ := lp_go hq
      replace hf : M_stables_s1 G x3 x4 = some y1 := hf
      unfold M_stables_s1 at hf
      refine lv_iload_n hx hb dX12_stables_4 rfl (lv_at hl_10 2 rfl) ?_
      refine lv_aload_n hx hb dX12_stables_5 rfl (lv_at hl_10 0 rfl) ?_
      refine mgtX12_92_0 F I_9 dX12_stables_6 ?_
      refine lv_icmp_ge (tgt := 34) hx hb dX12_stables_9 (by decide) (fun c26 => ?_) (fun c26 => ?_)
      · replace hf := (if_pos c26).symm.trans hf
        cases hf
        cases (show x3 = x5 from hK1)
        exact K1 H_9 lo_9 I_9 ls_10 (lv_sub hl_10 [1] rfl)
      · replace hf := (if_neg c26).symm.trans hf
        refine lv_iload_n hx hb dX12_stables_12 rfl (lv_at hl_10 1 rfl) ?_
        refine lv_aload_n hx hb dX12_stables_13 rfl (lv_at hl_10 0 rfl) ?_
        refine lv_iload_n hx hb dX12_stables_14 rfl (lv_at hl_10 2 rfl) ?_
        obtain ⟨r12, h13, hf⟩ := bd_some hf
        refine s_callVi (As := [.int x4]) (rest := [.int x3]) F I_9 (cM_isStable G E Dd x4 r12 h13) kX12_278 ⟨rfl, rfl⟩ ⟨Nat.le_trans (Nat.le_of_ble_eq_true rfl) hRf, Nat.le_trans (Nat.le_of_ble_eq_true rfl) hRl⟩ (0) 12 rfl rfl rfl rfl rfl hl_10.1 (Nat.le_of_ble_eq_true rfl) ⟨Nat.zero_le _, Nat.zero_le _⟩ dX12_stables_15 ?_
        intro H_14 lo_14 I_14
        obtain ⟨x16, hv24, hf⟩ := bd_some hf
        have J15 : ∀ (H : Heap) (locs : List Loc), sInv D (mT cI cJ cD) (mW ad cI cJ cD) A s H locs (G, E, Dd) → ∀ (ls : Array Slot), lv_has ls 3 [(0, .ref (ad 0)), (2, .int x4)] → W p l e R s m args below meth c H locs 0 0 Q (F0 m 26 ls [.int x16, .int x3]) := by
          intro H_17 lo_17 I_17 ls_18 hl_18
          refine lv_iadd hx hb dX12_stables_26 ?_
          refine lv_topi (fun x20 ex20 => ?_)
          replace hf := nm_some ex20 hf
          refine lv_istore_n (lv' := [(1, .int x20), (0, .ref (ad 0)), (2, .int x4)]) hx hb dX12_stables_27 rfl hl_18 (by decide) rfl (fun ls_21 hl_21 => ?_)
          obtain ⟨x22, ex22⟩ : ∃ y : Int32, y = x4 + (1 : Int32) := ⟨_, rfl⟩
          replace hf := nm_some ex22 hf
          refine lv_iinc (v := x22) (lv' := [(2, .int x22), (1, .int x20), (0, .ref (ad 0))]) hx hb dX12_stables_28 hl_21 (k := 2) rfl (by rw [ex22]; rfl) (by decide) rfl (fun ls_23 hl_23 => ?_)
          refine lv_goto (tgt := 4) hx hb dX12_stables_31 (by decide) ?_
          cases hf
          exact ih1 _ _ hK1 H_17 lo_17 I_17 ls_23 (lv_sub hl_23 [2, 1, 0] rfl)
        replace hf := hv24
        refine lv_if_eq (tgt := 25) hx hb dX12_stables_18 (by decide) (fun c25 => ?_) (fun c25 => ?_)
        · replace hf := (if_pos c25).symm.trans hf
          refine lv_iconst (v := (0 : Int32)) hx hb dX12_stables_25 (by decide) ?_
          cases hf
          exact J15 H_14 lo_14 I_14 ls_10 (lv_sub hl_10 [0, 2] rfl)
        · replace hf := (if_neg c25).symm.trans hf
          refine lv_iconst (v := (1 : Int32)) hx hb dX12_stables_21 (by decide) ?_
          refine lv_goto (tgt := 26) hx hb dX12_stables_22 (by decide) ?_
          cases hf
          exact J15 H_14 lo_14 I_14 ls_10 (lv_sub hl_10 [0, 2] rfl)
  exact L1 FU _ _ hq1 H lo I ls_2 (lv_sub hl_2 [2, 1, 0] rfl)
def M_summaryNow (G : Nat → Nat → Int32) (a0 : Int32) : Option (Int32 × (Nat → Nat → Int32)) :=
bd (M_layMargins G) fun G1 =>
bd (M_layOrders G1) fun G4 =>
if a0 = (0 : Int32) then
(ri 256 (((1 : Int32) <<< ((G4 1 0) &&& 31)) - (1 : Int32)) <|
some (G4 30 (((1 : Int32) <<< ((G4 1 0) &&& 31)) - (1 : Int32)).toNatClampNeg, G4))
else if a0 = (1 : Int32) then
(ri 256 (((1 : Int32) <<< ((G4 1 0) &&& 31)) - (1 : Int32)) <|
some (G4 31 (((1 : Int32) <<< ((G4 1 0) &&& 31)) - (1 : Int32)).toNatClampNeg, G4))
else if a0 = (2 : Int32) then
(bd (M_layerOf G4 (-1 : Int32)) fun r12 =>
some (r12, G4))
else if a0 = (3 : Int32) then
(bd (M_topOf G4 (((1 : Int32) <<< ((G4 1 0) &&& 31)) - (1 : Int32))) fun r16 =>
some (r16, G4))
else if a0 = (4 : Int32) then
(bd (M_ringsOf G4 (-1 : Int32)) fun r20 =>
some (r20, G4))
else (bd (M_stables G4) fun r23 =>
some (r23, G4))
set_option maxRecDepth 100000 in
set_option maxHeartbeats 4000000 in
theorem cM_summaryNow (G : Nat → Nat → Int32) (E : Nat → Nat → Int64) (Dd : Nat → Nat → UInt64) (a0 : Int32) (rv : Int32) (newG : Nat → Nat → Int32) (hf : M_summaryNow G a0 = some (rv, newG)) : sMi D (mT cI cJ cD) (mW ad cI cJ cD) l yX12_summaryNow (ws1 yX12_summaryNow cX12_summaryNow 2 (some .int)) ({ frames := 6, cells := 0, slots := 0, locals := 145 }) [.ref (ad 0), .int a0] (G, E, Dd) (rv, (newG, E, Dd)) := by
  unfold M_summaryNow at hf
  refine sMi_of (by decide) (Nat.le_of_ble_eq_true rfl) ?_
  intro p e R s m args below meth c A Q ls H lo F hRf hRl I hl ret
  obtain ⟨hx, hb, hml, hown, hG⟩ := id F
  replace hl : lv_has ls 2 [(0, .ref (ad 0)), (1, .int a0)] := hl
  refine lv_aload_n hx hb dX12_summaryNow_0 rfl (lv_at hl 0 rfl) ?_
  obtain ⟨G1, h2, hf⟩ := bd_some hf
  refine s_callVv (As := []) (rest := []) F I (cM_layMargins G E Dd G1 h2) kX12_272 ⟨rfl, rfl⟩ ⟨Nat.le_trans (Nat.le_of_ble_eq_true rfl) hRf, Nat.le_trans (Nat.le_of_ble_eq_true rfl) hRl⟩ (0) 12 rfl rfl rfl rfl rfl hl.1 (Nat.le_of_ble_eq_true rfl) ⟨Nat.zero_le _, Nat.zero_le _⟩ dX12_summaryNow_1 ?_
  intro H_3 lo_3 I_3
  refine lv_aload_n hx hb dX12_summaryNow_4 rfl (lv_at hl 0 rfl) ?_
  obtain ⟨G4, h5, hf⟩ := bd_some hf
  refine s_callVv (As := []) (rest := []) F I_3 (cM_layOrders G1 E Dd G4 h5) kX12_275 ⟨rfl, rfl⟩ ⟨Nat.le_trans (Nat.le_of_ble_eq_true rfl) hRf, Nat.le_trans (Nat.le_of_ble_eq_true rfl) hRl⟩ (0) 12 rfl rfl rfl rfl rfl hl.1 (Nat.le_of_ble_eq_true rfl) ⟨Nat.zero_le _, Nat.zero_le _⟩ dX12_summaryNow_5 ?_
  intro H_6 lo_6 I_6
  refine lv_iload_n hx hb dX12_summaryNow_8 rfl (lv_at hl 1 rfl) ?_
  by_cases c7 : a0 = (0 : Int32)
  · replace hf := (if_pos c7).symm.trans hf
    refine lv_tableIn (off := 35) (tgt := 44) hx hb dX12_summaryNow_9 (by rw [c7]; decide) (by rw [c7]; decide) (by rw [c7]; rfl) (by decide) ?_
    refine lv_aload_n hx hb dX12_summaryNow_44 rfl (lv_at hl 0 rfl) ?_
    refine mgtX12_59_0 F I_6 dX12_summaryNow_45 ?_
    refine lv_iconst (v := (1 : Int32)) hx hb dX12_summaryNow_48 (by decide) ?_
    refine lv_aload_n hx hb dX12_summaryNow_49 rfl (lv_at hl 0 rfl) ?_
    refine mgtX12_92_0 F I_6 dX12_summaryNow_50 ?_
    refine lv_ishl hx hb dX12_summaryNow_53 ?_
    refine lv_iconst (v := (1 : Int32)) hx hb dX12_summaryNow_54 (by decide) ?_
    refine lv_isub hx hb dX12_summaryNow_55 ?_
    obtain ⟨g8, hf⟩ := ri_some hf
    refine mal16 F I_6 g8 dX12_summaryNow_56 ?_
    cases hf
    exact ret H_6 lo_6 _ ls I_6 dX12_summaryNow_57
  replace hf := (if_neg c7).symm.trans hf
  by_cases c9 : a0 = (1 : Int32)
  · replace hf := (if_pos c9).symm.trans hf
    refine lv_tableIn (off := 49) (tgt := 58) hx hb dX12_summaryNow_9 (by rw [c9]; decide) (by rw [c9]; decide) (by rw [c9]; rfl) (by decide) ?_
    refine lv_aload_n hx hb dX12_summaryNow_58 rfl (lv_at hl 0 rfl) ?_
    refine mgtX12_62_0 F I_6 dX12_summaryNow_59 ?_
    refine lv_iconst (v := (1 : Int32)) hx hb dX12_summaryNow_62 (by decide) ?_
    refine lv_aload_n hx hb dX12_summaryNow_63 rfl (lv_at hl 0 rfl) ?_
    refine mgtX12_92_0 F I_6 dX12_summaryNow_64 ?_
    refine lv_ishl hx hb dX12_summaryNow_67 ?_
    refine lv_iconst (v := (1 : Int32)) hx hb dX12_summaryNow_68 (by decide) ?_
    refine lv_isub hx hb dX12_summaryNow_69 ?_
    obtain ⟨g10, hf⟩ := ri_some hf
    refine mal17 F I_6 g10 dX12_summaryNow_70 ?_
    cases hf
    exact ret H_6 lo_6 _ ls I_6 dX12_summaryNow_71
  replace hf := (if_neg c9).symm.trans hf
  by_cases c11 : a0 = (2 : Int32)
  · replace hf := (if_pos c11).symm.trans hf
    refine lv_tableIn (off := 63) (tgt := 72) hx hb dX12_summaryNow_9 (by rw [c11]; decide) (by rw [c11]; decide) (by rw [c11]; rfl) (by decide) ?_
    refine lv_aload_n hx hb dX12_summaryNow_72 rfl (lv_at hl 0 rfl) ?_
    refine lv_iconst (v := (-1 : Int32)) hx hb dX12_summaryNow_73 (by decide) ?_
    obtain ⟨r12, h13, hf⟩ := bd_some hf
    refine s_callVi (As := [.int (-1 : Int32)]) (rest := []) F I_6 (cM_layerOf G4 E Dd (-1 : Int32) r12 h13) kX12_284 ⟨rfl, rfl⟩ ⟨Nat.le_trans (Nat.le_of_ble_eq_true rfl) hRf, Nat.le_trans (Nat.le_of_ble_eq_true rfl) hRl⟩ (0) 12 rfl rfl rfl rfl rfl hl.1 (Nat.le_of_ble_eq_true rfl) ⟨Nat.zero_le _, Nat.zero_le _⟩ dX12_summaryNow_74 ?_
    intro H_14 lo_14 I_14
    cases hf
    exact ret H_14 lo_14 _ ls I_14 dX12_summaryNow_77
  replace hf := (if_neg c11).symm.trans hf
  by_cases c15 : a0 = (3 : Int32)
  · replace hf := (if_pos c15).symm.trans hf
    refine lv_tableIn (off := 69) (tgt := 78) hx hb dX12_summaryNow_9 (by rw [c15]; decide) (by rw [c15]; decide) (by rw [c15]; rfl) (by decide) ?_
    refine lv_aload_n hx hb dX12_summaryNow_78 rfl (lv_at hl 0 rfl) ?_
    refine lv_iconst (v := (1 : Int32)) hx hb dX12_summaryNow_79 (by decide) ?_
    refine lv_aload_n hx hb dX12_summaryNow_80 rfl (lv_at hl 0 rfl) ?_
    refine mgtX12_92_0 F I_6 dX12_summaryNow_81 ?_
    refine lv_ishl hx hb dX12_summaryNow_84 ?_
    refine lv_iconst (v := (1 : Int32)) hx hb dX12_summaryNow_85 (by decide) ?_
    refine lv_isub hx hb dX12_summaryNow_86 ?_
    obtain ⟨r16, h17, hf⟩ := bd_some hf
    refine s_callVi (As := [.int (((1 : Int32) <<< ((G4 1 0) &&& 31)) - (1 : Int32))]) (rest := []) F I_6 (cM_topOf G4 E Dd (((1 : Int32) <<< ((G4 1 0) &&& 31)) - (1 : Int32)) r16 h17) kX12_259 ⟨rfl, rfl⟩ ⟨Nat.le_trans (Nat.le_of_ble_eq_true rfl) hRf, Nat.le_trans (Nat.le_of_ble_eq_true rfl) hRl⟩ (0) 12 rfl rfl rfl rfl rfl hl.1 (Nat.le_of_ble_eq_true rfl) ⟨Nat.zero_le _, Nat.zero_le _⟩ dX12_summaryNow_87 ?_
    intro H_18 lo_18 I_18
    cases hf
    exact ret H_18 lo_18 _ ls I_18 dX12_summaryNow_90
  replace hf := (if_neg c15).symm.trans hf
  by_cases c19 : a0 = (4 : Int32)
  · replace hf := (if_pos c19).symm.trans hf
    refine lv_tableIn (off := 82) (tgt := 91) hx hb dX12_summaryNow_9 (by rw [c19]; decide) (by rw [c19]; decide) (by rw [c19]; rfl) (by decide) ?_
    refine lv_aload_n hx hb dX12_summaryNow_91 rfl (lv_at hl 0 rfl) ?_
    refine lv_iconst (v := (-1 : Int32)) hx hb dX12_summaryNow_92 (by decide) ?_
    obtain ⟨r20, h21, hf⟩ := bd_some hf
    refine s_callVi (As := [.int (-1 : Int32)]) (rest := []) F I_6 (cM_ringsOf G4 E Dd (-1 : Int32) r20 h21) kX12_300 ⟨rfl, rfl⟩ ⟨Nat.le_trans (Nat.le_of_ble_eq_true rfl) hRf, Nat.le_trans (Nat.le_of_ble_eq_true rfl) hRl⟩ (0) 12 rfl rfl rfl rfl rfl hl.1 (Nat.le_of_ble_eq_true rfl) ⟨Nat.zero_le _, Nat.zero_le _⟩ dX12_summaryNow_93 ?_
    intro H_22 lo_22 I_22
    cases hf
    exact ret H_22 lo_22 _ ls I_22 dX12_summaryNow_96
  replace hf := (if_neg c19).symm.trans hf
  refine lv_tableOut (tgt := 97) hx hb dX12_summaryNow_9 (tsw4 c7 c9 c11 c15 c19) (by decide) ?_
  refine lv_aload_n hx hb dX12_summaryNow_97 rfl (lv_at hl 0 rfl) ?_
  obtain ⟨r23, h24, hf⟩ := bd_some hf
  refine s_callVi (As := []) (rest := []) F I_6 (cM_stables G4 E Dd r23 h24) kX12_303 ⟨rfl, rfl⟩ ⟨Nat.le_trans (Nat.le_of_ble_eq_true rfl) hRf, Nat.le_trans (Nat.le_of_ble_eq_true rfl) hRl⟩ (0) 12 rfl rfl rfl rfl rfl hl.1 (Nat.le_of_ble_eq_true rfl) ⟨Nat.zero_le _, Nat.zero_le _⟩ dX12_summaryNow_98 ?_
  intro H_25 lo_25 I_25
  cases hf
  exact ret H_25 lo_25 _ ls I_25 dX12_summaryNow_101
def M_summary (G : Nat → Nat → Int32) (a0 : Int32) : Option (Int32 × (Nat → Nat → Int32)) :=
bd (M_within a0 (0 : Int32) (5 : Int32)) fun r1 =>
bd (if r1 = 0 then
(some (1 : Int32))
else
(some (0 : Int32))) fun x5 =>
nm (wf G 0 x5) fun G9 =>
if G9 0 0 ≤ 0 then
(bd2 (M_summaryNow G9 a0) fun r11 G12 =>
some (r11, G12))
else
(some ((0 : Int32), G9))
set_option maxRecDepth 100000 in
set_option maxHeartbeats 4000000 in
theorem cM_summary (G : Nat → Nat → Int32) (E : Nat → Nat → Int64) (Dd : Nat → Nat → UInt64) (a0 : Int32) (rv : Int32) (newG : Nat → Nat → Int32) (hf : M_summary G a0 = some (rv, newG)) : sMi D (mT cI cJ cD) (mW ad cI cJ cD) l yX12_summary (ws1 yX12_summary cX12_summary 2 (some .int)) ({ frames := 7, cells := 0, slots := 0, locals := 166 }) [.ref (ad 0), .int a0] (G, E, Dd) (rv, (newG, E, Dd)) := by
  unfold M_summary at hf
  refine sMi_of (by decide) (Nat.le_of_ble_eq_true rfl) ?_
  intro p e R s m args below meth c A Q ls H lo F hRf hRl I hl ret
  obtain ⟨hx, hb, hml, hown, hG⟩ := id F
  replace hl : lv_has ls 2 [(0, .ref (ad 0)), (1, .int a0)] := hl
  refine lv_aload_n hx hb dX12_summary_0 rfl (lv_at hl 0 rfl) ?_
  refine lv_iload_n hx hb dX12_summary_1 rfl (lv_at hl 1 rfl) ?_
  refine lv_iconst (v := (0 : Int32)) hx hb dX12_summary_2 (by decide) ?_
  refine lv_iconst (v := (5 : Int32)) hx hb dX12_summary_3 (by decide) ?_
  obtain ⟨r1, h2, hf⟩ := bd_some hf
  refine s_callSi (As := [.int a0, .int (0 : Int32), .int (5 : Int32)]) (rest := [.ref (ad 0)]) F I (cM_within G E Dd a0 (0 : Int32) (5 : Int32) r1 h2) kX12_95 ⟨rfl, rfl⟩ ⟨Nat.le_trans (Nat.le_of_ble_eq_true rfl) hRf, Nat.le_trans (Nat.le_of_ble_eq_true rfl) hRl⟩ rfl rfl hl.1 (Nat.le_of_ble_eq_true rfl) ⟨Nat.zero_le _, Nat.zero_le _⟩ dX12_summary_4 ?_
  intro H_3 lo_3 I_3
  obtain ⟨x5, hv16, hf⟩ := bd_some hf
  have J4 : ∀ (H : Heap) (locs : List Loc), sInv D (mT cI cJ cD) (mW ad cI cJ cD) A s H locs (G, E, Dd) → ∀ (ls : Array Slot), lv_has ls 2 [(0, .ref (ad 0)), (1, .int a0)] → W p l e R s m args below meth c H locs 0 0 Q (F0 m 15 ls [.int x5, .ref (ad 0)]) := by
    intro H_6 lo_6 I_6 ls_7 hl_7
    refine mptX12_89_0 F I_6 dX12_summary_15 ?_
    intro H_10 lo_10 G9 eG9 I_10
    replace hf := nm_some eG9 hf
    refine lv_aload_n hx hb dX12_summary_18 rfl (lv_at hl_7 0 rfl) ?_
    refine mgtX12_89_0 F I_10 dX12_summary_19 ?_
    refine lv_if_le (tgt := 29) hx hb dX12_summary_22 (by decide) (fun c15 => ?_) (fun c15 => ?_)
    · replace hf := (if_pos c15).symm.trans hf
      refine lv_aload_n hx hb dX12_summary_29 rfl (lv_at hl_7 0 rfl) ?_
      refine lv_iload_n hx hb dX12_summary_30 rfl (lv_at hl_7 1 rfl) ?_
      obtain ⟨r11, G12, h13, hf⟩ := bd2_some hf
      refine s_callVi (As := [.int a0]) (rest := []) F I_10 (cM_summaryNow G9 E Dd a0 r11 G12 h13) kX12_306 ⟨rfl, rfl⟩ ⟨Nat.le_trans (Nat.le_of_ble_eq_true rfl) hRf, Nat.le_trans (Nat.le_of_ble_eq_true rfl) hRl⟩ (0) 12 rfl rfl rfl rfl rfl hl_7.1 (Nat.le_of_ble_eq_true rfl) ⟨Nat.zero_le _, Nat.zero_le _⟩ dX12_summary_31 ?_
      intro H_14 lo_14 I_14
      cases hf
      exact ret H_14 lo_14 _ ls_7 I_14 dX12_summary_34
    · replace hf := (if_neg c15).symm.trans hf
      refine lv_iconst (v := (0 : Int32)) hx hb dX12_summary_25 (by decide) ?_
      refine lv_goto (tgt := 34) hx hb dX12_summary_26 (by decide) ?_
      cases hf
      exact ret H_10 lo_10 _ ls_7 I_10 dX12_summary_34
  replace hf := hv16
  refine lv_if_eq (tgt := 14) hx hb dX12_summary_7 (by decide) (fun c17 => ?_) (fun c17 => ?_)
  · replace hf := (if_pos c17).symm.trans hf
    refine lv_iconst (v := (1 : Int32)) hx hb dX12_summary_14 (by decide) ?_
    cases hf
    exact J4 H_3 lo_3 I_3 ls (lv_sub hl [0, 1] rfl)
  · replace hf := (if_neg c17).symm.trans hf
    refine lv_iconst (v := (0 : Int32)) hx hb dX12_summary_10 (by decide) ?_
    refine lv_goto (tgt := 15) hx hb dX12_summary_11 (by decide) ?_
    cases hf
    exact J4 H_3 lo_3 I_3 ls (lv_sub hl [0, 1] rfl)
def M_without (G : Nat → Nat → Int32) (a0 : Int32) (a1 : Int32) (a2 : Int32) : Option (Int32 × (Nat → Nat → Int32)) :=
bd (M_isListener G a0) fun r1 =>
bd (if r1 = 0 then
(some (1 : Int32))
else
(if a1 = (-1 : Int32) then
(bd (M_within a2 (0 : Int32) (5 : Int32)) fun r39 =>
if r39 = 0 then
(some (2 : Int32))
else
(some (0 : Int32)))
else
(bd (M_isSample G a1) fun r43 =>
if r43 = 0 then
(some (1 : Int32))
else
(bd (M_within a2 (0 : Int32) (5 : Int32)) fun r46 =>
if r46 = 0 then
(some (2 : Int32))
else
(some (0 : Int32)))))) fun x5 =>
nm (wf G 0 x5) fun G9 =>
if G9 0 0 ≤ 0 then
(ri 8 a0 <|
nm (G9 3 a0.toNatClampNeg : Int32) fun x12 =>
ri 8 a0 <|
nm (wr G9 3 a0 (0 : Int32)) fun G15 =>
bd2 (if a1 = (-1 : Int32) then
(bd2 (M_summaryNow G15 a2) fun r32 G33 =>
some (r32, G33))
else
(bd2 (M_sampleNow G15 a1 a2) fun r28 G29 =>
some (r28, G29))) fun x18 G19 =>
ri 8 a0 <|
nm (wr G19 3 a0 x12) fun G25 =>
some (x18, G25))
else
(some ((0 : Int32), G9))
set_option maxRecDepth 100000 in
set_option maxHeartbeats 4000000 in
theorem cM_without (G : Nat → Nat → Int32) (E : Nat → Nat → Int64) (Dd : Nat → Nat → UInt64) (a0 : Int32) (a1 : Int32) (a2 : Int32) (rv : Int32) (newG : Nat → Nat → Int32) (hf : M_without G a0 a1 a2 = some (rv, newG)) : sMi D (mT cI cJ cD) (mW ad cI cJ cD) l yX12_without (ws1 yX12_without cX12_without 6 (some .int)) ({ frames := 7, cells := 0, slots := 0, locals := 166 }) [.ref (ad 0), .int a0, .int a1, .int a2] (G, E, Dd) (rv, (newG, E, Dd)) := by
  unfold M_without at hf
  refine sMi_of (by decide) (Nat.le_of_ble_eq_true rfl) ?_
  intro p e R s m args below meth c A Q ls H lo F hRf hRl I hl ret
  obtain ⟨hx, hb, hml, hown, hG⟩ := id F
  replace hl : lv_has ls 6 [(0, .ref (ad 0)), (1, .int a0), (2, .int a1), (3, .int a2)] := hl
  refine lv_aload_n hx hb dX12_without_0 rfl (lv_at hl 0 rfl) ?_
  refine lv_aload_n hx hb dX12_without_1 rfl (lv_at hl 0 rfl) ?_
  refine lv_iload_n hx hb dX12_without_2 rfl (lv_at hl 1 rfl) ?_
  obtain ⟨r1, h2, hf⟩ := bd_some hf
  refine s_callVi (As := [.int a0]) (rest := [.ref (ad 0)]) F I (cM_isListener G E Dd a0 r1 h2) kX12_114 ⟨rfl, rfl⟩ ⟨Nat.le_trans (Nat.le_of_ble_eq_true rfl) hRf, Nat.le_trans (Nat.le_of_ble_eq_true rfl) hRl⟩ (0) 12 rfl rfl rfl rfl rfl hl.1 (Nat.le_of_ble_eq_true rfl) ⟨Nat.zero_le _, Nat.zero_le _⟩ dX12_without_3 ?_
  intro H_3 lo_3 I_3
  obtain ⟨x5, hv38, hf⟩ := bd_some hf
  have J4 : ∀ (H : Heap) (locs : List Loc), sInv D (mT cI cJ cD) (mW ad cI cJ cD) A s H locs (G, E, Dd) → ∀ (ls : Array Slot), lv_has ls 6 [(0, .ref (ad 0)), (1, .int a0), (2, .int a1), (3, .int a2)] → W p l e R s m args below meth c H locs 0 0 Q (F0 m 40 ls [.int x5, .ref (ad 0)]) := by
    intro H_6 lo_6 I_6 ls_7 hl_7
    refine mptX12_89_0 F I_6 dX12_without_40 ?_
    intro H_10 lo_10 G9 eG9 I_10
    replace hf := nm_some eG9 hf
    refine lv_aload_n hx hb dX12_without_43 rfl (lv_at hl_7 0 rfl) ?_
    refine mgtX12_89_0 F I_10 dX12_without_44 ?_
    refine lv_if_le (tgt := 52) hx hb dX12_without_47 (by decide) (fun c37 => ?_) (fun c37 => ?_)
    · replace hf := (if_pos c37).symm.trans hf
      refine lv_aload_n hx hb dX12_without_52 rfl (lv_at hl_7 0 rfl) ?_
      refine mgtX12_7_0 F I_10 dX12_without_53 ?_
      refine lv_iload_n hx hb dX12_without_56 rfl (lv_at hl_7 1 rfl) ?_
      obtain ⟨g11, hf⟩ := ri_some hf
      refine mal1 F I_10 g11 dX12_without_57 ?_
      refine lv_topi (fun x12 ex12 => ?_)
      replace hf := nm_some ex12 hf
      refine lv_istore (lv' := [(4, .int x12), (0, .ref (ad 0)), (1, .int a0), (2, .int a1), (3, .int a2)]) hx hb dX12_without_58 hl_7 (by decide) rfl (fun ls_13 hl_13 => ?_)
      refine lv_aload_n hx hb dX12_without_60 rfl (lv_at hl_13 1 rfl) ?_
      refine mgtX12_7_0 F I_10 dX12_without_61 ?_
      refine lv_iload_n hx hb dX12_without_64 rfl (lv_at hl_13 2 rfl) ?_
      refine lv_iconst (v := (0 : Int32)) hx hb dX12_without_65 (by decide) ?_
      obtain ⟨g14, hf⟩ := ri_some hf
      refine mas1 F I_10 g14 dX12_without_66 ?_
      intro H_16 lo_16 G15 eG15 I_16
      replace hf := nm_some eG15 hf
      refine lv_iload_n hx hb dX12_without_67 rfl (lv_at hl_13 3 rfl) ?_
      refine lv_iconst (v := (-1 : Int32)) hx hb dX12_without_68 (by decide) ?_
      obtain ⟨x18, G19, hv27, hf⟩ := bd2_some hf
      have J17 : ∀ (H : Heap) (locs : List Loc), sInv D (mT cI cJ cD) (mW ad cI cJ cD) A s H locs (G19, E, Dd) → ∀ (ls : Array Slot), lv_has ls 6 [(0, .ref (ad 0)), (1, .int a0), (4, .int x12)] → W p l e R s m args below meth c H locs 0 0 Q (F0 m 86 ls [.int x18]) := by
        intro H_20 lo_20 I_20 ls_21 hl_21
        refine lv_istore (lv' := [(5, .int x18), (0, .ref (ad 0)), (1, .int a0), (4, .int x12)]) hx hb dX12_without_86 hl_21 (by decide) rfl (fun ls_23 hl_23 => ?_)
        refine lv_aload_n hx hb dX12_without_88 rfl (lv_at hl_23 1 rfl) ?_
        refine mgtX12_7_0 F I_20 dX12_without_89 ?_
        refine lv_iload_n hx hb dX12_without_92 rfl (lv_at hl_23 2 rfl) ?_
        refine lv_iload hx hb dX12_without_93 (lv_at hl_23 3 rfl) ?_
        obtain ⟨g24, hf⟩ := ri_some hf
        refine mas1 F I_20 g24 dX12_without_95 ?_
        intro H_26 lo_26 G25 eG25 I_26
        replace hf := nm_some eG25 hf
        refine lv_iload hx hb dX12_without_96 (lv_at hl_23 0 rfl) ?_
        cases hf
        exact ret H_26 lo_26 _ ls_23 I_26 dX12_without_98
      replace hf := hv27
      refine lv_icmp_ne (tgt := 80) hx hb dX12_without_69 (by decide) (fun c36 => ?_) (fun c36 => ?_)
      · replace hf := (if_neg c36).symm.trans hf
        refine lv_aload_n hx hb dX12_without_80 rfl (lv_at hl_13 1 rfl) ?_
        refine lv_iload_n hx hb dX12_without_81 rfl (lv_at hl_13 3 rfl) ?_
        refine lv_iload_n hx hb dX12_without_82 rfl (lv_at hl_13 4 rfl) ?_
        obtain ⟨r28, G29, h30, hf⟩ := bd2_some hf
        refine s_callVi (As := [.int a1, .int a2]) (rest := []) F I_16 (cM_sampleNow G15 E Dd a1 a2 r28 G29 h30) kX12_290 ⟨rfl, rfl⟩ ⟨Nat.le_trans (Nat.le_of_ble_eq_true rfl) hRf, Nat.le_trans (Nat.le_of_ble_eq_true rfl) hRl⟩ (0) 12 rfl rfl rfl rfl rfl hl_13.1 (Nat.le_of_ble_eq_true rfl) ⟨Nat.zero_le _, Nat.zero_le _⟩ dX12_without_83 ?_
        intro H_31 lo_31 I_31
        cases hf
        exact J17 H_31 lo_31 I_31 ls_13 (lv_sub hl_13 [1, 2, 0] rfl)
      · replace hf := (if_pos c36).symm.trans hf
        refine lv_aload_n hx hb dX12_without_72 rfl (lv_at hl_13 1 rfl) ?_
        refine lv_iload_n hx hb dX12_without_73 rfl (lv_at hl_13 4 rfl) ?_
        obtain ⟨r32, G33, h34, hf⟩ := bd2_some hf
        refine s_callVi (As := [.int a2]) (rest := []) F I_16 (cM_summaryNow G15 E Dd a2 r32 G33 h34) kX12_306 ⟨rfl, rfl⟩ ⟨Nat.le_trans (Nat.le_of_ble_eq_true rfl) hRf, Nat.le_trans (Nat.le_of_ble_eq_true rfl) hRl⟩ (0) 12 rfl rfl rfl rfl rfl hl_13.1 (Nat.le_of_ble_eq_true rfl) ⟨Nat.zero_le _, Nat.zero_le _⟩ dX12_without_74 ?_
        intro H_35 lo_35 I_35
        refine lv_goto (tgt := 86) hx hb dX12_without_77 (by decide) ?_
        cases hf
        exact J17 H_35 lo_35 I_35 ls_13 (lv_sub hl_13 [1, 2, 0] rfl)
    · replace hf := (if_neg c37).symm.trans hf
      refine lv_iconst (v := (0 : Int32)) hx hb dX12_without_50 (by decide) ?_
      cases hf
      exact ret H_10 lo_10 _ ls_7 I_10 dX12_without_51
  replace hf := hv38
  refine lv_if_eq (tgt := 22) hx hb dX12_without_6 (by decide) (fun c52 => ?_) (fun c52 => ?_)
  · replace hf := (if_pos c52).symm.trans hf
    refine lv_iconst (v := (1 : Int32)) hx hb dX12_without_22 (by decide) ?_
    refine lv_goto (tgt := 40) hx hb dX12_without_23 (by decide) ?_
    cases hf
    exact J4 H_3 lo_3 I_3 ls (lv_sub hl [0, 1, 2, 3] rfl)
  · replace hf := (if_neg c52).symm.trans hf
    refine lv_iload_n hx hb dX12_without_9 rfl (lv_at hl 2 rfl) ?_
    refine lv_iconst (v := (-1 : Int32)) hx hb dX12_without_10 (by decide) ?_
    refine lv_icmp_eq (tgt := 26) hx hb dX12_without_11 (by decide) (fun c51 => ?_) (fun c51 => ?_)
    · replace hf := (if_pos c51).symm.trans hf
      refine lv_iload_n hx hb dX12_without_26 rfl (lv_at hl 3 rfl) ?_
      refine lv_iconst (v := (0 : Int32)) hx hb dX12_without_27 (by decide) ?_
      refine lv_iconst (v := (5 : Int32)) hx hb dX12_without_28 (by decide) ?_
      obtain ⟨r39, h40, hf⟩ := bd_some hf
      refine s_callSi (As := [.int a2, .int (0 : Int32), .int (5 : Int32)]) (rest := [.ref (ad 0)]) F I_3 (cM_within G E Dd a2 (0 : Int32) (5 : Int32) r39 h40) kX12_95 ⟨rfl, rfl⟩ ⟨Nat.le_trans (Nat.le_of_ble_eq_true rfl) hRf, Nat.le_trans (Nat.le_of_ble_eq_true rfl) hRl⟩ rfl rfl hl.1 (Nat.le_of_ble_eq_true rfl) ⟨Nat.zero_le _, Nat.zero_le _⟩ dX12_without_29 ?_
      intro H_41 lo_41 I_41
      refine lv_if_eq (tgt := 39) hx hb dX12_without_32 (by decide) (fun c42 => ?_) (fun c42 => ?_)
      · replace hf := (if_pos c42).symm.trans hf
        refine lv_iconst (v := (2 : Int32)) hx hb dX12_without_39 (by decide) ?_
        cases hf
        exact J4 H_41 lo_41 I_41 ls (lv_sub hl [0, 1, 2, 3] rfl)
      · replace hf := (if_neg c42).symm.trans hf
        refine lv_iconst (v := (0 : Int32)) hx hb dX12_without_35 (by decide) ?_
        refine lv_goto (tgt := 40) hx hb dX12_without_36 (by decide) ?_
        cases hf
        exact J4 H_41 lo_41 I_41 ls (lv_sub hl [0, 1, 2, 3] rfl)
    · replace hf := (if_neg c51).symm.trans hf
      refine lv_aload_n hx hb dX12_without_14 rfl (lv_at hl 0 rfl) ?_
      refine lv_iload_n hx hb dX12_without_15 rfl (lv_at hl 2 rfl) ?_
      obtain ⟨r43, h44, hf⟩ := bd_some hf
      refine s_callVi (As := [.int a1]) (rest := [.ref (ad 0)]) F I_3 (cM_isSample G E Dd a1 r43 h44) kX12_151 ⟨rfl, rfl⟩ ⟨Nat.le_trans (Nat.le_of_ble_eq_true rfl) hRf, Nat.le_trans (Nat.le_of_ble_eq_true rfl) hRl⟩ (0) 12 rfl rfl rfl rfl rfl hl.1 (Nat.le_of_ble_eq_true rfl) ⟨Nat.zero_le _, Nat.zero_le _⟩ dX12_without_16 ?_
      intro H_45 lo_45 I_45
      refine lv_if_ne (tgt := 26) hx hb dX12_without_19 (by decide) (fun c50 => ?_) (fun c50 => ?_)
      · replace hf := (if_neg c50).symm.trans hf
        refine lv_iload_n hx hb dX12_without_26 rfl (lv_at hl 3 rfl) ?_
        refine lv_iconst (v := (0 : Int32)) hx hb dX12_without_27 (by decide) ?_
        refine lv_iconst (v := (5 : Int32)) hx hb dX12_without_28 (by decide) ?_
        obtain ⟨r46, h47, hf⟩ := bd_some hf
        refine s_callSi (As := [.int a2, .int (0 : Int32), .int (5 : Int32)]) (rest := [.ref (ad 0)]) F I_45 (cM_within G E Dd a2 (0 : Int32) (5 : Int32) r46 h47) kX12_95 ⟨rfl, rfl⟩ ⟨Nat.le_trans (Nat.le_of_ble_eq_true rfl) hRf, Nat.le_trans (Nat.le_of_ble_eq_true rfl) hRl⟩ rfl rfl hl.1 (Nat.le_of_ble_eq_true rfl) ⟨Nat.zero_le _, Nat.zero_le _⟩ dX12_without_29 ?_
        intro H_48 lo_48 I_48
        refine lv_if_eq (tgt := 39) hx hb dX12_without_32 (by decide) (fun c49 => ?_) (fun c49 => ?_)
        · replace hf := (if_pos c49).symm.trans hf
          refine lv_iconst (v := (2 : Int32)) hx hb dX12_without_39 (by decide) ?_
          cases hf
          exact J4 H_48 lo_48 I_48 ls (lv_sub hl [0, 1, 2, 3] rfl)
        · replace hf := (if_neg c49).symm.trans hf
          refine lv_iconst (v := (0 : Int32)) hx hb dX12_without_35 (by decide) ?_
          refine lv_goto (tgt := 40) hx hb dX12_without_36 (by decide) ?_
          cases hf
          exact J4 H_48 lo_48 I_48 ls (lv_sub hl [0, 1, 2, 3] rfl)
      · replace hf := (if_pos c50).symm.trans hf
        refine lv_iconst (v := (1 : Int32)) hx hb dX12_without_22 (by decide) ?_
        refine lv_goto (tgt := 40) hx hb dX12_without_23 (by decide) ?_
        cases hf
        exact J4 H_45 lo_45 I_45 ls (lv_sub hl [0, 1, 2, 3] rfl)
def M_rings (G : Nat → Nat → Int32) (a0 : Int32) : Option (Int32 × (Nat → Nat → Int32)) :=
bd (M_isListener G a0) fun r1 =>
bd (if r1 = 0 then
(some (1 : Int32))
else
(some (0 : Int32))) fun x5 =>
nm (wf G 0 x5) fun G9 =>
if G9 0 0 ≤ 0 then
(bd (M_ringsOf G9 a0) fun r11 =>
some (r11, G9))
else
(some ((0 : Int32), G9))
set_option maxRecDepth 100000 in
set_option maxHeartbeats 4000000 in
theorem cM_rings (G : Nat → Nat → Int32) (E : Nat → Nat → Int64) (Dd : Nat → Nat → UInt64) (a0 : Int32) (rv : Int32) (newG : Nat → Nat → Int32) (hf : M_rings G a0 = some (rv, newG)) : sMi D (mT cI cJ cD) (mW ad cI cJ cD) l yX12_rings (ws1 yX12_rings cX12_rings 2 (some .int)) ({ frames := 6, cells := 0, slots := 0, locals := 145 }) [.ref (ad 0), .int a0] (G, E, Dd) (rv, (newG, E, Dd)) := by
  unfold M_rings at hf
  refine sMi_of (by decide) (Nat.le_of_ble_eq_true rfl) ?_
  intro p e R s m args below meth c A Q ls H lo F hRf hRl I hl ret
  obtain ⟨hx, hb, hml, hown, hG⟩ := id F
  replace hl : lv_has ls 2 [(0, .ref (ad 0)), (1, .int a0)] := hl
  refine lv_aload_n hx hb dX12_rings_0 rfl (lv_at hl 0 rfl) ?_
  refine lv_aload_n hx hb dX12_rings_1 rfl (lv_at hl 0 rfl) ?_
  refine lv_iload_n hx hb dX12_rings_2 rfl (lv_at hl 1 rfl) ?_
  obtain ⟨r1, h2, hf⟩ := bd_some hf
  refine s_callVi (As := [.int a0]) (rest := [.ref (ad 0)]) F I (cM_isListener G E Dd a0 r1 h2) kX12_114 ⟨rfl, rfl⟩ ⟨Nat.le_trans (Nat.le_of_ble_eq_true rfl) hRf, Nat.le_trans (Nat.le_of_ble_eq_true rfl) hRl⟩ (0) 12 rfl rfl rfl rfl rfl hl.1 (Nat.le_of_ble_eq_true rfl) ⟨Nat.zero_le _, Nat.zero_le _⟩ dX12_rings_3 ?_
  intro H_3 lo_3 I_3
  obtain ⟨x5, hv15, hf⟩ := bd_some hf
  have J4 : ∀ (H : Heap) (locs : List Loc), sInv D (mT cI cJ cD) (mW ad cI cJ cD) A s H locs (G, E, Dd) → ∀ (ls : Array Slot), lv_has ls 2 [(0, .ref (ad 0)), (1, .int a0)] → W p l e R s m args below meth c H locs 0 0 Q (F0 m 14 ls [.int x5, .ref (ad 0)]) := by
    intro H_6 lo_6 I_6 ls_7 hl_7
    refine mptX12_89_0 F I_6 dX12_rings_14 ?_
    intro H_10 lo_10 G9 eG9 I_10
    replace hf := nm_some eG9 hf
    refine lv_aload_n hx hb dX12_rings_17 rfl (lv_at hl_7 0 rfl) ?_
    refine mgtX12_89_0 F I_10 dX12_rings_18 ?_
    refine lv_if_le (tgt := 28) hx hb dX12_rings_21 (by decide) (fun c14 => ?_) (fun c14 => ?_)
    · replace hf := (if_pos c14).symm.trans hf
      refine lv_aload_n hx hb dX12_rings_28 rfl (lv_at hl_7 0 rfl) ?_
      refine lv_iload_n hx hb dX12_rings_29 rfl (lv_at hl_7 1 rfl) ?_
      obtain ⟨r11, h12, hf⟩ := bd_some hf
      refine s_callVi (As := [.int a0]) (rest := []) F I_10 (cM_ringsOf G9 E Dd a0 r11 h12) kX12_300 ⟨rfl, rfl⟩ ⟨Nat.le_trans (Nat.le_of_ble_eq_true rfl) hRf, Nat.le_trans (Nat.le_of_ble_eq_true rfl) hRl⟩ (0) 12 rfl rfl rfl rfl rfl hl_7.1 (Nat.le_of_ble_eq_true rfl) ⟨Nat.zero_le _, Nat.zero_le _⟩ dX12_rings_30 ?_
      intro H_13 lo_13 I_13
      cases hf
      exact ret H_13 lo_13 _ ls_7 I_13 dX12_rings_33
    · replace hf := (if_neg c14).symm.trans hf
      refine lv_iconst (v := (0 : Int32)) hx hb dX12_rings_24 (by decide) ?_
      refine lv_goto (tgt := 33) hx hb dX12_rings_25 (by decide) ?_
      cases hf
      exact ret H_10 lo_10 _ ls_7 I_10 dX12_rings_33
  replace hf := hv15
  refine lv_if_eq (tgt := 13) hx hb dX12_rings_6 (by decide) (fun c16 => ?_) (fun c16 => ?_)
  · replace hf := (if_pos c16).symm.trans hf
    refine lv_iconst (v := (1 : Int32)) hx hb dX12_rings_13 (by decide) ?_
    cases hf
    exact J4 H_3 lo_3 I_3 ls (lv_sub hl [0, 1] rfl)
  · replace hf := (if_neg c16).symm.trans hf
    refine lv_iconst (v := (0 : Int32)) hx hb dX12_rings_9 (by decide) ?_
    refine lv_goto (tgt := 14) hx hb dX12_rings_10 (by decide) ?_
    cases hf
    exact J4 H_3 lo_3 I_3 ls (lv_sub hl [0, 1] rfl)
def M_isComplete_s2 (a0 : Int32) (x4 : Int32) (G : Nat → Nat → Int32) (x15 : Int32) (x16 : Int32) : Option ((Int32 × Int32) ⊕ (Int32)) :=
if G 1 0 ≤ x16 then
(some (.inr x15))
else
(bd (if x15 = 0 then
(some (0 : Int32))
else
(bd (M_prefers G a0 x4 x16) fun r35 =>
if r35 = 0 then
(bd (M_prefers G a0 x16 x4) fun r38 =>
if r38 = 0 then
(some (0 : Int32))
else
(some (1 : Int32)))
else
(some (1 : Int32)))) fun x27 =>
nm (x16 + (1 : Int32) : Int32) fun x32 =>
some (.inl (x27, x32)))
def M_isComplete_s1 (a0 : Int32) (G : Nat → Nat → Int32) (x3 : Int32) (x4 : Int32) : Option ((Int32 × Int32) ⊕ (Int32)) :=
if G 1 0 ≤ x4 then
(some (.inr x3))
else
(nm (x4 + (1 : Int32) : Int32) fun x13 =>
bd (lp (fun q => M_isComplete_s2 a0 x4 G q.1 q.2) FU (x3, x13)) fun x17 =>
nm (x4 + (1 : Int32) : Int32) fun x21 =>
some (.inl (x17, x21)))
def M_isComplete (G : Nat → Nat → Int32) (a0 : Int32) : Option (Int32) :=
bd (lp (fun q => M_isComplete_s1 a0 G q.1 q.2) FU ((1 : Int32), (0 : Int32))) fun x5 =>
gd (x5 = 0 ∨ x5 = 1) <|
some x5
set_option maxRecDepth 100000 in
set_option maxHeartbeats 4000000 in
theorem cM_isComplete (G : Nat → Nat → Int32) (E : Nat → Nat → Int64) (Dd : Nat → Nat → UInt64) (a0 : Int32) (rv : Int32)  (hf : M_isComplete G a0 = some rv) : sMi D (mT cI cJ cD) (mW ad cI cJ cD) l yX12_isComplete (ws1 yX12_isComplete cX12_isComplete 5 (some .boolean)) ({ frames := 3, cells := 0, slots := 0, locals := 73 }) [.ref (ad 0), .int a0] (G, E, Dd) (rv, (G, E, Dd)) := by
  unfold M_isComplete at hf
  refine sMz_of (by decide) (Nat.le_of_ble_eq_true rfl) ?_
  intro p e R s m args below meth c A Q ls H lo F hRf hRl I hl ret
  obtain ⟨hx, hb, hml, hown, hG⟩ := id F
  replace hl : lv_has ls 5 [(0, .ref (ad 0)), (1, .int a0)] := hl
  refine lv_iconst (v := (1 : Int32)) hx hb dX12_isComplete_0 (by decide) ?_
  refine lv_istore_n (lv' := [(2, .int (1 : Int32)), (0, .ref (ad 0)), (1, .int a0)]) hx hb dX12_isComplete_1 rfl hl (by decide) rfl (fun ls_1 hl_1 => ?_)
  refine lv_iconst (v := (0 : Int32)) hx hb dX12_isComplete_2 (by decide) ?_
  refine lv_istore_n (lv' := [(3, .int (0 : Int32)), (2, .int (1 : Int32)), (0, .ref (ad 0)), (1, .int a0)]) hx hb dX12_isComplete_3 rfl hl_1 (by decide) rfl (fun ls_2 hl_2 => ?_)
  obtain ⟨x5, hq1, hf⟩ := bd_some hf
  have K1 : ∀ (H : Heap) (locs : List Loc), sInv D (mT cI cJ cD) (mW ad cI cJ cD) A s H locs (G, E, Dd) → ∀ (ls : Array Slot), lv_has ls 5 [(2, .int x5)] → W p l e R s m args below meth c H locs 0 0 Q (F0 m 70 ls []) := by
    intro H_6 lo_6 I_6 ls_7 hl_7
    refine lv_iload_n hx hb dX12_isComplete_70 rfl (lv_at hl_7 0 rfl) ?_
    obtain ⟨g9, hf⟩ := gd_some hf
    cases hf
    exact ret H_6 lo_6 _ ls_7 I_6 g9 dX12_isComplete_71
  have L1 : ∀ (n : Nat) (x3 : Int32) (x4 : Int32), lp (fun q => M_isComplete_s1 a0 G q.1 q.2) n (x3, x4) = some x5 → ∀ (H : Heap) (locs : List Loc), sInv D (mT cI cJ cD) (mW ad cI cJ cD) A s H locs (G, E, Dd) → ∀ (ls : Array Slot), lv_has ls 5 [(0, .ref (ad 0)), (1, .int a0), (2, .int x3), (3, .int x4)] → W p l e R s m args below meth c H locs 0 0 Q (F0 m 4 ls []) := by
    intro n
    induction n with
    | zero => intro x3 x4 hq; exact (lp_0 hq).elim
    | succ n ih1 =>
      intro x3 x4 hq H_10 lo_10 I_10 ls_11 hl_11
      obtain ⟨y1, hf, hK1⟩ := lp_go hq
      replace hf : M_isComplete_s1 a0 G x3 x4 = some y1 := hf
      unfold M_isComplete_s1 at hf
      refine lv_iload_n hx hb dX12_isComplete_4 rfl (lv_at hl_11 3 rfl) ?_
      refine lv_aload_n hx hb dX12_isComplete_5 rfl (lv_at hl_11 0 rfl) ?_
      refine mgtX12_92_0 F I_10 dX12_isComplete_6 ?_
      refine lv_icmp_ge (tgt := 70) hx hb dX12_isComplete_9 (by decide) (fun c45 => ?_) (fun c45 => ?_)
      · replace hf := (if_pos c45).symm.trans hf
        cases hf
        cases (show x3 = x5 from hK1)
        exact K1 H_10 lo_10 I_10 ls_11 (lv_sub hl_11 [2] rfl)
      · replace hf := (if_neg c45).symm.trans hf
        refine lv_iload_n hx hb dX12_isComplete_12 rfl (lv_at hl_11 3 rfl) ?_
        refine lv_iconst (v := (1 : Int32)) hx hb dX12_isComplete_13 (by decide) ?_
        refine lv_iadd hx hb dX12_isComplete_14 ?_
        refine lv_topi (fun x13 ex13 => ?_)
        replace hf := nm_some ex13 hf
        refine lv_istore (lv' := [(4, .int x13), (0, .ref (ad 0)), (1, .int a0), (2, .int x3), (3, .int x4)]) hx hb dX12_isComplete_15 hl_11 (by decide) rfl (fun ls_14 hl_14 => ?_)
        obtain ⟨x17, hq2, hf⟩ := bd_some hf
        have K2 : ∀ (H : Heap) (locs : List Loc), sInv D (mT cI cJ cD) (mW ad cI cJ cD) A s H locs (G, E, Dd) → ∀ (ls : Array Slot), lv_has ls 5 [(0, .ref (ad 0)), (1, .int a0), (2, .int x17), (3, .int x4)] → W p l e R s m args below meth c H locs 0 0 Q (F0 m 64 ls []) := by
          intro H_18 lo_18 I_18 ls_19 hl_19
          obtain ⟨x21, ex21⟩ : ∃ y : Int32, y = x4 + (1 : Int32) := ⟨_, rfl⟩
          replace hf := nm_some ex21 hf
          refine lv_iinc (v := x21) (lv' := [(3, .int x21), (0, .ref (ad 0)), (1, .int a0), (2, .int x17)]) hx hb dX12_isComplete_64 hl_19 (k := 3) rfl (by rw [ex21]; rfl) (by decide) rfl (fun ls_22 hl_22 => ?_)
          refine lv_goto (tgt := 4) hx hb dX12_isComplete_67 (by decide) ?_
          cases hf
          exact ih1 _ _ hK1 H_18 lo_18 I_18 ls_22 (lv_sub hl_22 [1, 2, 3, 0] rfl)
        have L2 : ∀ (n : Nat) (x15 : Int32) (x16 : Int32), lp (fun q => M_isComplete_s2 a0 x4 G q.1 q.2) n (x15, x16) = some x17 → ∀ (H : Heap) (locs : List Loc), sInv D (mT cI cJ cD) (mW ad cI cJ cD) A s H locs (G, E, Dd) → ∀ (ls : Array Slot), lv_has ls 5 [(0, .ref (ad 0)), (1, .int a0), (2, .int x15), (3, .int x4), (4, .int x16)] → W p l e R s m args below meth c H locs 0 0 Q (F0 m 17 ls []) := by
          intro n
          induction n with
          | zero => intro x15 x16 hq; exact (lp_0 hq).elim
          | succ n ih2 =>
            intro x15 x16 hq H_23 lo_23 I_23 ls_24 hl_24
            obtain ⟨y2, hf, hK2⟩ := lp_go hq
            replace hf : M_isComplete_s2 a0 x4 G x15 x16 = some y2 := hf
            unfold M_isComplete_s2 at hf
            refine lv_iload hx hb dX12_isComplete_17 (lv_at hl_24 4 rfl) ?_
            refine lv_aload_n hx hb dX12_isComplete_19 rfl (lv_at hl_24 0 rfl) ?_
            refine mgtX12_92_0 F I_23 dX12_isComplete_20 ?_
            refine lv_icmp_ge (tgt := 64) hx hb dX12_isComplete_23 (by decide) (fun c44 => ?_) (fun c44 => ?_)
            · replace hf := (if_pos c44).symm.trans hf
              cases hf
              cases (show x15 = x17 from hK2)
              exact K2 H_23 lo_23 I_23 ls_24 (lv_sub hl_24 [0, 1, 2, 3] rfl)
            · replace hf := (if_neg c44).symm.trans hf
              refine lv_iload_n hx hb dX12_isComplete_26 rfl (lv_at hl_24 2 rfl) ?_
              obtain ⟨x27, hv34, hf⟩ := bd_some hf
              have J26 : ∀ (H : Heap) (locs : List Loc), sInv D (mT cI cJ cD) (mW ad cI cJ cD) A s H locs (G, E, Dd) → ∀ (ls : Array Slot), lv_has ls 5 [(0, .ref (ad 0)), (1, .int a0), (3, .int x4), (4, .int x16)] → W p l e R s m args below meth c H locs 0 0 Q (F0 m 57 ls [.int x27]) := by
                intro H_28 lo_28 I_28 ls_29 hl_29
                refine lv_istore_n (lv' := [(2, .int x27), (0, .ref (ad 0)), (1, .int a0), (3, .int x4), (4, .int x16)]) hx hb dX12_isComplete_57 rfl hl_29 (by decide) rfl (fun ls_31 hl_31 => ?_)
                obtain ⟨x32, ex32⟩ : ∃ y : Int32, y = x16 + (1 : Int32) := ⟨_, rfl⟩
                replace hf := nm_some ex32 hf
                refine lv_iinc (v := x32) (lv' := [(4, .int x32), (2, .int x27), (0, .ref (ad 0)), (1, .int a0), (3, .int x4)]) hx hb dX12_isComplete_58 hl_31 (k := 4) rfl (by rw [ex32]; rfl) (by decide) rfl (fun ls_33 hl_33 => ?_)
                refine lv_goto (tgt := 17) hx hb dX12_isComplete_61 (by decide) ?_
                cases hf
                exact ih2 _ _ hK2 H_28 lo_28 I_28 ls_33 (lv_sub hl_33 [2, 3, 1, 4, 0] rfl)
              replace hf := hv34
              refine lv_if_eq (tgt := 56) hx hb dX12_isComplete_27 (by decide) (fun c43 => ?_) (fun c43 => ?_)
              · replace hf := (if_pos c43).symm.trans hf
                refine lv_iconst (v := (0 : Int32)) hx hb dX12_isComplete_56 (by decide) ?_
                cases hf
                exact J26 H_23 lo_23 I_23 ls_24 (lv_sub hl_24 [0, 1, 3, 4] rfl)
              · replace hf := (if_neg c43).symm.trans hf
                refine lv_aload_n hx hb dX12_isComplete_30 rfl (lv_at hl_24 0 rfl) ?_
                refine lv_iload_n hx hb dX12_isComplete_31 rfl (lv_at hl_24 1 rfl) ?_
                refine lv_iload_n hx hb dX12_isComplete_32 rfl (lv_at hl_24 3 rfl) ?_
                refine lv_iload hx hb dX12_isComplete_33 (lv_at hl_24 4 rfl) ?_
                obtain ⟨r35, h36, hf⟩ := bd_some hf
                refine s_callVi (As := [.int a0, .int x4, .int x16]) (rest := []) F I_23 (cM_prefers G E Dd a0 x4 x16 r35 h36) kX12_224 ⟨rfl, rfl⟩ ⟨Nat.le_trans (Nat.le_of_ble_eq_true rfl) hRf, Nat.le_trans (Nat.le_of_ble_eq_true rfl) hRl⟩ (0) 12 rfl rfl rfl rfl rfl hl_24.1 (Nat.le_of_ble_eq_true rfl) ⟨Nat.zero_le _, Nat.zero_le _⟩ dX12_isComplete_35 ?_
                intro H_37 lo_37 I_37
                refine lv_if_ne (tgt := 52) hx hb dX12_isComplete_38 (by decide) (fun c42 => ?_) (fun c42 => ?_)
                · replace hf := (if_neg c42).symm.trans hf
                  refine lv_iconst (v := (1 : Int32)) hx hb dX12_isComplete_52 (by decide) ?_
                  refine lv_goto (tgt := 57) hx hb dX12_isComplete_53 (by decide) ?_
                  cases hf
                  exact J26 H_37 lo_37 I_37 ls_24 (lv_sub hl_24 [0, 1, 3, 4] rfl)
                · replace hf := (if_pos c42).symm.trans hf
                  refine lv_aload_n hx hb dX12_isComplete_41 rfl (lv_at hl_24 0 rfl) ?_
                  refine lv_iload_n hx hb dX12_isComplete_42 rfl (lv_at hl_24 1 rfl) ?_
                  refine lv_iload hx hb dX12_isComplete_43 (lv_at hl_24 4 rfl) ?_
                  refine lv_iload_n hx hb dX12_isComplete_45 rfl (lv_at hl_24 3 rfl) ?_
                  obtain ⟨r38, h39, hf⟩ := bd_some hf
                  refine s_callVi (As := [.int a0, .int x16, .int x4]) (rest := []) F I_37 (cM_prefers G E Dd a0 x16 x4 r38 h39) kX12_224 ⟨rfl, rfl⟩ ⟨Nat.le_trans (Nat.le_of_ble_eq_true rfl) hRf, Nat.le_trans (Nat.le_of_ble_eq_true rfl) hRl⟩ (0) 12 rfl rfl rfl rfl rfl hl_24.1 (Nat.le_of_ble_eq_true rfl) ⟨Nat.zero_le _, Nat.zero_le _⟩ dX12_isComplete_46 ?_
                  intro H_40 lo_40 I_40
                  refine lv_if_eq (tgt := 56) hx hb dX12_isComplete_49 (by decide) (fun c41 => ?_) (fun c41 => ?_)
                  · replace hf := (if_pos c41).symm.trans hf
                    refine lv_iconst (v := (0 : Int32)) hx hb dX12_isComplete_56 (by decide) ?_
                    cases hf
                    exact J26 H_40 lo_40 I_40 ls_24 (lv_sub hl_24 [0, 1, 3, 4] rfl)
                  · replace hf := (if_neg c41).symm.trans hf
                    refine lv_iconst (v := (1 : Int32)) hx hb dX12_isComplete_52 (by decide) ?_
                    refine lv_goto (tgt := 57) hx hb dX12_isComplete_53 (by decide) ?_
                    cases hf
                    exact J26 H_40 lo_40 I_40 ls_24 (lv_sub hl_24 [0, 1, 3, 4] rfl)
        exact L2 FU _ _ hq2 H_10 lo_10 I_10 ls_14 (lv_sub hl_14 [1, 2, 3, 4, 0] rfl)
  exact L1 FU _ _ hq1 H lo I ls_2 (lv_sub hl_2 [2, 3, 1, 0] rfl)
def M_mostRings (G : Nat → Nat → Int32) : Option (Int32) :=
nm (((G 1 0) * (G 1 0)) * (G 1 0) : Int32) fun x1 =>
if (G 1 0) - (G 1 0) / (2 : Int32) * (2 : Int32) = (1 : Int32) then
(some ((x1 - (G 1 0)) / (24 : Int32)))
else
(some ((x1 - ((4 : Int32) * (G 1 0))) / (24 : Int32)))
set_option maxRecDepth 100000 in
set_option maxHeartbeats 4000000 in
theorem cM_mostRings (G : Nat → Nat → Int32) (E : Nat → Nat → Int64) (Dd : Nat → Nat → UInt64)  (rv : Int32)  (hf : M_mostRings G = some rv) : sMi D (mT cI cJ cD) (mW ad cI cJ cD) l yX12_mostRings (ws1 yX12_mostRings cX12_mostRings 2 (some .int)) ({ frames := 0, cells := 0, slots := 0, locals := 0 }) [.ref (ad 0)] (G, E, Dd) (rv, (G, E, Dd)) := by
  unfold M_mostRings at hf
  refine sMi_of (by decide) (Nat.le_of_ble_eq_true rfl) ?_
  intro p e R s m args below meth c A Q ls H lo F hRf hRl I hl ret
  obtain ⟨hx, hb, hml, hown, hG⟩ := id F
  replace hl : lv_has ls 2 [(0, .ref (ad 0))] := hl
  refine lv_aload_n hx hb dX12_mostRings_0 rfl (lv_at hl 0 rfl) ?_
  refine mgtX12_92_0 F I dX12_mostRings_1 ?_
  refine lv_aload_n hx hb dX12_mostRings_4 rfl (lv_at hl 0 rfl) ?_
  refine mgtX12_92_0 F I dX12_mostRings_5 ?_
  refine lv_imul hx hb dX12_mostRings_8 ?_
  refine lv_aload_n hx hb dX12_mostRings_9 rfl (lv_at hl 0 rfl) ?_
  refine mgtX12_92_0 F I dX12_mostRings_10 ?_
  refine lv_imul hx hb dX12_mostRings_13 ?_
  refine lv_topi (fun x1 ex1 => ?_)
  replace hf := nm_some ex1 hf
  refine lv_istore_n (lv' := [(1, .int x1), (0, .ref (ad 0))]) hx hb dX12_mostRings_14 rfl hl (by decide) rfl (fun ls_2 hl_2 => ?_)
  refine lv_iload_n hx hb dX12_mostRings_15 rfl (lv_at hl_2 0 rfl) ?_
  refine lv_aload_n hx hb dX12_mostRings_16 rfl (lv_at hl_2 1 rfl) ?_
  refine mgtX12_92_0 F I dX12_mostRings_17 ?_
  refine lv_iconst (v := (2 : Int32)) hx hb dX12_mostRings_20 (by decide) ?_
  refine lv_irem hx hb dX12_mostRings_21 (by decide) ?_
  refine lv_iconst (v := (1 : Int32)) hx hb dX12_mostRings_22 (by decide) ?_
  refine lv_icmp_ne (tgt := 33) hx hb dX12_mostRings_23 (by decide) (fun c3 => ?_) (fun c3 => ?_)
  · replace hf := (if_neg c3).symm.trans hf
    refine lv_iconst (v := (4 : Int32)) hx hb dX12_mostRings_33 (by decide) ?_
    refine lv_aload_n hx hb dX12_mostRings_34 rfl (lv_at hl_2 1 rfl) ?_
    refine mgtX12_92_0 F I dX12_mostRings_35 ?_
    refine lv_imul hx hb dX12_mostRings_38 ?_
    refine lv_isub hx hb dX12_mostRings_39 ?_
    refine lv_bipush (v := (24 : Int32)) hx hb dX12_mostRings_40 (by decide) ?_
    refine lv_idiv hx hb dX12_mostRings_42 (by decide) ?_
    cases hf
    exact ret H lo _ ls_2 I dX12_mostRings_43
  · replace hf := (if_pos c3).symm.trans hf
    refine lv_aload_n hx hb dX12_mostRings_26 rfl (lv_at hl_2 1 rfl) ?_
    refine mgtX12_92_0 F I dX12_mostRings_27 ?_
    refine lv_goto (tgt := 39) hx hb dX12_mostRings_30 (by decide) ?_
    refine lv_isub hx hb dX12_mostRings_39 ?_
    refine lv_bipush (v := (24 : Int32)) hx hb dX12_mostRings_40 (by decide) ?_
    refine lv_idiv hx hb dX12_mostRings_42 (by decide) ?_
    cases hf
    exact ret H lo _ ls_2 I dX12_mostRings_43
def M_agrees (G : Nat → Nat → Int32) (a0 : Int32) (a1 : Int32) (a2 : Int32) (a3 : Int32) : Option (Int32) :=
bd (M_prefers G a0 a2 a3) fun r1 =>
bd (if r1 = 0 then
(bd (M_prefers G a0 a3 a2) fun r22 =>
if r22 = 0 then
(some (0 : Int32))
else
(some (-1 : Int32)))
else
(some (1 : Int32))) fun x5 =>
bd (M_prefers G a1 a2 a3) fun r10 =>
if r10 = 0 then
(bd (M_prefers G a1 a3 a2) fun r13 =>
if r13 = 0 then
(some (x5 * (0 : Int32)))
else
(some (x5 * (-1 : Int32))))
else
(some (x5 * (1 : Int32)))
set_option maxRecDepth 100000 in
set_option maxHeartbeats 4000000 in
theorem cM_agrees (G : Nat → Nat → Int32) (E : Nat → Nat → Int64) (Dd : Nat → Nat → UInt64) (a0 : Int32) (a1 : Int32) (a2 : Int32) (a3 : Int32) (rv : Int32)  (hf : M_agrees G a0 a1 a2 a3 = some rv) : sMi D (mT cI cJ cD) (mW ad cI cJ cD) l yX12_agrees (ws1 yX12_agrees cX12_agrees 7 (some .int)) ({ frames := 3, cells := 0, slots := 0, locals := 73 }) [.ref (ad 0), .int a0, .int a1, .int a2, .int a3] (G, E, Dd) (rv, (G, E, Dd)) := by
  unfold M_agrees at hf
  refine sMi_of (by decide) (Nat.le_of_ble_eq_true rfl) ?_
  intro p e R s m args below meth c A Q ls H lo F hRf hRl I hl ret
  obtain ⟨hx, hb, hml, hown, hG⟩ := id F
  replace hl : lv_has ls 7 [(0, .ref (ad 0)), (1, .int a0), (2, .int a1), (3, .int a2), (4, .int a3)] := hl
  refine lv_aload_n hx hb dX12_agrees_0 rfl (lv_at hl 0 rfl) ?_
  refine lv_iload_n hx hb dX12_agrees_1 rfl (lv_at hl 1 rfl) ?_
  refine lv_iload_n hx hb dX12_agrees_2 rfl (lv_at hl 3 rfl) ?_
  refine lv_iload hx hb dX12_agrees_3 (lv_at hl 4 rfl) ?_
  obtain ⟨r1, h2, hf⟩ := bd_some hf
  refine s_callVi (As := [.int a0, .int a2, .int a3]) (rest := []) F I (cM_prefers G E Dd a0 a2 a3 r1 h2) kX12_224 ⟨rfl, rfl⟩ ⟨Nat.le_trans (Nat.le_of_ble_eq_true rfl) hRf, Nat.le_trans (Nat.le_of_ble_eq_true rfl) hRl⟩ (0) 12 rfl rfl rfl rfl rfl hl.1 (Nat.le_of_ble_eq_true rfl) ⟨Nat.zero_le _, Nat.zero_le _⟩ dX12_agrees_5 ?_
  intro H_3 lo_3 I_3
  obtain ⟨x5, hv21, hf⟩ := bd_some hf
  have J4 : ∀ (H : Heap) (locs : List Loc), sInv D (mT cI cJ cD) (mW ad cI cJ cD) A s H locs (G, E, Dd) → ∀ (ls : Array Slot), lv_has ls 7 [(0, .ref (ad 0)), (2, .int a1), (3, .int a2), (4, .int a3)] → W p l e R s m args below meth c H locs 0 0 Q (F0 m 31 ls [.int x5]) := by
    intro H_6 lo_6 I_6 ls_7 hl_7
    refine lv_istore (lv' := [(5, .int x5), (0, .ref (ad 0)), (2, .int a1), (3, .int a2), (4, .int a3)]) hx hb dX12_agrees_31 hl_7 (by decide) rfl (fun ls_9 hl_9 => ?_)
    refine lv_aload_n hx hb dX12_agrees_33 rfl (lv_at hl_9 1 rfl) ?_
    refine lv_iload_n hx hb dX12_agrees_34 rfl (lv_at hl_9 2 rfl) ?_
    refine lv_iload_n hx hb dX12_agrees_35 rfl (lv_at hl_9 3 rfl) ?_
    refine lv_iload hx hb dX12_agrees_36 (lv_at hl_9 4 rfl) ?_
    obtain ⟨r10, h11, hf⟩ := bd_some hf
    refine s_callVi (As := [.int a1, .int a2, .int a3]) (rest := []) F I_6 (cM_prefers G E Dd a1 a2 a3 r10 h11) kX12_224 ⟨rfl, rfl⟩ ⟨Nat.le_trans (Nat.le_of_ble_eq_true rfl) hRf, Nat.le_trans (Nat.le_of_ble_eq_true rfl) hRl⟩ (0) 12 rfl rfl rfl rfl rfl hl_9.1 (Nat.le_of_ble_eq_true rfl) ⟨Nat.zero_le _, Nat.zero_le _⟩ dX12_agrees_38 ?_
    intro H_12 lo_12 I_12
    refine lv_if_eq (tgt := 48) hx hb dX12_agrees_41 (by decide) (fun c20 => ?_) (fun c20 => ?_)
    · replace hf := (if_pos c20).symm.trans hf
      refine lv_aload_n hx hb dX12_agrees_48 rfl (lv_at hl_9 1 rfl) ?_
      refine lv_iload_n hx hb dX12_agrees_49 rfl (lv_at hl_9 2 rfl) ?_
      refine lv_iload hx hb dX12_agrees_50 (lv_at hl_9 4 rfl) ?_
      refine lv_iload_n hx hb dX12_agrees_52 rfl (lv_at hl_9 3 rfl) ?_
      obtain ⟨r13, h14, hf⟩ := bd_some hf
      refine s_callVi (As := [.int a1, .int a3, .int a2]) (rest := []) F I_12 (cM_prefers G E Dd a1 a3 a2 r13 h14) kX12_224 ⟨rfl, rfl⟩ ⟨Nat.le_trans (Nat.le_of_ble_eq_true rfl) hRf, Nat.le_trans (Nat.le_of_ble_eq_true rfl) hRl⟩ (0) 12 rfl rfl rfl rfl rfl hl_9.1 (Nat.le_of_ble_eq_true rfl) ⟨Nat.zero_le _, Nat.zero_le _⟩ dX12_agrees_53 ?_
      intro H_15 lo_15 I_15
      refine lv_if_eq (tgt := 63) hx hb dX12_agrees_56 (by decide) (fun c18 => ?_) (fun c18 => ?_)
      · replace hf := (if_pos c18).symm.trans hf
        refine lv_iconst (v := (0 : Int32)) hx hb dX12_agrees_63 (by decide) ?_
        refine lv_istore (lv' := [(6, .int (0 : Int32)), (5, .int x5), (0, .ref (ad 0)), (2, .int a1), (3, .int a2), (4, .int a3)]) hx hb dX12_agrees_64 hl_9 (by decide) rfl (fun ls_16 hl_16 => ?_)
        refine lv_iload hx hb dX12_agrees_66 (lv_at hl_16 1 rfl) ?_
        refine lv_iload hx hb dX12_agrees_68 (lv_at hl_16 0 rfl) ?_
        refine lv_imul hx hb dX12_agrees_70 ?_
        cases hf
        exact ret H_15 lo_15 _ ls_16 I_15 dX12_agrees_71
      · replace hf := (if_neg c18).symm.trans hf
        refine lv_iconst (v := (-1 : Int32)) hx hb dX12_agrees_59 (by decide) ?_
        refine lv_goto (tgt := 64) hx hb dX12_agrees_60 (by decide) ?_
        refine lv_istore (lv' := [(6, .int (-1 : Int32)), (5, .int x5), (0, .ref (ad 0)), (2, .int a1), (3, .int a2), (4, .int a3)]) hx hb dX12_agrees_64 hl_9 (by decide) rfl (fun ls_17 hl_17 => ?_)
        refine lv_iload hx hb dX12_agrees_66 (lv_at hl_17 1 rfl) ?_
        refine lv_iload hx hb dX12_agrees_68 (lv_at hl_17 0 rfl) ?_
        refine lv_imul hx hb dX12_agrees_70 ?_
        cases hf
        exact ret H_15 lo_15 _ ls_17 I_15 dX12_agrees_71
    · replace hf := (if_neg c20).symm.trans hf
      refine lv_iconst (v := (1 : Int32)) hx hb dX12_agrees_44 (by decide) ?_
      refine lv_goto (tgt := 64) hx hb dX12_agrees_45 (by decide) ?_
      refine lv_istore (lv' := [(6, .int (1 : Int32)), (5, .int x5), (0, .ref (ad 0)), (2, .int a1), (3, .int a2), (4, .int a3)]) hx hb dX12_agrees_64 hl_9 (by decide) rfl (fun ls_19 hl_19 => ?_)
      refine lv_iload hx hb dX12_agrees_66 (lv_at hl_19 1 rfl) ?_
      refine lv_iload hx hb dX12_agrees_68 (lv_at hl_19 0 rfl) ?_
      refine lv_imul hx hb dX12_agrees_70 ?_
      cases hf
      exact ret H_12 lo_12 _ ls_19 I_12 dX12_agrees_71
  replace hf := hv21
  refine lv_if_eq (tgt := 15) hx hb dX12_agrees_8 (by decide) (fun c26 => ?_) (fun c26 => ?_)
  · replace hf := (if_pos c26).symm.trans hf
    refine lv_aload_n hx hb dX12_agrees_15 rfl (lv_at hl 0 rfl) ?_
    refine lv_iload_n hx hb dX12_agrees_16 rfl (lv_at hl 1 rfl) ?_
    refine lv_iload hx hb dX12_agrees_17 (lv_at hl 4 rfl) ?_
    refine lv_iload_n hx hb dX12_agrees_19 rfl (lv_at hl 3 rfl) ?_
    obtain ⟨r22, h23, hf⟩ := bd_some hf
    refine s_callVi (As := [.int a0, .int a3, .int a2]) (rest := []) F I_3 (cM_prefers G E Dd a0 a3 a2 r22 h23) kX12_224 ⟨rfl, rfl⟩ ⟨Nat.le_trans (Nat.le_of_ble_eq_true rfl) hRf, Nat.le_trans (Nat.le_of_ble_eq_true rfl) hRl⟩ (0) 12 rfl rfl rfl rfl rfl hl.1 (Nat.le_of_ble_eq_true rfl) ⟨Nat.zero_le _, Nat.zero_le _⟩ dX12_agrees_20 ?_
    intro H_24 lo_24 I_24
    refine lv_if_eq (tgt := 30) hx hb dX12_agrees_23 (by decide) (fun c25 => ?_) (fun c25 => ?_)
    · replace hf := (if_pos c25).symm.trans hf
      refine lv_iconst (v := (0 : Int32)) hx hb dX12_agrees_30 (by decide) ?_
      cases hf
      exact J4 H_24 lo_24 I_24 ls (lv_sub hl [0, 2, 3, 4] rfl)
    · replace hf := (if_neg c25).symm.trans hf
      refine lv_iconst (v := (-1 : Int32)) hx hb dX12_agrees_26 (by decide) ?_
      refine lv_goto (tgt := 31) hx hb dX12_agrees_27 (by decide) ?_
      cases hf
      exact J4 H_24 lo_24 I_24 ls (lv_sub hl [0, 2, 3, 4] rfl)
  · replace hf := (if_neg c26).symm.trans hf
    refine lv_iconst (v := (1 : Int32)) hx hb dX12_agrees_11 (by decide) ?_
    refine lv_goto (tgt := 31) hx hb dX12_agrees_12 (by decide) ?_
    cases hf
    exact J4 H_3 lo_3 I_3 ls (lv_sub hl [0, 2, 3, 4] rfl)
def M_chanceOf_s1 (x2 : Int32) (x7 : Int32) (x12 : Int64) (x13 : Int64) (x14 : Int32) : Option ((Int64 × Int64 × Int32) ⊕ (Int64)) :=
if x7 < x14 then
(some (.inr x12))
else
(bd (if x14 < x2 then
(some (0 : Int64))
else
(some x13)) fun x26 =>
nm (x12 + x26 : Int64) fun x30 =>
gd (¬ (x14 + (1 : Int32)).toInt64 = 0) <|
nm ((x13 * ((x7 - x14).toInt64)) / ((x14 + (1 : Int32)).toInt64) : Int64) fun x33 =>
nm (x14 + (1 : Int32) : Int32) fun x35 =>
some (.inl (x30, x33, x35)))
def M_chanceOf (a0 : Int32) (a1 : Int32) : Option (Int64) :=
bd (if a0 ≤ a1 then
(some a1)
else
(some a0)) fun x2 =>
nm (a0 + a1 : Int32) fun x7 =>
if x7 = 0 then
(some (281474976710656 : Int64))
else
(bd (lp (fun q => M_chanceOf_s1 x2 x7 q.1 q.2.1 q.2.2) FU ((0 : Int64), (1 : Int64), (0 : Int32))) fun x15 =>
nm (((2 : Int64) * x15) <<< (((48 : Int32) - x7).toInt64 &&& 63) : Int64) fun x19 =>
if lg_cmp x19 (281474976710656 : Int64) ≤ 0 then
(some x19)
else
(some (281474976710656 : Int64)))
set_option maxRecDepth 100000 in
set_option maxHeartbeats 4000000 in
theorem cM_chanceOf (G : Nat → Nat → Int32) (E : Nat → Nat → Int64) (Dd : Nat → Nat → UInt64) (a0 : Int32) (a1 : Int32) (rv : Int64)  (hf : M_chanceOf a0 a1 = some rv) : sMl D (mT cI cJ cD) (mW ad cI cJ cD) l yX12_chanceOf (ws1 yX12_chanceOf cX12_chanceOf 10 (some .long)) ({ frames := 0, cells := 0, slots := 0, locals := 0 }) [.int a0, .int a1] (G, E, Dd) (rv, (G, E, Dd)) := by
  unfold M_chanceOf at hf
  refine sMl_of (by decide) (Nat.le_of_ble_eq_true rfl) ?_
  intro p e R s m args below meth c A Q ls H lo F hRf hRl I hl ret
  obtain ⟨hx, hb, hml, hown, hG⟩ := id F
  replace hl : lv_has ls 10 [(0, .int a0), (1, .int a1)] := hl
  refine lv_iload_n hx hb dX12_chanceOf_0 rfl (lv_at hl 0 rfl) ?_
  refine lv_iload_n hx hb dX12_chanceOf_1 rfl (lv_at hl 1 rfl) ?_
  obtain ⟨x2, hv41, hf⟩ := bd_some hf
  have J1 : ∀ (H : Heap) (locs : List Loc), sInv D (mT cI cJ cD) (mW ad cI cJ cD) A s H locs (G, E, Dd) → ∀ (ls : Array Slot), lv_has ls 10 [(0, .int a0), (1, .int a1)] → W p l e R s m args below meth c H locs 0 0 Q (F0 m 10 ls [.int x2]) := by
    intro H_3 lo_3 I_3 ls_4 hl_4
    refine lv_istore_n (lv' := [(2, .int x2), (0, .int a0), (1, .int a1)]) hx hb dX12_chanceOf_10 rfl hl_4 (by decide) rfl (fun ls_6 hl_6 => ?_)
    refine lv_iload_n hx hb dX12_chanceOf_11 rfl (lv_at hl_6 1 rfl) ?_
    refine lv_iload_n hx hb dX12_chanceOf_12 rfl (lv_at hl_6 2 rfl) ?_
    refine lv_iadd hx hb dX12_chanceOf_13 ?_
    refine lv_topi (fun x7 ex7 => ?_)
    replace hf := nm_some ex7 hf
    refine lv_istore_n (lv' := [(3, .int x7), (2, .int x2), (0, .int a0), (1, .int a1)]) hx hb dX12_chanceOf_14 rfl hl_6 (by decide) rfl (fun ls_8 hl_8 => ?_)
    refine lv_iload_n hx hb dX12_chanceOf_15 rfl (lv_at hl_8 0 rfl) ?_
    refine lv_if_ne (tgt := 23) hx hb dX12_chanceOf_16 (by decide) (fun c40 => ?_) (fun c40 => ?_)
    · replace hf := (if_neg c40).symm.trans hf
      refine lv_lconst (v := (0 : Int64)) hx hb dX12_chanceOf_23 (by decide) ?_
      refine lv_lstore (lv' := [(4, .long (0 : Int64)), (3, .int x7), (2, .int x2), (0, .int a0), (1, .int a1)]) hx hb dX12_chanceOf_24 hl_8 (by decide) rfl (fun ls_9 hl_9 => ?_)
      refine lv_lconst (v := (1 : Int64)) hx hb dX12_chanceOf_26 (by decide) ?_
      refine lv_lstore (lv' := [(6, .long (1 : Int64)), (4, .long (0 : Int64)), (3, .int x7), (2, .int x2), (0, .int a0), (1, .int a1)]) hx hb dX12_chanceOf_27 hl_9 (by decide) rfl (fun ls_10 hl_10 => ?_)
      refine lv_iconst (v := (0 : Int32)) hx hb dX12_chanceOf_29 (by decide) ?_
      refine lv_istore (lv' := [(8, .int (0 : Int32)), (6, .long (1 : Int64)), (4, .long (0 : Int64)), (3, .int x7), (2, .int x2), (0, .int a0), (1, .int a1)]) hx hb dX12_chanceOf_30 hl_10 (by decide) rfl (fun ls_11 hl_11 => ?_)
      obtain ⟨x15, hq1, hf⟩ := bd_some hf
      have K1 : ∀ (H : Heap) (locs : List Loc), sInv D (mT cI cJ cD) (mW ad cI cJ cD) A s H locs (G, E, Dd) → ∀ (ls : Array Slot), lv_has ls 10 [(3, .int x7), (4, .long x15)] → W p l e R s m args below meth c H locs 0 0 Q (F0 m 77 ls []) := by
        intro H_16 lo_16 I_16 ls_17 hl_17
        refine lv_ldc2 (v := (2 : Int64)) hx hb hown (hG _ q1654) dX12_chanceOf_77 ?_
        refine lv_lload hx hb dX12_chanceOf_80 (lv_at hl_17 1 rfl) ?_
        refine lv_lmul hx hb dX12_chanceOf_82 ?_
        refine lv_bipush (v := (48 : Int32)) hx hb dX12_chanceOf_83 (by decide) ?_
        refine lv_iload_n hx hb dX12_chanceOf_85 rfl (lv_at hl_17 0 rfl) ?_
        refine lv_isub hx hb dX12_chanceOf_86 ?_
        refine lv_lshl hx hb dX12_chanceOf_87 rfl ?_
        refine lv_topl (fun x19 ex19 => ?_)
        replace hf := nm_some ex19 hf
        refine lv_lstore (lv' := [(8, .long x19), (3, .int x7), (4, .long x15)]) hx hb dX12_chanceOf_88 hl_17 (by decide) rfl (fun ls_20 hl_20 => ?_)
        refine lv_lload hx hb dX12_chanceOf_90 (lv_at hl_20 0 rfl) ?_
        refine lv_ldc2 (v := (281474976710656 : Int64)) hx hb hown (hG _ q1653) dX12_chanceOf_92 ?_
        refine W.lcmp hx hb dX12_chanceOf_95 ?_
        refine lv_if_le (tgt := 105) hx hb dX12_chanceOf_96 (by decide) (fun c21 => ?_) (fun c21 => ?_)
        · replace hf := (if_pos c21).symm.trans hf
          refine lv_lload hx hb dX12_chanceOf_105 (lv_at hl_20 0 rfl) ?_
          cases hf
          exact ret H_16 lo_16 _ ls_20 I_16 dX12_chanceOf_107
        · replace hf := (if_neg c21).symm.trans hf
          refine lv_ldc2 (v := (281474976710656 : Int64)) hx hb hown (hG _ q1653) dX12_chanceOf_99 ?_
          refine lv_goto (tgt := 107) hx hb dX12_chanceOf_102 (by decide) ?_
          cases hf
          exact ret H_16 lo_16 _ ls_20 I_16 dX12_chanceOf_107
      have L1 : ∀ (n : Nat) (x12 : Int64) (x13 : Int64) (x14 : Int32), lp (fun q => M_chanceOf_s1 x2 x7 q.1 q.2.1 q.2.2) n (x12, x13, x14) = some x15 → ∀ (H : Heap) (locs : List Loc), sInv D (mT cI cJ cD) (mW ad cI cJ cD) A s H locs (G, E, Dd) → ∀ (ls : Array Slot), lv_has ls 10 [(2, .int x2), (3, .int x7), (4, .long x12), (6, .long x13), (8, .int x14)] → W p l e R s m args below meth c H locs 0 0 Q (F0 m 32 ls []) := by
        intro n
        induction n with
        | zero => intro x12 x13 x14 hq; exact (lp_0 hq).elim
        | succ n ih1 =>
          intro x12 x13 x14 hq H_22 lo_22 I_22 ls_23 hl_23
          obtain ⟨y1, hf, hK1⟩ := lp_go hq
          replace hf : M_chanceOf_s1 x2 x7 x12 x13 x14 = some y1 := hf
          unfold M_chanceOf_s1 at hf
          refine lv_iload hx hb dX12_chanceOf_32 (lv_at hl_23 4 rfl) ?_
          refine lv_iload_n hx hb dX12_chanceOf_34 rfl (lv_at hl_23 1 rfl) ?_
          refine lv_icmp_gt (tgt := 77) hx hb dX12_chanceOf_35 (by decide) (fun c39 => ?_) (fun c39 => ?_)
          · replace hf := (if_pos c39).symm.trans hf
            cases hf
            cases (show x12 = x15 from hK1)
            exact K1 H_22 lo_22 I_22 ls_23 (lv_sub hl_23 [1, 2] rfl)
          · replace hf := (if_neg c39).symm.trans hf
            refine lv_lload hx hb dX12_chanceOf_38 (lv_at hl_23 2 rfl) ?_
            refine lv_iload hx hb dX12_chanceOf_40 (lv_at hl_23 4 rfl) ?_
            refine lv_iload_n hx hb dX12_chanceOf_42 rfl (lv_at hl_23 0 rfl) ?_
            obtain ⟨x26, hv37, hf⟩ := bd_some hf
            have J25 : ∀ (H : Heap) (locs : List Loc), sInv D (mT cI cJ cD) (mW ad cI cJ cD) A s H locs (G, E, Dd) → ∀ (ls : Array Slot), lv_has ls 10 [(2, .int x2), (3, .int x7), (6, .long x13), (8, .int x14)] → W p l e R s m args below meth c H locs 0 0 Q (F0 m 52 ls [.long x26, .long x12]) := by
              intro H_27 lo_27 I_27 ls_28 hl_28
              refine lv_ladd hx hb dX12_chanceOf_52 ?_
              refine lv_topl (fun x30 ex30 => ?_)
              replace hf := nm_some ex30 hf
              refine lv_lstore (lv' := [(4, .long x30), (2, .int x2), (3, .int x7), (6, .long x13), (8, .int x14)]) hx hb dX12_chanceOf_53 hl_28 (by decide) rfl (fun ls_31 hl_31 => ?_)
              refine lv_lload hx hb dX12_chanceOf_55 (lv_at hl_31 3 rfl) ?_
              refine lv_iload_n hx hb dX12_chanceOf_57 rfl (lv_at hl_31 2 rfl) ?_
              refine lv_iload hx hb dX12_chanceOf_58 (lv_at hl_31 4 rfl) ?_
              refine lv_isub hx hb dX12_chanceOf_60 ?_
              refine lv_i2l hx hb dX12_chanceOf_61 rfl ?_
              refine lv_lmul hx hb dX12_chanceOf_62 ?_
              refine lv_iload hx hb dX12_chanceOf_63 (lv_at hl_31 4 rfl) ?_
              refine lv_iconst (v := (1 : Int32)) hx hb dX12_chanceOf_65 (by decide) ?_
              refine lv_iadd hx hb dX12_chanceOf_66 ?_
              refine lv_i2l hx hb dX12_chanceOf_67 rfl ?_
              obtain ⟨g32, hf⟩ := gd_some hf
              refine lv_ldiv hx hb dX12_chanceOf_68 g32 ?_
              refine lv_topl (fun x33 ex33 => ?_)
              replace hf := nm_some ex33 hf
              refine lv_lstore (lv' := [(6, .long x33), (4, .long x30), (2, .int x2), (3, .int x7), (8, .int x14)]) hx hb dX12_chanceOf_69 hl_31 (by decide) rfl (fun ls_34 hl_34 => ?_)
              obtain ⟨x35, ex35⟩ : ∃ y : Int32, y = x14 + (1 : Int32) := ⟨_, rfl⟩
              replace hf := nm_some ex35 hf
              refine lv_iinc (v := x35) (lv' := [(8, .int x35), (6, .long x33), (4, .long x30), (2, .int x2), (3, .int x7)]) hx hb dX12_chanceOf_71 hl_34 (k := 4) rfl (by rw [ex35]; rfl) (by decide) rfl (fun ls_36 hl_36 => ?_)
              refine lv_goto (tgt := 32) hx hb dX12_chanceOf_74 (by decide) ?_
              cases hf
              exact ih1 _ _ _ hK1 H_27 lo_27 I_27 ls_36 (lv_sub hl_36 [3, 4, 2, 1, 0] rfl)
            replace hf := hv37
            refine lv_icmp_lt (tgt := 51) hx hb dX12_chanceOf_43 (by decide) (fun c38 => ?_) (fun c38 => ?_)
            · replace hf := (if_pos c38).symm.trans hf
              refine lv_lconst (v := (0 : Int64)) hx hb dX12_chanceOf_51 (by decide) ?_
              cases hf
              exact J25 H_22 lo_22 I_22 ls_23 (lv_sub hl_23 [0, 1, 3, 4] rfl)
            · replace hf := (if_neg c38).symm.trans hf
              refine lv_lload hx hb dX12_chanceOf_46 (lv_at hl_23 3 rfl) ?_
              refine lv_goto (tgt := 52) hx hb dX12_chanceOf_48 (by decide) ?_
              cases hf
              exact J25 H_22 lo_22 I_22 ls_23 (lv_sub hl_23 [0, 1, 3, 4] rfl)
      exact L1 FU _ _ _ hq1 H_3 lo_3 I_3 ls_11 (lv_sub hl_11 [4, 3, 2, 1, 0] rfl)
    · replace hf := (if_pos c40).symm.trans hf
      refine lv_ldc2 (v := (281474976710656 : Int64)) hx hb hown (hG _ q1653) dX12_chanceOf_19 ?_
      cases hf
      exact ret H_3 lo_3 _ ls_8 I_3 dX12_chanceOf_22
  replace hf := hv41
  refine lv_icmp_le (tgt := 9) hx hb dX12_chanceOf_2 (by decide) (fun c42 => ?_) (fun c42 => ?_)
  · replace hf := (if_pos c42).symm.trans hf
    refine lv_iload_n hx hb dX12_chanceOf_9 rfl (lv_at hl 1 rfl) ?_
    cases hf
    exact J1 H lo I ls (lv_sub hl [0, 1] rfl)
  · replace hf := (if_neg c42).symm.trans hf
    refine lv_iload_n hx hb dX12_chanceOf_5 rfl (lv_at hl 0 rfl) ?_
    refine lv_goto (tgt := 10) hx hb dX12_chanceOf_6 (by decide) ?_
    cases hf
    exact J1 H lo I ls (lv_sub hl [0, 1] rfl)
def M_chanceNow (G : Nat → Nat → Int32) (a0 : Int32) (a1 : Int32) : Option (Int64) :=
bd (M_wins G a0 a1) fun r1 =>
bd (M_wins G a1 a0) fun r4 =>
bd (M_chanceOf r1 r4) fun r7 =>
some r7
set_option maxRecDepth 100000 in
set_option maxHeartbeats 4000000 in
theorem cM_chanceNow (G : Nat → Nat → Int32) (E : Nat → Nat → Int64) (Dd : Nat → Nat → UInt64) (a0 : Int32) (a1 : Int32) (rv : Int64)  (hf : M_chanceNow G a0 a1 = some rv) : sMl D (mT cI cJ cD) (mW ad cI cJ cD) l yX12_chanceNow (ws1 yX12_chanceNow cX12_chanceNow 3 (some .long)) ({ frames := 3, cells := 0, slots := 0, locals := 72 }) [.ref (ad 0), .int a0, .int a1] (G, E, Dd) (rv, (G, E, Dd)) := by
  unfold M_chanceNow at hf
  refine sMl_of (by decide) (Nat.le_of_ble_eq_true rfl) ?_
  intro p e R s m args below meth c A Q ls H lo F hRf hRl I hl ret
  obtain ⟨hx, hb, hml, hown, hG⟩ := id F
  replace hl : lv_has ls 3 [(0, .ref (ad 0)), (1, .int a0), (2, .int a1)] := hl
  refine lv_aload_n hx hb dX12_chanceNow_0 rfl (lv_at hl 0 rfl) ?_
  refine lv_iload_n hx hb dX12_chanceNow_1 rfl (lv_at hl 1 rfl) ?_
  refine lv_iload_n hx hb dX12_chanceNow_2 rfl (lv_at hl 2 rfl) ?_
  obtain ⟨r1, h2, hf⟩ := bd_some hf
  refine s_callVi (As := [.int a0, .int a1]) (rest := []) F I (cM_wins G E Dd a0 a1 r1 h2) kX12_227 ⟨rfl, rfl⟩ ⟨Nat.le_trans (Nat.le_of_ble_eq_true rfl) hRf, Nat.le_trans (Nat.le_of_ble_eq_true rfl) hRl⟩ (0) 12 rfl rfl rfl rfl rfl hl.1 (Nat.le_of_ble_eq_true rfl) ⟨Nat.zero_le _, Nat.zero_le _⟩ dX12_chanceNow_3 ?_
  intro H_3 lo_3 I_3
  refine lv_aload_n hx hb dX12_chanceNow_6 rfl (lv_at hl 0 rfl) ?_
  refine lv_iload_n hx hb dX12_chanceNow_7 rfl (lv_at hl 2 rfl) ?_
  refine lv_iload_n hx hb dX12_chanceNow_8 rfl (lv_at hl 1 rfl) ?_
  obtain ⟨r4, h5, hf⟩ := bd_some hf
  refine s_callVi (As := [.int a1, .int a0]) (rest := [.int r1]) F I_3 (cM_wins G E Dd a1 a0 r4 h5) kX12_227 ⟨rfl, rfl⟩ ⟨Nat.le_trans (Nat.le_of_ble_eq_true rfl) hRf, Nat.le_trans (Nat.le_of_ble_eq_true rfl) hRl⟩ (0) 12 rfl rfl rfl rfl rfl hl.1 (Nat.le_of_ble_eq_true rfl) ⟨Nat.zero_le _, Nat.zero_le _⟩ dX12_chanceNow_9 ?_
  intro H_6 lo_6 I_6
  obtain ⟨r7, h8, hf⟩ := bd_some hf
  refine s_callSl (As := [.int r1, .int r4]) (rest := []) F I_6 (cM_chanceOf G E Dd r1 r4 r7 h8) kX12_323 ⟨rfl, rfl⟩ ⟨Nat.le_trans (Nat.le_of_ble_eq_true rfl) hRf, Nat.le_trans (Nat.le_of_ble_eq_true rfl) hRl⟩ rfl rfl hl.1 (Nat.le_of_ble_eq_true rfl) ⟨Nat.zero_le _, Nat.zero_le _⟩ dX12_chanceNow_12 ?_
  intro H_9 lo_9 I_9
  cases hf
  exact ret H_9 lo_9 _ ls I_9 dX12_chanceNow_15
def M_chance (G : Nat → Nat → Int32) (a0 : Int32) (a1 : Int32) : Option (Int64 × (Nat → Nat → Int32)) :=
bd (M_isSample G a0) fun r1 =>
bd (if r1 = 0 then
(some (1 : Int32))
else
(bd (M_isSample G a1) fun r16 =>
if r16 = 0 then
(some (1 : Int32))
else
(if a0 = a1 then
(some (2 : Int32))
else
(some (0 : Int32))))) fun x5 =>
nm (wf G 0 x5) fun G9 =>
if G9 0 0 ≤ 0 then
(bd (M_chanceNow G9 a0 a1) fun r11 =>
some (r11, G9))
else
(some ((0 : Int64), G9))
set_option maxRecDepth 100000 in
set_option maxHeartbeats 4000000 in
theorem cM_chance (G : Nat → Nat → Int32) (E : Nat → Nat → Int64) (Dd : Nat → Nat → UInt64) (a0 : Int32) (a1 : Int32) (rv : Int64) (newG : Nat → Nat → Int32) (hf : M_chance G a0 a1 = some (rv, newG)) : sMl D (mT cI cJ cD) (mW ad cI cJ cD) l yX12_chance (ws1 yX12_chance cX12_chance 3 (some .long)) ({ frames := 4, cells := 0, slots := 0, locals := 94 }) [.ref (ad 0), .int a0, .int a1] (G, E, Dd) (rv, (newG, E, Dd)) := by
  unfold M_chance at hf
  refine sMl_of (by decide) (Nat.le_of_ble_eq_true rfl) ?_
  intro p e R s m args below meth c A Q ls H lo F hRf hRl I hl ret
  obtain ⟨hx, hb, hml, hown, hG⟩ := id F
  replace hl : lv_has ls 3 [(0, .ref (ad 0)), (1, .int a0), (2, .int a1)] := hl
  refine lv_aload_n hx hb dX12_chance_0 rfl (lv_at hl 0 rfl) ?_
  refine lv_aload_n hx hb dX12_chance_1 rfl (lv_at hl 0 rfl) ?_
  refine lv_iload_n hx hb dX12_chance_2 rfl (lv_at hl 1 rfl) ?_
  obtain ⟨r1, h2, hf⟩ := bd_some hf
  refine s_callVi (As := [.int a0]) (rest := [.ref (ad 0)]) F I (cM_isSample G E Dd a0 r1 h2) kX12_151 ⟨rfl, rfl⟩ ⟨Nat.le_trans (Nat.le_of_ble_eq_true rfl) hRf, Nat.le_trans (Nat.le_of_ble_eq_true rfl) hRl⟩ (0) 12 rfl rfl rfl rfl rfl hl.1 (Nat.le_of_ble_eq_true rfl) ⟨Nat.zero_le _, Nat.zero_le _⟩ dX12_chance_3 ?_
  intro H_3 lo_3 I_3
  obtain ⟨x5, hv15, hf⟩ := bd_some hf
  have J4 : ∀ (H : Heap) (locs : List Loc), sInv D (mT cI cJ cD) (mW ad cI cJ cD) A s H locs (G, E, Dd) → ∀ (ls : Array Slot), lv_has ls 3 [(0, .ref (ad 0)), (1, .int a0), (2, .int a1)] → W p l e R s m args below meth c H locs 0 0 Q (F0 m 31 ls [.int x5, .ref (ad 0)]) := by
    intro H_6 lo_6 I_6 ls_7 hl_7
    refine mptX12_89_0 F I_6 dX12_chance_31 ?_
    intro H_10 lo_10 G9 eG9 I_10
    replace hf := nm_some eG9 hf
    refine lv_aload_n hx hb dX12_chance_34 rfl (lv_at hl_7 0 rfl) ?_
    refine mgtX12_89_0 F I_10 dX12_chance_35 ?_
    refine lv_if_le (tgt := 45) hx hb dX12_chance_38 (by decide) (fun c14 => ?_) (fun c14 => ?_)
    · replace hf := (if_pos c14).symm.trans hf
      refine lv_aload_n hx hb dX12_chance_45 rfl (lv_at hl_7 0 rfl) ?_
      refine lv_iload_n hx hb dX12_chance_46 rfl (lv_at hl_7 1 rfl) ?_
      refine lv_iload_n hx hb dX12_chance_47 rfl (lv_at hl_7 2 rfl) ?_
      obtain ⟨r11, h12, hf⟩ := bd_some hf
      refine s_callVl (As := [.int a0, .int a1]) (rest := []) F I_10 (cM_chanceNow G9 E Dd a0 a1 r11 h12) kX12_327 ⟨rfl, rfl⟩ ⟨Nat.le_trans (Nat.le_of_ble_eq_true rfl) hRf, Nat.le_trans (Nat.le_of_ble_eq_true rfl) hRl⟩ (0) 12 rfl rfl rfl rfl rfl hl_7.1 (Nat.le_of_ble_eq_true rfl) ⟨Nat.zero_le _, Nat.zero_le _⟩ dX12_chance_48 ?_
      intro H_13 lo_13 I_13
      cases hf
      exact ret H_13 lo_13 _ ls_7 I_13 dX12_chance_51
    · replace hf := (if_neg c14).symm.trans hf
      refine lv_lconst (v := (0 : Int64)) hx hb dX12_chance_41 (by decide) ?_
      refine lv_goto (tgt := 51) hx hb dX12_chance_42 (by decide) ?_
      cases hf
      exact ret H_10 lo_10 _ ls_7 I_10 dX12_chance_51
  replace hf := hv15
  refine lv_if_eq (tgt := 17) hx hb dX12_chance_6 (by decide) (fun c21 => ?_) (fun c21 => ?_)
  · replace hf := (if_pos c21).symm.trans hf
    refine lv_iconst (v := (1 : Int32)) hx hb dX12_chance_17 (by decide) ?_
    refine lv_goto (tgt := 31) hx hb dX12_chance_18 (by decide) ?_
    cases hf
    exact J4 H_3 lo_3 I_3 ls (lv_sub hl [0, 1, 2] rfl)
  · replace hf := (if_neg c21).symm.trans hf
    refine lv_aload_n hx hb dX12_chance_9 rfl (lv_at hl 0 rfl) ?_
    refine lv_iload_n hx hb dX12_chance_10 rfl (lv_at hl 2 rfl) ?_
    obtain ⟨r16, h17, hf⟩ := bd_some hf
    refine s_callVi (As := [.int a1]) (rest := [.ref (ad 0)]) F I_3 (cM_isSample G E Dd a1 r16 h17) kX12_151 ⟨rfl, rfl⟩ ⟨Nat.le_trans (Nat.le_of_ble_eq_true rfl) hRf, Nat.le_trans (Nat.le_of_ble_eq_true rfl) hRl⟩ (0) 12 rfl rfl rfl rfl rfl hl.1 (Nat.le_of_ble_eq_true rfl) ⟨Nat.zero_le _, Nat.zero_le _⟩ dX12_chance_11 ?_
    intro H_18 lo_18 I_18
    refine lv_if_ne (tgt := 21) hx hb dX12_chance_14 (by decide) (fun c20 => ?_) (fun c20 => ?_)
    · replace hf := (if_neg c20).symm.trans hf
      refine lv_iload_n hx hb dX12_chance_21 rfl (lv_at hl 1 rfl) ?_
      refine lv_iload_n hx hb dX12_chance_22 rfl (lv_at hl 2 rfl) ?_
      refine lv_icmp_ne (tgt := 30) hx hb dX12_chance_23 (by decide) (fun c19 => ?_) (fun c19 => ?_)
      · replace hf := (if_neg c19).symm.trans hf
        refine lv_iconst (v := (0 : Int32)) hx hb dX12_chance_30 (by decide) ?_
        cases hf
        exact J4 H_18 lo_18 I_18 ls (lv_sub hl [0, 1, 2] rfl)
      · replace hf := (if_pos c19).symm.trans hf
        refine lv_iconst (v := (2 : Int32)) hx hb dX12_chance_26 (by decide) ?_
        refine lv_goto (tgt := 31) hx hb dX12_chance_27 (by decide) ?_
        cases hf
        exact J4 H_18 lo_18 I_18 ls (lv_sub hl [0, 1, 2] rfl)
    · replace hf := (if_pos c20).symm.trans hf
      refine lv_iconst (v := (1 : Int32)) hx hb dX12_chance_17 (by decide) ?_
      refine lv_goto (tgt := 31) hx hb dX12_chance_18 (by decide) ?_
      cases hf
      exact J4 H_18 lo_18 I_18 ls (lv_sub hl [0, 1, 2] rfl)
def M_placeNow (G : Nat → Nat → Int32) : Option (Int64) :=
bd (M_firsts G (1 : Int32)) fun r1 =>
bd (M_firsts G (2 : Int32)) fun r4 =>
bd (M_chanceOf r1 r4) fun r7 =>
some r7
set_option maxRecDepth 100000 in
set_option maxHeartbeats 4000000 in
theorem cM_placeNow (G : Nat → Nat → Int32) (E : Nat → Nat → Int64) (Dd : Nat → Nat → UInt64)  (rv : Int64)  (hf : M_placeNow G = some rv) : sMl D (mT cI cJ cD) (mW ad cI cJ cD) l yX12_placeNow (ws1 yX12_placeNow cX12_placeNow 1 (some .long)) ({ frames := 1, cells := 0, slots := 0, locals := 29 }) [.ref (ad 0)] (G, E, Dd) (rv, (G, E, Dd)) := by
  unfold M_placeNow at hf
  refine sMl_of (by decide) (Nat.le_of_ble_eq_true rfl) ?_
  intro p e R s m args below meth c A Q ls H lo F hRf hRl I hl ret
  obtain ⟨hx, hb, hml, hown, hG⟩ := id F
  replace hl : lv_has ls 1 [(0, .ref (ad 0))] := hl
  refine lv_aload_n hx hb dX12_placeNow_0 rfl (lv_at hl 0 rfl) ?_
  refine lv_iconst (v := (1 : Int32)) hx hb dX12_placeNow_1 (by decide) ?_
  obtain ⟨r1, h2, hf⟩ := bd_some hf
  refine s_callVi (As := [.int (1 : Int32)]) (rest := []) F I (cM_firsts G E Dd (1 : Int32) r1 h2) kX12_204 ⟨rfl, rfl⟩ ⟨Nat.le_trans (Nat.le_of_ble_eq_true rfl) hRf, Nat.le_trans (Nat.le_of_ble_eq_true rfl) hRl⟩ (0) 12 rfl rfl rfl rfl rfl hl.1 (Nat.le_of_ble_eq_true rfl) ⟨Nat.zero_le _, Nat.zero_le _⟩ dX12_placeNow_2 ?_
  intro H_3 lo_3 I_3
  refine lv_aload_n hx hb dX12_placeNow_5 rfl (lv_at hl 0 rfl) ?_
  refine lv_iconst (v := (2 : Int32)) hx hb dX12_placeNow_6 (by decide) ?_
  obtain ⟨r4, h5, hf⟩ := bd_some hf
  refine s_callVi (As := [.int (2 : Int32)]) (rest := [.int r1]) F I_3 (cM_firsts G E Dd (2 : Int32) r4 h5) kX12_204 ⟨rfl, rfl⟩ ⟨Nat.le_trans (Nat.le_of_ble_eq_true rfl) hRf, Nat.le_trans (Nat.le_of_ble_eq_true rfl) hRl⟩ (0) 12 rfl rfl rfl rfl rfl hl.1 (Nat.le_of_ble_eq_true rfl) ⟨Nat.zero_le _, Nat.zero_le _⟩ dX12_placeNow_7 ?_
  intro H_6 lo_6 I_6
  obtain ⟨r7, h8, hf⟩ := bd_some hf
  refine s_callSl (As := [.int r1, .int r4]) (rest := []) F I_6 (cM_chanceOf G E Dd r1 r4 r7 h8) kX12_323 ⟨rfl, rfl⟩ ⟨Nat.le_trans (Nat.le_of_ble_eq_true rfl) hRf, Nat.le_trans (Nat.le_of_ble_eq_true rfl) hRl⟩ rfl rfl hl.1 (Nat.le_of_ble_eq_true rfl) ⟨Nat.zero_le _, Nat.zero_le _⟩ dX12_placeNow_10 ?_
  intro H_9 lo_9 I_9
  cases hf
  exact ret H_9 lo_9 _ ls I_9 dX12_placeNow_13
def M_placeChance (G : Nat → Nat → Int32) : Option (Int64 × (Nat → Nat → Int32)) :=
nm (wf G 0 (0 : Int32)) fun G1 =>
bd (M_placeNow G1) fun r3 =>
some (r3, G1)
set_option maxRecDepth 100000 in
set_option maxHeartbeats 4000000 in
theorem cM_placeChance (G : Nat → Nat → Int32) (E : Nat → Nat → Int64) (Dd : Nat → Nat → UInt64)  (rv : Int64) (newG : Nat → Nat → Int32) (hf : M_placeChance G = some (rv, newG)) : sMl D (mT cI cJ cD) (mW ad cI cJ cD) l yX12_placeChance (ws1 yX12_placeChance cX12_placeChance 1 (some .long)) ({ frames := 2, cells := 0, slots := 0, locals := 49 }) [.ref (ad 0)] (G, E, Dd) (rv, (newG, E, Dd)) := by
  unfold M_placeChance at hf
  refine sMl_of (by decide) (Nat.le_of_ble_eq_true rfl) ?_
  intro p e R s m args below meth c A Q ls H lo F hRf hRl I hl ret
  obtain ⟨hx, hb, hml, hown, hG⟩ := id F
  replace hl : lv_has ls 1 [(0, .ref (ad 0))] := hl
  refine lv_aload_n hx hb dX12_placeChance_0 rfl (lv_at hl 0 rfl) ?_
  refine lv_iconst (v := (0 : Int32)) hx hb dX12_placeChance_1 (by decide) ?_
  refine mptX12_89_0 F I dX12_placeChance_2 ?_
  intro H_2 lo_2 G1 eG1 I_2
  replace hf := nm_some eG1 hf
  refine lv_aload_n hx hb dX12_placeChance_5 rfl (lv_at hl 0 rfl) ?_
  obtain ⟨r3, h4, hf⟩ := bd_some hf
  refine s_callVl (As := []) (rest := []) F I_2 (cM_placeNow G1 E Dd r3 h4) kX12_330 ⟨rfl, rfl⟩ ⟨Nat.le_trans (Nat.le_of_ble_eq_true rfl) hRf, Nat.le_trans (Nat.le_of_ble_eq_true rfl) hRl⟩ (0) 12 rfl rfl rfl rfl rfl hl.1 (Nat.le_of_ble_eq_true rfl) ⟨Nat.zero_le _, Nat.zero_le _⟩ dX12_placeChance_6 ?_
  intro H_5 lo_5 I_5
  cases hf
  exact ret H_5 lo_5 _ ls I_5 dX12_placeChance_9
def M_addPair_s1 (a2 : Int64) (x3 : Int32) (G4 : Nat → Nat → Int32) (E5 : Nat → Nat → Int64) : Option ((Int32 × (Nat → Nat → Int32) × (Nat → Nat → Int64)) ⊕ (Int32 × (Nat → Nat → Int32) × (Nat → Nat → Int64))) :=
if x3 ≤ 0 then
(some (.inr (x3, G4, E5)))
else
(ri 28 (x3 - (1 : Int32)) <|
if lg_cmp (E5 34 (x3 - (1 : Int32)).toNatClampNeg) a2 ≤ 0 then
(some (.inr (x3, G4, E5)))
else
(ri 28 (x3 - (1 : Int32)) <|
ri 28 x3 <|
nm (wr G4 33 x3 (G4 33 (x3 - (1 : Int32)).toNatClampNeg)) fun G26 =>
ri 28 (x3 - (1 : Int32)) <|
ri 28 x3 <|
nm (wr E5 34 x3 (E5 34 (x3 - (1 : Int32)).toNatClampNeg)) fun E30 =>
nm (x3 + (-1 : Int32) : Int32) fun x32 =>
some (.inl (x32, G26, E30))))
def M_addPair (G : Nat → Nat → Int32) (E : Nat → Nat → Int64) (a0 : Int32) (a1 : Int32) (a2 : Int64) : Option ((Nat → Nat → Int32) × (Nat → Nat → Int64)) :=
nm (G 32 0 : Int32) fun x1 =>
bd3 (lp (fun q => M_addPair_s1 a2 q.1 q.2.1 q.2.2) FU (x1, G, E)) fun x6 G7 E8 =>
ri 28 x6 <|
nm (wr G7 33 x6 (((10 : Int32) * a0) + a1)) fun G13 =>
ri 28 x6 <|
nm (wr E8 34 x6 a2) fun E16 =>
nm (wf G13 32 ((G13 32 0) + (1 : Int32))) fun G18 =>
some (G18, E16)
set_option maxRecDepth 100000 in
set_option maxHeartbeats 4000000 in
theorem cM_addPair (G : Nat → Nat → Int32) (E : Nat → Nat → Int64) (Dd : Nat → Nat → UInt64) (a0 : Int32) (a1 : Int32) (a2 : Int64)  (newG : Nat → Nat → Int32) (newE : Nat → Nat → Int64) (hf : M_addPair G E a0 a1 a2 = some (newG, newE)) : sMv D (mT cI cJ cD) (mW ad cI cJ cD) l yX12_addPair (ws1 yX12_addPair cX12_addPair 6 none) ({ frames := 0, cells := 0, slots := 0, locals := 0 }) [.ref (ad 0), .int a0, .int a1, .long a2] (G, E, Dd) (newG, newE, Dd) := by
  unfold M_addPair at hf
  refine sMv_of (by decide) (Nat.le_of_ble_eq_true rfl) ?_
  intro p e R s m args below meth c A Q ls H lo F hRf hRl I hl ret
  obtain ⟨hx, hb, hml, hown, hG⟩ := id F
  replace hl : lv_has ls 6 [(0, .ref (ad 0)), (1, .int a0), (2, .int a1), (3, .long a2)] := hl
  refine lv_aload_n hx hb dX12_addPair_0 rfl (lv_at hl 0 rfl) ?_
  refine mgtX12_334_0 F I dX12_addPair_1 ?_
  refine lv_topi (fun x1 ex1 => ?_)
  replace hf := nm_some ex1 hf
  refine lv_istore (lv' := [(5, .int x1), (0, .ref (ad 0)), (1, .int a0), (2, .int a1), (3, .long a2)]) hx hb dX12_addPair_4 hl (by decide) rfl (fun ls_2 hl_2 => ?_)
  obtain ⟨x6, G7, E8, hq1, hf⟩ := bd3_some hf
  have K1 : ∀ (H : Heap) (locs : List Loc), sInv D (mT cI cJ cD) (mW ad cI cJ cD) A s H locs (G7, E8, Dd) → ∀ (ls : Array Slot), lv_has ls 6 [(0, .ref (ad 0)), (1, .int a0), (2, .int a1), (3, .long a2), (5, .int x6)] → W p l e R s m args below meth c H locs 0 0 Q (F0 m 63 ls []) := by
    intro H_9 lo_9 I_9 ls_10 hl_10
    refine lv_aload_n hx hb dX12_addPair_63 rfl (lv_at hl_10 0 rfl) ?_
    refine mgtX12_65_0 F I_9 dX12_addPair_64 ?_
    refine lv_iload hx hb dX12_addPair_67 (lv_at hl_10 4 rfl) ?_
    refine lv_bipush (v := (10 : Int32)) hx hb dX12_addPair_69 (by decide) ?_
    refine lv_iload_n hx hb dX12_addPair_71 rfl (lv_at hl_10 1 rfl) ?_
    refine lv_imul hx hb dX12_addPair_72 ?_
    refine lv_iload_n hx hb dX12_addPair_73 rfl (lv_at hl_10 2 rfl) ?_
    refine lv_iadd hx hb dX12_addPair_74 ?_
    obtain ⟨g12, hf⟩ := ri_some hf
    refine mas18 F I_9 g12 dX12_addPair_75 ?_
    intro H_14 lo_14 G13 eG13 I_14
    replace hf := nm_some eG13 hf
    refine lv_aload_n hx hb dX12_addPair_76 rfl (lv_at hl_10 0 rfl) ?_
    refine mgtX12_68_0 F I_14 dX12_addPair_77 ?_
    refine lv_iload hx hb dX12_addPair_80 (lv_at hl_10 4 rfl) ?_
    refine lv_lload_n hx hb dX12_addPair_82 rfl (lv_at hl_10 3 rfl) ?_
    obtain ⟨g15, hf⟩ := ri_some hf
    refine mas19 F I_14 g15 dX12_addPair_83 ?_
    intro H_17 lo_17 E16 eE16 I_17
    replace hf := nm_some eE16 hf
    refine lv_aload_n hx hb dX12_addPair_84 rfl (lv_at hl_10 0 rfl) ?_
    refine lv_dup hx hb dX12_addPair_85 rfl ?_
    refine mgtX12_334_0 F I_17 dX12_addPair_86 ?_
    refine lv_iconst (v := (1 : Int32)) hx hb dX12_addPair_89 (by decide) ?_
    refine lv_iadd hx hb dX12_addPair_90 ?_
    refine mptX12_334_0 F I_17 dX12_addPair_91 ?_
    intro H_19 lo_19 G18 eG18 I_19
    replace hf := nm_some eG18 hf
    cases hf
    exact ret H_19 lo_19 _ ls_10 I_19 dX12_addPair_94
  have L1 : ∀ (n : Nat) (x3 : Int32) (G4 : Nat → Nat → Int32) (E5 : Nat → Nat → Int64), lp (fun q => M_addPair_s1 a2 q.1 q.2.1 q.2.2) n (x3, G4, E5) = some (x6, G7, E8) → ∀ (H : Heap) (locs : List Loc), sInv D (mT cI cJ cD) (mW ad cI cJ cD) A s H locs (G4, E5, Dd) → ∀ (ls : Array Slot), lv_has ls 6 [(0, .ref (ad 0)), (1, .int a0), (2, .int a1), (3, .long a2), (5, .int x3)] → W p l e R s m args below meth c H locs 0 0 Q (F0 m 6 ls []) := by
    intro n
    induction n with
    | zero => intro x3 G4 E5 hq; exact (lp_0 hq).elim
    | succ n ih1 =>
      intro x3 G4 E5 hq H_20 lo_20 I_20 ls_21 hl_21
      obtain ⟨y1, hf, hK1⟩ := lp_go hq
      replace hf : M_addPair_s1 a2 x3 G4 E5 = some y1 := hf
      unfold M_addPair_s1 at hf
      refine lv_iload hx hb dX12_addPair_6 (lv_at hl_21 4 rfl) ?_
      refine lv_if_le (tgt := 63) hx hb dX12_addPair_8 (by decide) (fun c35 => ?_) (fun c35 => ?_)
      · replace hf := (if_pos c35).symm.trans hf
        cases hf
        cases (show (x3, G4, E5) = (x6, G7, E8) from hK1)
        exact K1 H_20 lo_20 I_20 ls_21 (lv_sub hl_21 [0, 1, 2, 3, 4] rfl)
      · replace hf := (if_neg c35).symm.trans hf
        refine lv_aload_n hx hb dX12_addPair_11 rfl (lv_at hl_21 0 rfl) ?_
        refine mgtX12_68_0 F I_20 dX12_addPair_12 ?_
        refine lv_iload hx hb dX12_addPair_15 (lv_at hl_21 4 rfl) ?_
        refine lv_iconst (v := (1 : Int32)) hx hb dX12_addPair_17 (by decide) ?_
        refine lv_isub hx hb dX12_addPair_18 ?_
        obtain ⟨g23, hf⟩ := ri_some hf
        refine mal19 F I_20 g23 dX12_addPair_19 ?_
        refine lv_lload_n hx hb dX12_addPair_20 rfl (lv_at hl_21 3 rfl) ?_
        refine W.lcmp hx hb dX12_addPair_21 ?_
        refine lv_if_le (tgt := 63) hx hb dX12_addPair_22 (by decide) (fun c34 => ?_) (fun c34 => ?_)
        · replace hf := (if_pos c34).symm.trans hf
          cases hf
          cases (show (x3, G4, E5) = (x6, G7, E8) from hK1)
          exact K1 H_20 lo_20 I_20 ls_21 (lv_sub hl_21 [0, 1, 2, 3, 4] rfl)
        · replace hf := (if_neg c34).symm.trans hf
          refine lv_aload_n hx hb dX12_addPair_25 rfl (lv_at hl_21 0 rfl) ?_
          refine mgtX12_65_0 F I_20 dX12_addPair_26 ?_
          refine lv_iload hx hb dX12_addPair_29 (lv_at hl_21 4 rfl) ?_
          refine lv_aload_n hx hb dX12_addPair_31 rfl (lv_at hl_21 0 rfl) ?_
          refine mgtX12_65_0 F I_20 dX12_addPair_32 ?_
          refine lv_iload hx hb dX12_addPair_35 (lv_at hl_21 4 rfl) ?_
          refine lv_iconst (v := (1 : Int32)) hx hb dX12_addPair_37 (by decide) ?_
          refine lv_isub hx hb dX12_addPair_38 ?_
          obtain ⟨g24, hf⟩ := ri_some hf
          refine mal18 F I_20 g24 dX12_addPair_39 ?_
          obtain ⟨g25, hf⟩ := ri_some hf
          refine mas18 F I_20 g25 dX12_addPair_40 ?_
          intro H_27 lo_27 G26 eG26 I_27
          replace hf := nm_some eG26 hf
          refine lv_aload_n hx hb dX12_addPair_41 rfl (lv_at hl_21 0 rfl) ?_
          refine mgtX12_68_0 F I_27 dX12_addPair_42 ?_
          refine lv_iload hx hb dX12_addPair_45 (lv_at hl_21 4 rfl) ?_
          refine lv_aload_n hx hb dX12_addPair_47 rfl (lv_at hl_21 0 rfl) ?_
          refine mgtX12_68_0 F I_27 dX12_addPair_48 ?_
          refine lv_iload hx hb dX12_addPair_51 (lv_at hl_21 4 rfl) ?_
          refine lv_iconst (v := (1 : Int32)) hx hb dX12_addPair_53 (by decide) ?_
          refine lv_isub hx hb dX12_addPair_54 ?_
          obtain ⟨g28, hf⟩ := ri_some hf
          refine mal19 F I_27 g28 dX12_addPair_55 ?_
          obtain ⟨g29, hf⟩ := ri_some hf
          refine mas19 F I_27 g29 dX12_addPair_56 ?_
          intro H_31 lo_31 E30 eE30 I_31
          replace hf := nm_some eE30 hf
          obtain ⟨x32, ex32⟩ : ∃ y : Int32, y = x3 + (-1 : Int32) := ⟨_, rfl⟩
          replace hf := nm_some ex32 hf
          refine lv_iinc (v := x32) (lv' := [(5, .int x32), (0, .ref (ad 0)), (1, .int a0), (2, .int a1), (3, .long a2)]) hx hb dX12_addPair_57 hl_21 (k := 4) rfl (by rw [ex32]; rfl) (by decide) rfl (fun ls_33 hl_33 => ?_)
          refine lv_goto (tgt := 6) hx hb dX12_addPair_60 (by decide) ?_
          cases hf
          exact ih1 _ _ _ hK1 H_31 lo_31 I_31 ls_33 (lv_sub hl_33 [1, 2, 3, 4, 0] rfl)
  exact L1 FU _ _ _ hq1 H lo I ls_2 (lv_sub hl_2 [1, 2, 3, 4, 0] rfl)
def M_layPairs_s2 (x4 : Int32) (x17 : Int32) (G18 : Nat → Nat → Int32) (E19 : Nat → Nat → Int64) : Option ((Int32 × (Nat → Nat → Int32) × (Nat → Nat → Int64)) ⊕ ((Nat → Nat → Int32) × (Nat → Nat → Int64))) :=
if G18 1 0 ≤ x17 then
(some (.inr (G18, E19)))
else
(bd (M_wins G18 x4 x17) fun r30 =>
bd (M_wins G18 x17 x4) fun r33 =>
bd2 (if r30 + r33 ≤ 0 then
(some (G18, E19))
else
(bd (M_chanceNow G18 x4 x17) fun r45 =>
bd2 (M_addPair G18 E19 x4 x17 r45) fun G48 E49 =>
some (G48, E49))) fun G37 E38 =>
nm (x17 + (1 : Int32) : Int32) fun x42 =>
some (.inl (x42, G37, E38)))
def M_layPairs_s1  (x4 : Int32) (G5 : Nat → Nat → Int32) (E6 : Nat → Nat → Int64) : Option ((Int32 × (Nat → Nat → Int32) × (Nat → Nat → Int64)) ⊕ ((Nat → Nat → Int32) × (Nat → Nat → Int64))) :=
if G5 1 0 ≤ x4 then
(some (.inr (G5, E6)))
else
(nm (x4 + (1 : Int32) : Int32) fun x15 =>
bd2 (lp (fun q => M_layPairs_s2 x4 q.1 q.2.1 q.2.2) FU (x15, G5, E6)) fun G20 E21 =>
nm (x4 + (1 : Int32) : Int32) fun x25 =>
some (.inl (x25, G20, E21)))
def M_layPairs (G : Nat → Nat → Int32) (E : Nat → Nat → Int64) : Option ((Nat → Nat → Int32) × (Nat → Nat → Int64)) :=
nm (wf G 32 (0 : Int32)) fun G1 =>
bd2 (lp (fun q => M_layPairs_s1 q.1 q.2.1 q.2.2) FU ((0 : Int32), G1, E)) fun G7 E8 =>
some (G7, E8)
set_option maxRecDepth 100000 in
set_option maxHeartbeats 4000000 in
theorem cM_layPairs (G : Nat → Nat → Int32) (E : Nat → Nat → Int64) (Dd : Nat → Nat → UInt64)   (newG : Nat → Nat → Int32) (newE : Nat → Nat → Int64) (hf : M_layPairs G E = some (newG, newE)) : sMv D (mT cI cJ cD) (mW ad cI cJ cD) l yX12_layPairs (ws1 yX12_layPairs cX12_layPairs 3 none) ({ frames := 4, cells := 0, slots := 0, locals := 94 }) [.ref (ad 0)] (G, E, Dd) (newG, newE, Dd) := by
  unfold M_layPairs at hf
  refine sMv_of (by decide) (Nat.le_of_ble_eq_true rfl) ?_
  intro p e R s m args below meth c A Q ls H lo F hRf hRl I hl ret
  obtain ⟨hx, hb, hml, hown, hG⟩ := id F
  replace hl : lv_has ls 3 [(0, .ref (ad 0))] := hl
  refine lv_aload_n hx hb dX12_layPairs_0 rfl (lv_at hl 0 rfl) ?_
  refine lv_iconst (v := (0 : Int32)) hx hb dX12_layPairs_1 (by decide) ?_
  refine mptX12_334_0 F I dX12_layPairs_2 ?_
  intro H_2 lo_2 G1 eG1 I_2
  replace hf := nm_some eG1 hf
  refine lv_iconst (v := (0 : Int32)) hx hb dX12_layPairs_5 (by decide) ?_
  refine lv_istore_n (lv' := [(1, .int (0 : Int32)), (0, .ref (ad 0))]) hx hb dX12_layPairs_6 rfl hl (by decide) rfl (fun ls_3 hl_3 => ?_)
  obtain ⟨G7, E8, hq1, hf⟩ := bd2_some hf
  have K1 : ∀ (H : Heap) (locs : List Loc), sInv D (mT cI cJ cD) (mW ad cI cJ cD) A s H locs (G7, E8, Dd) → ∀ (ls : Array Slot), lv_has ls 3 [] → W p l e R s m args below meth c H locs 0 0 Q (F0 m 67 ls []) := by
    intro H_9 lo_9 I_9 ls_10 hl_10
    cases hf
    exact ret H_9 lo_9 _ ls_10 I_9 dX12_layPairs_67
  have L1 : ∀ (n : Nat) (x4 : Int32) (G5 : Nat → Nat → Int32) (E6 : Nat → Nat → Int64), lp (fun q => M_layPairs_s1 q.1 q.2.1 q.2.2) n (x4, G5, E6) = some (G7, E8) → ∀ (H : Heap) (locs : List Loc), sInv D (mT cI cJ cD) (mW ad cI cJ cD) A s H locs (G5, E6, Dd) → ∀ (ls : Array Slot), lv_has ls 3 [(0, .ref (ad 0)), (1, .int x4)] → W p l e R s m args below meth c H locs 0 0 Q (F0 m 7 ls []) := by
    intro n
    induction n with
    | zero => intro x4 G5 E6 hq; exact (lp_0 hq).elim
    | succ n ih1 =>
      intro x4 G5 E6 hq H_12 lo_12 I_12 ls_13 hl_13
      obtain ⟨y1, hf, hK1⟩ := lp_go hq
      replace hf : M_layPairs_s1 x4 G5 E6 = some y1 := hf
      unfold M_layPairs_s1 at hf
      refine lv_iload_n hx hb dX12_layPairs_7 rfl (lv_at hl_13 1 rfl) ?_
      refine lv_aload_n hx hb dX12_layPairs_8 rfl (lv_at hl_13 0 rfl) ?_
      refine mgtX12_92_0 F I_12 dX12_layPairs_9 ?_
      refine lv_icmp_ge (tgt := 67) hx hb dX12_layPairs_12 (by decide) (fun c54 => ?_) (fun c54 => ?_)
      · replace hf := (if_pos c54).symm.trans hf
        cases hf
        cases (show (G5, E6) = (G7, E8) from hK1)
        exact K1 H_12 lo_12 I_12 ls_13 (lv_sub hl_13 [] rfl)
      · replace hf := (if_neg c54).symm.trans hf
        refine lv_iload_n hx hb dX12_layPairs_15 rfl (lv_at hl_13 1 rfl) ?_
        refine lv_iconst (v := (1 : Int32)) hx hb dX12_layPairs_16 (by decide) ?_
        refine lv_iadd hx hb dX12_layPairs_17 ?_
        refine lv_topi (fun x15 ex15 => ?_)
        replace hf := nm_some ex15 hf
        refine lv_istore_n (lv' := [(2, .int x15), (0, .ref (ad 0)), (1, .int x4)]) hx hb dX12_layPairs_18 rfl hl_13 (by decide) rfl (fun ls_16 hl_16 => ?_)
        obtain ⟨G20, E21, hq2, hf⟩ := bd2_some hf
        have K2 : ∀ (H : Heap) (locs : List Loc), sInv D (mT cI cJ cD) (mW ad cI cJ cD) A s H locs (G20, E21, Dd) → ∀ (ls : Array Slot), lv_has ls 3 [(0, .ref (ad 0)), (1, .int x4)] → W p l e R s m args below meth c H locs 0 0 Q (F0 m 61 ls []) := by
          intro H_22 lo_22 I_22 ls_23 hl_23
          obtain ⟨x25, ex25⟩ : ∃ y : Int32, y = x4 + (1 : Int32) := ⟨_, rfl⟩
          replace hf := nm_some ex25 hf
          refine lv_iinc (v := x25) (lv' := [(1, .int x25), (0, .ref (ad 0))]) hx hb dX12_layPairs_61 hl_23 (k := 1) rfl (by rw [ex25]; rfl) (by decide) rfl (fun ls_26 hl_26 => ?_)
          refine lv_goto (tgt := 7) hx hb dX12_layPairs_64 (by decide) ?_
          cases hf
          exact ih1 _ _ _ hK1 H_22 lo_22 I_22 ls_26 (lv_sub hl_26 [1, 0] rfl)
        have L2 : ∀ (n : Nat) (x17 : Int32) (G18 : Nat → Nat → Int32) (E19 : Nat → Nat → Int64), lp (fun q => M_layPairs_s2 x4 q.1 q.2.1 q.2.2) n (x17, G18, E19) = some (G20, E21) → ∀ (H : Heap) (locs : List Loc), sInv D (mT cI cJ cD) (mW ad cI cJ cD) A s H locs (G18, E19, Dd) → ∀ (ls : Array Slot), lv_has ls 3 [(0, .ref (ad 0)), (1, .int x4), (2, .int x17)] → W p l e R s m args below meth c H locs 0 0 Q (F0 m 19 ls []) := by
          intro n
          induction n with
          | zero => intro x17 G18 E19 hq; exact (lp_0 hq).elim
          | succ n ih2 =>
            intro x17 G18 E19 hq H_27 lo_27 I_27 ls_28 hl_28
            obtain ⟨y2, hf, hK2⟩ := lp_go hq
            replace hf : M_layPairs_s2 x4 x17 G18 E19 = some y2 := hf
            unfold M_layPairs_s2 at hf
            refine lv_iload_n hx hb dX12_layPairs_19 rfl (lv_at hl_28 2 rfl) ?_
            refine lv_aload_n hx hb dX12_layPairs_20 rfl (lv_at hl_28 0 rfl) ?_
            refine mgtX12_92_0 F I_27 dX12_layPairs_21 ?_
            refine lv_icmp_ge (tgt := 61) hx hb dX12_layPairs_24 (by decide) (fun c53 => ?_) (fun c53 => ?_)
            · replace hf := (if_pos c53).symm.trans hf
              cases hf
              cases (show (G18, E19) = (G20, E21) from hK2)
              exact K2 H_27 lo_27 I_27 ls_28 (lv_sub hl_28 [0, 1] rfl)
            · replace hf := (if_neg c53).symm.trans hf
              refine lv_aload_n hx hb dX12_layPairs_27 rfl (lv_at hl_28 0 rfl) ?_
              refine lv_iload_n hx hb dX12_layPairs_28 rfl (lv_at hl_28 1 rfl) ?_
              refine lv_iload_n hx hb dX12_layPairs_29 rfl (lv_at hl_28 2 rfl) ?_
              obtain ⟨r30, h31, hf⟩ := bd_some hf
              refine s_callVi (As := [.int x4, .int x17]) (rest := []) F I_27 (cM_wins G18 E19 Dd x4 x17 r30 h31) kX12_227 ⟨rfl, rfl⟩ ⟨Nat.le_trans (Nat.le_of_ble_eq_true rfl) hRf, Nat.le_trans (Nat.le_of_ble_eq_true rfl) hRl⟩ (0) 12 rfl rfl rfl rfl rfl hl_28.1 (Nat.le_of_ble_eq_true rfl) ⟨Nat.zero_le _, Nat.zero_le _⟩ dX12_layPairs_30 ?_
              intro H_32 lo_32 I_32
              refine lv_aload_n hx hb dX12_layPairs_33 rfl (lv_at hl_28 0 rfl) ?_
              refine lv_iload_n hx hb dX12_layPairs_34 rfl (lv_at hl_28 2 rfl) ?_
              refine lv_iload_n hx hb dX12_layPairs_35 rfl (lv_at hl_28 1 rfl) ?_
              obtain ⟨r33, h34, hf⟩ := bd_some hf
              refine s_callVi (As := [.int x17, .int x4]) (rest := [.int r30]) F I_32 (cM_wins G18 E19 Dd x17 x4 r33 h34) kX12_227 ⟨rfl, rfl⟩ ⟨Nat.le_trans (Nat.le_of_ble_eq_true rfl) hRf, Nat.le_trans (Nat.le_of_ble_eq_true rfl) hRl⟩ (0) 12 rfl rfl rfl rfl rfl hl_28.1 (Nat.le_of_ble_eq_true rfl) ⟨Nat.zero_le _, Nat.zero_le _⟩ dX12_layPairs_36 ?_
              intro H_35 lo_35 I_35
              refine lv_iadd hx hb dX12_layPairs_39 ?_
              obtain ⟨G37, E38, hv44, hf⟩ := bd2_some hf
              have J36 : ∀ (H : Heap) (locs : List Loc), sInv D (mT cI cJ cD) (mW ad cI cJ cD) A s H locs (G37, E38, Dd) → ∀ (ls : Array Slot), lv_has ls 3 [(0, .ref (ad 0)), (1, .int x4), (2, .int x17)] → W p l e R s m args below meth c H locs 0 0 Q (F0 m 55 ls []) := by
                intro H_39 lo_39 I_39 ls_40 hl_40
                obtain ⟨x42, ex42⟩ : ∃ y : Int32, y = x17 + (1 : Int32) := ⟨_, rfl⟩
                replace hf := nm_some ex42 hf
                refine lv_iinc (v := x42) (lv' := [(2, .int x42), (0, .ref (ad 0)), (1, .int x4)]) hx hb dX12_layPairs_55 hl_40 (k := 2) rfl (by rw [ex42]; rfl) (by decide) rfl (fun ls_43 hl_43 => ?_)
                refine lv_goto (tgt := 19) hx hb dX12_layPairs_58 (by decide) ?_
                cases hf
                exact ih2 _ _ _ hK2 H_39 lo_39 I_39 ls_43 (lv_sub hl_43 [1, 2, 0] rfl)
              replace hf := hv44
              refine lv_if_le (tgt := 55) hx hb dX12_layPairs_40 (by decide) (fun c52 => ?_) (fun c52 => ?_)
              · replace hf := (if_pos c52).symm.trans hf
                cases hf
                exact J36 H_35 lo_35 I_35 ls_28 (lv_sub hl_28 [0, 1, 2] rfl)
              · replace hf := (if_neg c52).symm.trans hf
                refine lv_aload_n hx hb dX12_layPairs_43 rfl (lv_at hl_28 0 rfl) ?_
                refine lv_iload_n hx hb dX12_layPairs_44 rfl (lv_at hl_28 1 rfl) ?_
                refine lv_iload_n hx hb dX12_layPairs_45 rfl (lv_at hl_28 2 rfl) ?_
                refine lv_aload_n hx hb dX12_layPairs_46 rfl (lv_at hl_28 0 rfl) ?_
                refine lv_iload_n hx hb dX12_layPairs_47 rfl (lv_at hl_28 1 rfl) ?_
                refine lv_iload_n hx hb dX12_layPairs_48 rfl (lv_at hl_28 2 rfl) ?_
                obtain ⟨r45, h46, hf⟩ := bd_some hf
                refine s_callVl (As := [.int x4, .int x17]) (rest := [.int x17, .int x4, .ref (ad 0)]) F I_35 (cM_chanceNow G18 E19 Dd x4 x17 r45 h46) kX12_327 ⟨rfl, rfl⟩ ⟨Nat.le_trans (Nat.le_of_ble_eq_true rfl) hRf, Nat.le_trans (Nat.le_of_ble_eq_true rfl) hRl⟩ (0) 12 rfl rfl rfl rfl rfl hl_28.1 (Nat.le_of_ble_eq_true rfl) ⟨Nat.zero_le _, Nat.zero_le _⟩ dX12_layPairs_49 ?_
                intro H_47 lo_47 I_47
                obtain ⟨G48, E49, h50, hf⟩ := bd2_some hf
                refine s_callVv (As := [.int x4, .int x17, .long r45]) (rest := []) F I_47 (cM_addPair G18 E19 Dd x4 x17 r45 G48 E49 h50) kX12_337 ⟨rfl, rfl⟩ ⟨Nat.le_trans (Nat.le_of_ble_eq_true rfl) hRf, Nat.le_trans (Nat.le_of_ble_eq_true rfl) hRl⟩ (0) 12 rfl rfl rfl rfl rfl hl_28.1 (Nat.le_of_ble_eq_true rfl) ⟨Nat.zero_le _, Nat.zero_le _⟩ dX12_layPairs_52 ?_
                intro H_51 lo_51 I_51
                cases hf
                exact J36 H_51 lo_51 I_51 ls_28 (lv_sub hl_28 [0, 1, 2] rfl)
        exact L2 FU _ _ _ hq2 H_12 lo_12 I_12 ls_16 (lv_sub hl_16 [1, 2, 0] rfl)
  exact L1 FU _ _ _ hq1 H_2 lo_2 I_2 ls_3 (lv_sub hl_3 [1, 0] rfl)
def M_provedMany_s1 (a0 : Int32) (G1 : Nat → Nat → Int32) (E2 : Nat → Nat → Int64) (x6 : Int32) : Option ((Int32) ⊕ (Int32)) :=
if G1 32 0 ≤ x6 then
(some (.inr x6))
else
(ri 28 x6 <|
if 0 < lg_cmp (((E2 34 x6.toNatClampNeg) * (1000 : Int64)) * (((G1 32 0) - x6).toInt64)) (a0.toInt64 * (281474976710656 : Int64)) then
(some (.inr x6))
else
(nm (x6 + (1 : Int32) : Int32) fun x15 =>
some (.inl x15)))
def M_provedMany (G : Nat → Nat → Int32) (E : Nat → Nat → Int64) (a0 : Int32) : Option (Int32 × (Nat → Nat → Int32) × (Nat → Nat → Int64)) :=
bd2 (M_layPairs G E) fun G1 E2 =>
bd (lp (fun q => M_provedMany_s1 a0 G1 E2 q) FU (0 : Int32)) fun x7 =>
some (x7, G1, E2)
set_option maxRecDepth 100000 in
set_option maxHeartbeats 4000000 in
theorem cM_provedMany (G : Nat → Nat → Int32) (E : Nat → Nat → Int64) (Dd : Nat → Nat → UInt64) (a0 : Int32) (rv : Int32) (newG : Nat → Nat → Int32) (newE : Nat → Nat → Int64) (hf : M_provedMany G E a0 = some (rv, newG, newE)) : sMi D (mT cI cJ cD) (mW ad cI cJ cD) l yX12_provedMany (ws1 yX12_provedMany cX12_provedMany 3 (some .int)) ({ frames := 5, cells := 0, slots := 0, locals := 116 }) [.ref (ad 0), .int a0] (G, E, Dd) (rv, (newG, newE, Dd)) := by
  unfold M_provedMany at hf
  refine sMi_of (by decide) (Nat.le_of_ble_eq_true rfl) ?_
  intro p e R s m args below meth c A Q ls H lo F hRf hRl I hl ret
  obtain ⟨hx, hb, hml, hown, hG⟩ := id F
  replace hl : lv_has ls 3 [(0, .ref (ad 0)), (1, .int a0)] := hl
  refine lv_aload_n hx hb dX12_provedMany_0 rfl (lv_at hl 0 rfl) ?_
  obtain ⟨G1, E2, h3, hf⟩ := bd2_some hf
  refine s_callVv (As := []) (rest := []) F I (cM_layPairs G E Dd G1 E2 h3) kX12_341 ⟨rfl, rfl⟩ ⟨Nat.le_trans (Nat.le_of_ble_eq_true rfl) hRf, Nat.le_trans (Nat.le_of_ble_eq_true rfl) hRl⟩ (0) 12 rfl rfl rfl rfl rfl hl.1 (Nat.le_of_ble_eq_true rfl) ⟨Nat.zero_le _, Nat.zero_le _⟩ dX12_provedMany_1 ?_
  intro H_4 lo_4 I_4
  refine lv_iconst (v := (0 : Int32)) hx hb dX12_provedMany_4 (by decide) ?_
  refine lv_istore_n (lv' := [(2, .int (0 : Int32)), (0, .ref (ad 0)), (1, .int a0)]) hx hb dX12_provedMany_5 rfl hl (by decide) rfl (fun ls_5 hl_5 => ?_)
  obtain ⟨x7, hq1, hf⟩ := bd_some hf
  have K1 : ∀ (H : Heap) (locs : List Loc), sInv D (mT cI cJ cD) (mW ad cI cJ cD) A s H locs (G1, E2, Dd) → ∀ (ls : Array Slot), lv_has ls 3 [(2, .int x7)] → W p l e R s m args below meth c H locs 0 0 Q (F0 m 48 ls []) := by
    intro H_8 lo_8 I_8 ls_9 hl_9
    refine lv_iload_n hx hb dX12_provedMany_48 rfl (lv_at hl_9 0 rfl) ?_
    cases hf
    exact ret H_8 lo_8 _ ls_9 I_8 dX12_provedMany_49
  have L1 : ∀ (n : Nat) (x6 : Int32), lp (fun q => M_provedMany_s1 a0 G1 E2 q) n x6 = some x7 → ∀ (H : Heap) (locs : List Loc), sInv D (mT cI cJ cD) (mW ad cI cJ cD) A s H locs (G1, E2, Dd) → ∀ (ls : Array Slot), lv_has ls 3 [(0, .ref (ad 0)), (1, .int a0), (2, .int x6)] → W p l e R s m args below meth c H locs 0 0 Q (F0 m 6 ls []) := by
    intro n
    induction n with
    | zero => intro x6 hq; exact (lp_0 hq).elim
    | succ n ih1 =>
      intro x6 hq H_11 lo_11 I_11 ls_12 hl_12
      obtain ⟨y1, hf, hK1⟩ := lp_go hq
      replace hf : M_provedMany_s1 a0 G1 E2 x6 = some y1 := hf
      unfold M_provedMany_s1 at hf
      refine lv_iload_n hx hb dX12_provedMany_6 rfl (lv_at hl_12 2 rfl) ?_
      refine lv_aload_n hx hb dX12_provedMany_7 rfl (lv_at hl_12 0 rfl) ?_
      refine mgtX12_334_0 F I_11 dX12_provedMany_8 ?_
      refine lv_icmp_ge (tgt := 48) hx hb dX12_provedMany_11 (by decide) (fun c18 => ?_) (fun c18 => ?_)
      · replace hf := (if_pos c18).symm.trans hf
        cases hf
        cases (show x6 = x7 from hK1)
        exact K1 H_11 lo_11 I_11 ls_12 (lv_sub hl_12 [2] rfl)
      · replace hf := (if_neg c18).symm.trans hf
        refine lv_aload_n hx hb dX12_provedMany_14 rfl (lv_at hl_12 0 rfl) ?_
        refine mgtX12_68_0 F I_11 dX12_provedMany_15 ?_
        refine lv_iload_n hx hb dX12_provedMany_18 rfl (lv_at hl_12 2 rfl) ?_
        obtain ⟨g14, hf⟩ := ri_some hf
        refine mal19 F I_11 g14 dX12_provedMany_19 ?_
        refine lv_ldc2 (v := (1000 : Int64)) hx hb hown (hG _ q1679) dX12_provedMany_20 ?_
        refine lv_lmul hx hb dX12_provedMany_23 ?_
        refine lv_aload_n hx hb dX12_provedMany_24 rfl (lv_at hl_12 0 rfl) ?_
        refine mgtX12_334_0 F I_11 dX12_provedMany_25 ?_
        refine lv_iload_n hx hb dX12_provedMany_28 rfl (lv_at hl_12 2 rfl) ?_
        refine lv_isub hx hb dX12_provedMany_29 ?_
        refine lv_i2l hx hb dX12_provedMany_30 rfl ?_
        refine lv_lmul hx hb dX12_provedMany_31 ?_
        refine lv_iload_n hx hb dX12_provedMany_32 rfl (lv_at hl_12 1 rfl) ?_
        refine lv_i2l hx hb dX12_provedMany_33 rfl ?_
        refine lv_ldc2 (v := (281474976710656 : Int64)) hx hb hown (hG _ q1653) dX12_provedMany_34 ?_
        refine lv_lmul hx hb dX12_provedMany_37 ?_
        refine W.lcmp hx hb dX12_provedMany_38 ?_
        refine lv_if_gt (tgt := 48) hx hb dX12_provedMany_39 (by decide) (fun c17 => ?_) (fun c17 => ?_)
        · replace hf := (if_pos c17).symm.trans hf
          cases hf
          cases (show x6 = x7 from hK1)
          exact K1 H_11 lo_11 I_11 ls_12 (lv_sub hl_12 [2] rfl)
        · replace hf := (if_neg c17).symm.trans hf
          obtain ⟨x15, ex15⟩ : ∃ y : Int32, y = x6 + (1 : Int32) := ⟨_, rfl⟩
          replace hf := nm_some ex15 hf
          refine lv_iinc (v := x15) (lv' := [(2, .int x15), (0, .ref (ad 0)), (1, .int a0)]) hx hb dX12_provedMany_42 hl_12 (k := 2) rfl (by rw [ex15]; rfl) (by decide) rfl (fun ls_16 hl_16 => ?_)
          refine lv_goto (tgt := 6) hx hb dX12_provedMany_45 (by decide) ?_
          cases hf
          exact ih1 _ hK1 H_11 lo_11 I_11 ls_16 (lv_sub hl_16 [1, 2, 0] rfl)
  exact L1 FU _ hq1 H_4 lo_4 I_4 ls_5 (lv_sub hl_5 [1, 2, 0] rfl)
def M_provedAt (G : Nat → Nat → Int32) (a0 : Int32) : Option (Int32) :=
ri 28 a0 <|
nm ((G 33 a0.toNatClampNeg) / (10 : Int32) : Int32) fun x2 =>
ri 28 a0 <|
nm ((G 33 a0.toNatClampNeg) - (G 33 a0.toNatClampNeg) / (10 : Int32) * (10 : Int32) : Int32) fun x5 =>
bd (M_wins G x5 x2) fun r7 =>
bd (M_wins G x2 x5) fun r10 =>
if r7 ≤ r10 then
(some (((10 : Int32) * x2) + x5))
else
(some (((10 : Int32) * x5) + x2))
set_option maxRecDepth 100000 in
set_option maxHeartbeats 4000000 in
theorem cM_provedAt (G : Nat → Nat → Int32) (E : Nat → Nat → Int64) (Dd : Nat → Nat → UInt64) (a0 : Int32) (rv : Int32)  (hf : M_provedAt G a0 = some rv) : sMi D (mT cI cJ cD) (mW ad cI cJ cD) l yX12_provedAt (ws1 yX12_provedAt cX12_provedAt 4 (some .int)) ({ frames := 3, cells := 0, slots := 0, locals := 72 }) [.ref (ad 0), .int a0] (G, E, Dd) (rv, (G, E, Dd)) := by
  unfold M_provedAt at hf
  refine sMi_of (by decide) (Nat.le_of_ble_eq_true rfl) ?_
  intro p e R s m args below meth c A Q ls H lo F hRf hRl I hl ret
  obtain ⟨hx, hb, hml, hown, hG⟩ := id F
  replace hl : lv_has ls 4 [(0, .ref (ad 0)), (1, .int a0)] := hl
  refine lv_aload_n hx hb dX12_provedAt_0 rfl (lv_at hl 0 rfl) ?_
  refine mgtX12_65_0 F I dX12_provedAt_1 ?_
  refine lv_iload_n hx hb dX12_provedAt_4 rfl (lv_at hl 1 rfl) ?_
  obtain ⟨g1, hf⟩ := ri_some hf
  refine mal18 F I g1 dX12_provedAt_5 ?_
  refine lv_bipush (v := (10 : Int32)) hx hb dX12_provedAt_6 (by decide) ?_
  refine lv_idiv hx hb dX12_provedAt_8 (by decide) ?_
  refine lv_topi (fun x2 ex2 => ?_)
  replace hf := nm_some ex2 hf
  refine lv_istore_n (lv' := [(2, .int x2), (0, .ref (ad 0)), (1, .int a0)]) hx hb dX12_provedAt_9 rfl hl (by decide) rfl (fun ls_3 hl_3 => ?_)
  refine lv_aload_n hx hb dX12_provedAt_10 rfl (lv_at hl_3 1 rfl) ?_
  refine mgtX12_65_0 F I dX12_provedAt_11 ?_
  refine lv_iload_n hx hb dX12_provedAt_14 rfl (lv_at hl_3 2 rfl) ?_
  obtain ⟨g4, hf⟩ := ri_some hf
  refine mal18 F I g4 dX12_provedAt_15 ?_
  refine lv_bipush (v := (10 : Int32)) hx hb dX12_provedAt_16 (by decide) ?_
  refine lv_irem hx hb dX12_provedAt_18 (by decide) ?_
  refine lv_topi (fun x5 ex5 => ?_)
  replace hf := nm_some ex5 hf
  refine lv_istore_n (lv' := [(3, .int x5), (2, .int x2), (0, .ref (ad 0)), (1, .int a0)]) hx hb dX12_provedAt_19 rfl hl_3 (by decide) rfl (fun ls_6 hl_6 => ?_)
  refine lv_aload_n hx hb dX12_provedAt_20 rfl (lv_at hl_6 2 rfl) ?_
  refine lv_iload_n hx hb dX12_provedAt_21 rfl (lv_at hl_6 0 rfl) ?_
  refine lv_iload_n hx hb dX12_provedAt_22 rfl (lv_at hl_6 1 rfl) ?_
  obtain ⟨r7, h8, hf⟩ := bd_some hf
  refine s_callVi (As := [.int x5, .int x2]) (rest := []) F I (cM_wins G E Dd x5 x2 r7 h8) kX12_227 ⟨rfl, rfl⟩ ⟨Nat.le_trans (Nat.le_of_ble_eq_true rfl) hRf, Nat.le_trans (Nat.le_of_ble_eq_true rfl) hRl⟩ (0) 12 rfl rfl rfl rfl rfl hl_6.1 (Nat.le_of_ble_eq_true rfl) ⟨Nat.zero_le _, Nat.zero_le _⟩ dX12_provedAt_23 ?_
  intro H_9 lo_9 I_9
  refine lv_aload_n hx hb dX12_provedAt_26 rfl (lv_at hl_6 2 rfl) ?_
  refine lv_iload_n hx hb dX12_provedAt_27 rfl (lv_at hl_6 1 rfl) ?_
  refine lv_iload_n hx hb dX12_provedAt_28 rfl (lv_at hl_6 0 rfl) ?_
  obtain ⟨r10, h11, hf⟩ := bd_some hf
  refine s_callVi (As := [.int x2, .int x5]) (rest := [.int r7]) F I_9 (cM_wins G E Dd x2 x5 r10 h11) kX12_227 ⟨rfl, rfl⟩ ⟨Nat.le_trans (Nat.le_of_ble_eq_true rfl) hRf, Nat.le_trans (Nat.le_of_ble_eq_true rfl) hRl⟩ (0) 12 rfl rfl rfl rfl rfl hl_6.1 (Nat.le_of_ble_eq_true rfl) ⟨Nat.zero_le _, Nat.zero_le _⟩ dX12_provedAt_29 ?_
  intro H_12 lo_12 I_12
  refine lv_icmp_le (tgt := 44) hx hb dX12_provedAt_32 (by decide) (fun c13 => ?_) (fun c13 => ?_)
  · replace hf := (if_pos c13).symm.trans hf
    refine lv_bipush (v := (10 : Int32)) hx hb dX12_provedAt_44 (by decide) ?_
    refine lv_iload_n hx hb dX12_provedAt_46 rfl (lv_at hl_6 1 rfl) ?_
    refine lv_imul hx hb dX12_provedAt_47 ?_
    refine lv_iload_n hx hb dX12_provedAt_48 rfl (lv_at hl_6 0 rfl) ?_
    refine lv_iadd hx hb dX12_provedAt_49 ?_
    cases hf
    exact ret H_12 lo_12 _ ls_6 I_12 dX12_provedAt_50
  · replace hf := (if_neg c13).symm.trans hf
    refine lv_bipush (v := (10 : Int32)) hx hb dX12_provedAt_35 (by decide) ?_
    refine lv_iload_n hx hb dX12_provedAt_37 rfl (lv_at hl_6 0 rfl) ?_
    refine lv_imul hx hb dX12_provedAt_38 ?_
    refine lv_iload_n hx hb dX12_provedAt_39 rfl (lv_at hl_6 1 rfl) ?_
    refine lv_iadd hx hb dX12_provedAt_40 ?_
    refine lv_goto (tgt := 50) hx hb dX12_provedAt_41 (by decide) ?_
    cases hf
    exact ret H_12 lo_12 _ ls_6 I_12 dX12_provedAt_50
def M_proved (G : Nat → Nat → Int32) (E : Nat → Nat → Int64) (a0 : Int32) (a1 : Int32) : Option (Int32 × (Nat → Nat → Int32) × (Nat → Nat → Int64)) :=
bd (M_within a0 (1 : Int32) (1000 : Int32)) fun r1 =>
bd (if r1 = 0 then
(some (1 : Int32))
else
(some (0 : Int32))) fun x5 =>
nm (wf G 0 x5) fun G9 =>
if G9 0 0 ≤ 0 then
(bd3 (M_provedMany G9 E a0) fun r11 G12 E13 =>
bd (if a1 = (-1 : Int32) then
(some (0 : Int32))
else
(bd (M_within a1 (0 : Int32) (r11 - (1 : Int32))) fun r30 =>
if r30 = 0 then
(some (2 : Int32))
else
(some (0 : Int32)))) fun x18 =>
nm (wf G12 0 x18) fun G22 =>
if G22 0 0 ≤ 0 then
(if a1 = (-1 : Int32) then
(some (r11, G22, E13))
else
(bd (M_provedAt G22 a1) fun r24 =>
some (r24, G22, E13)))
else
(some ((0 : Int32), G22, E13)))
else
(some ((0 : Int32), G9, E))
set_option maxRecDepth 100000 in
set_option maxHeartbeats 4000000 in
theorem cM_proved (G : Nat → Nat → Int32) (E : Nat → Nat → Int64) (Dd : Nat → Nat → UInt64) (a0 : Int32) (a1 : Int32) (rv : Int32) (newG : Nat → Nat → Int32) (newE : Nat → Nat → Int64) (hf : M_proved G E a0 a1 = some (rv, newG, newE)) : sMi D (mT cI cJ cD) (mW ad cI cJ cD) l yX12_proved (ws1 yX12_proved cX12_proved 4 (some .int)) ({ frames := 6, cells := 0, slots := 0, locals := 138 }) [.ref (ad 0), .int a0, .int a1] (G, E, Dd) (rv, (newG, newE, Dd)) := by
  unfold M_proved at hf
  refine sMi_of (by decide) (Nat.le_of_ble_eq_true rfl) ?_
  intro p e R s m args below meth c A Q ls H lo F hRf hRl I hl ret
  obtain ⟨hx, hb, hml, hown, hG⟩ := id F
  replace hl : lv_has ls 4 [(0, .ref (ad 0)), (1, .int a0), (2, .int a1)] := hl
  refine lv_aload_n hx hb dX12_proved_0 rfl (lv_at hl 0 rfl) ?_
  refine lv_iload_n hx hb dX12_proved_1 rfl (lv_at hl 1 rfl) ?_
  refine lv_iconst (v := (1 : Int32)) hx hb dX12_proved_2 (by decide) ?_
  refine lv_sipush (v := (1000 : Int32)) hx hb dX12_proved_3 (by decide) ?_
  obtain ⟨r1, h2, hf⟩ := bd_some hf
  refine s_callSi (As := [.int a0, .int (1 : Int32), .int (1000 : Int32)]) (rest := [.ref (ad 0)]) F I (cM_within G E Dd a0 (1 : Int32) (1000 : Int32) r1 h2) kX12_95 ⟨rfl, rfl⟩ ⟨Nat.le_trans (Nat.le_of_ble_eq_true rfl) hRf, Nat.le_trans (Nat.le_of_ble_eq_true rfl) hRl⟩ rfl rfl hl.1 (Nat.le_of_ble_eq_true rfl) ⟨Nat.zero_le _, Nat.zero_le _⟩ dX12_proved_6 ?_
  intro H_3 lo_3 I_3
  obtain ⟨x5, hv36, hf⟩ := bd_some hf
  have J4 : ∀ (H : Heap) (locs : List Loc), sInv D (mT cI cJ cD) (mW ad cI cJ cD) A s H locs (G, E, Dd) → ∀ (ls : Array Slot), lv_has ls 4 [(0, .ref (ad 0)), (1, .int a0), (2, .int a1)] → W p l e R s m args below meth c H locs 0 0 Q (F0 m 17 ls [.int x5, .ref (ad 0)]) := by
    intro H_6 lo_6 I_6 ls_7 hl_7
    refine mptX12_89_0 F I_6 dX12_proved_17 ?_
    intro H_10 lo_10 G9 eG9 I_10
    replace hf := nm_some eG9 hf
    refine lv_aload_n hx hb dX12_proved_20 rfl (lv_at hl_7 0 rfl) ?_
    refine mgtX12_89_0 F I_10 dX12_proved_21 ?_
    refine lv_if_le (tgt := 29) hx hb dX12_proved_24 (by decide) (fun c35 => ?_) (fun c35 => ?_)
    · replace hf := (if_pos c35).symm.trans hf
      refine lv_aload_n hx hb dX12_proved_29 rfl (lv_at hl_7 0 rfl) ?_
      refine lv_iload_n hx hb dX12_proved_30 rfl (lv_at hl_7 1 rfl) ?_
      obtain ⟨r11, G12, E13, h14, hf⟩ := bd3_some hf
      refine s_callVi (As := [.int a0]) (rest := []) F I_10 (cM_provedMany G9 E Dd a0 r11 G12 E13 h14) kX12_346 ⟨rfl, rfl⟩ ⟨Nat.le_trans (Nat.le_of_ble_eq_true rfl) hRf, Nat.le_trans (Nat.le_of_ble_eq_true rfl) hRl⟩ (0) 12 rfl rfl rfl rfl rfl hl_7.1 (Nat.le_of_ble_eq_true rfl) ⟨Nat.zero_le _, Nat.zero_le _⟩ dX12_proved_31 ?_
      intro H_15 lo_15 I_15
      refine lv_istore_n (lv' := [(3, .int r11), (0, .ref (ad 0)), (1, .int a0), (2, .int a1)]) hx hb dX12_proved_34 rfl hl_7 (by decide) rfl (fun ls_16 hl_16 => ?_)
      refine lv_aload_n hx hb dX12_proved_35 rfl (lv_at hl_16 1 rfl) ?_
      refine lv_iload_n hx hb dX12_proved_36 rfl (lv_at hl_16 3 rfl) ?_
      refine lv_iconst (v := (-1 : Int32)) hx hb dX12_proved_37 (by decide) ?_
      obtain ⟨x18, hv29, hf⟩ := bd_some hf
      have J17 : ∀ (H : Heap) (locs : List Loc), sInv D (mT cI cJ cD) (mW ad cI cJ cD) A s H locs (G12, E13, Dd) → ∀ (ls : Array Slot), lv_has ls 4 [(0, .ref (ad 0)), (2, .int a1), (3, .int r11)] → W p l e R s m args below meth c H locs 0 0 Q (F0 m 57 ls [.int x18, .ref (ad 0)]) := by
        intro H_19 lo_19 I_19 ls_20 hl_20
        refine mptX12_89_0 F I_19 dX12_proved_57 ?_
        intro H_23 lo_23 G22 eG22 I_23
        replace hf := nm_some eG22 hf
        refine lv_aload_n hx hb dX12_proved_60 rfl (lv_at hl_20 0 rfl) ?_
        refine mgtX12_89_0 F I_23 dX12_proved_61 ?_
        refine lv_if_le (tgt := 71) hx hb dX12_proved_64 (by decide) (fun c28 => ?_) (fun c28 => ?_)
        · replace hf := (if_pos c28).symm.trans hf
          refine lv_iload_n hx hb dX12_proved_71 rfl (lv_at hl_20 1 rfl) ?_
          refine lv_iconst (v := (-1 : Int32)) hx hb dX12_proved_72 (by decide) ?_
          refine lv_icmp_ne (tgt := 80) hx hb dX12_proved_73 (by decide) (fun c27 => ?_) (fun c27 => ?_)
          · replace hf := (if_neg c27).symm.trans hf
            refine lv_aload_n hx hb dX12_proved_80 rfl (lv_at hl_20 0 rfl) ?_
            refine lv_iload_n hx hb dX12_proved_81 rfl (lv_at hl_20 1 rfl) ?_
            obtain ⟨r24, h25, hf⟩ := bd_some hf
            refine s_callVi (As := [.int a1]) (rest := []) F I_23 (cM_provedAt G22 E13 Dd a1 r24 h25) kX12_349 ⟨rfl, rfl⟩ ⟨Nat.le_trans (Nat.le_of_ble_eq_true rfl) hRf, Nat.le_trans (Nat.le_of_ble_eq_true rfl) hRl⟩ (0) 12 rfl rfl rfl rfl rfl hl_20.1 (Nat.le_of_ble_eq_true rfl) ⟨Nat.zero_le _, Nat.zero_le _⟩ dX12_proved_82 ?_
            intro H_26 lo_26 I_26
            cases hf
            exact ret H_26 lo_26 _ ls_20 I_26 dX12_proved_85
          · replace hf := (if_pos c27).symm.trans hf
            refine lv_iload_n hx hb dX12_proved_76 rfl (lv_at hl_20 2 rfl) ?_
            refine lv_goto (tgt := 85) hx hb dX12_proved_77 (by decide) ?_
            cases hf
            exact ret H_23 lo_23 _ ls_20 I_23 dX12_proved_85
        · replace hf := (if_neg c28).symm.trans hf
          refine lv_iconst (v := (0 : Int32)) hx hb dX12_proved_67 (by decide) ?_
          refine lv_goto (tgt := 85) hx hb dX12_proved_68 (by decide) ?_
          cases hf
          exact ret H_23 lo_23 _ ls_20 I_23 dX12_proved_85
      replace hf := hv29
      refine lv_icmp_eq (tgt := 52) hx hb dX12_proved_38 (by decide) (fun c34 => ?_) (fun c34 => ?_)
      · replace hf := (if_pos c34).symm.trans hf
        refine lv_iconst (v := (0 : Int32)) hx hb dX12_proved_52 (by decide) ?_
        refine lv_goto (tgt := 57) hx hb dX12_proved_53 (by decide) ?_
        cases hf
        exact J17 H_15 lo_15 I_15 ls_16 (lv_sub hl_16 [1, 3, 0] rfl)
      · replace hf := (if_neg c34).symm.trans hf
        refine lv_iload_n hx hb dX12_proved_41 rfl (lv_at hl_16 3 rfl) ?_
        refine lv_iconst (v := (0 : Int32)) hx hb dX12_proved_42 (by decide) ?_
        refine lv_iload_n hx hb dX12_proved_43 rfl (lv_at hl_16 0 rfl) ?_
        refine lv_iconst (v := (1 : Int32)) hx hb dX12_proved_44 (by decide) ?_
        refine lv_isub hx hb dX12_proved_45 ?_
        obtain ⟨r30, h31, hf⟩ := bd_some hf
        refine s_callSi (As := [.int a1, .int (0 : Int32), .int (r11 - (1 : Int32))]) (rest := [.ref (ad 0)]) F I_15 (cM_within G12 E13 Dd a1 (0 : Int32) (r11 - (1 : Int32)) r30 h31) kX12_95 ⟨rfl, rfl⟩ ⟨Nat.le_trans (Nat.le_of_ble_eq_true rfl) hRf, Nat.le_trans (Nat.le_of_ble_eq_true rfl) hRl⟩ rfl rfl hl_16.1 (Nat.le_of_ble_eq_true rfl) ⟨Nat.zero_le _, Nat.zero_le _⟩ dX12_proved_46 ?_
        intro H_32 lo_32 I_32
        refine lv_if_eq (tgt := 56) hx hb dX12_proved_49 (by decide) (fun c33 => ?_) (fun c33 => ?_)
        · replace hf := (if_pos c33).symm.trans hf
          refine lv_iconst (v := (2 : Int32)) hx hb dX12_proved_56 (by decide) ?_
          cases hf
          exact J17 H_32 lo_32 I_32 ls_16 (lv_sub hl_16 [1, 3, 0] rfl)
        · replace hf := (if_neg c33).symm.trans hf
          refine lv_iconst (v := (0 : Int32)) hx hb dX12_proved_52 (by decide) ?_
          refine lv_goto (tgt := 57) hx hb dX12_proved_53 (by decide) ?_
          cases hf
          exact J17 H_32 lo_32 I_32 ls_16 (lv_sub hl_16 [1, 3, 0] rfl)
    · replace hf := (if_neg c35).symm.trans hf
      refine lv_iconst (v := (0 : Int32)) hx hb dX12_proved_27 (by decide) ?_
      cases hf
      exact ret H_10 lo_10 _ ls_7 I_10 dX12_proved_28
  replace hf := hv36
  refine lv_if_eq (tgt := 16) hx hb dX12_proved_9 (by decide) (fun c37 => ?_) (fun c37 => ?_)
  · replace hf := (if_pos c37).symm.trans hf
    refine lv_iconst (v := (1 : Int32)) hx hb dX12_proved_16 (by decide) ?_
    cases hf
    exact J4 H_3 lo_3 I_3 ls (lv_sub hl [0, 1, 2] rfl)
  · replace hf := (if_neg c37).symm.trans hf
    refine lv_iconst (v := (0 : Int32)) hx hb dX12_proved_12 (by decide) ?_
    refine lv_goto (tgt := 17) hx hb dX12_proved_13 (by decide) ?_
    cases hf
    exact J4 H_3 lo_3 I_3 ls (lv_sub hl [0, 1, 2] rfl)
def M_mix (E : Nat → Nat → Int64) (a0 : Int64) : (Nat → Nat → Int64) :=
nm (wf E 39 (((31 : Int64) * (E 39 0)) + a0)) fun E1 =>
E1
set_option maxRecDepth 100000 in
set_option maxHeartbeats 4000000 in
theorem cM_mix (G : Nat → Nat → Int32) (E : Nat → Nat → Int64) (Dd : Nat → Nat → UInt64) (a0 : Int64)  (newE : Nat → Nat → Int64) (hv : newE = M_mix E a0) : sMv D (mT cI cJ cD) (mW ad cI cJ cD) l yX12_mix (ws1 yX12_mix cX12_mix 3 none) ({ frames := 0, cells := 0, slots := 0, locals := 0 }) [.ref (ad 0), .long a0] (G, E, Dd) (G, newE, Dd) := by
  have hf : (nm (wf E 39 (((31 : Int64) * (E 39 0)) + a0)) fun E1 =>
some E1) = some newE := by rw [hv]; rfl
  refine sMv_of (by decide) (Nat.le_of_ble_eq_true rfl) ?_
  intro p e R s m args below meth c A Q ls H lo F hRf hRl I hl ret
  obtain ⟨hx, hb, hml, hown, hG⟩ := id F
  replace hl : lv_has ls 3 [(0, .ref (ad 0)), (1, .long a0)] := hl
  refine lv_aload_n hx hb dX12_mix_0 rfl (lv_at hl 0 rfl) ?_
  refine lv_ldc2 (v := (31 : Int64)) hx hb hown (hG _ q1722) dX12_mix_1 ?_
  refine lv_aload_n hx hb dX12_mix_4 rfl (lv_at hl 0 rfl) ?_
  refine mgtX12_372_0 F I dX12_mix_5 ?_
  refine lv_lmul hx hb dX12_mix_8 ?_
  refine lv_lload_n hx hb dX12_mix_9 rfl (lv_at hl 1 rfl) ?_
  refine lv_ladd hx hb dX12_mix_10 ?_
  refine mptX12_372_0 F I dX12_mix_11 ?_
  intro H_2 lo_2 E1 eE1 I_2
  replace hf := nm_some eE1 hf
  cases hf
  exact ret H_2 lo_2 _ ls I_2 dX12_mix_14
def M_consistency (G : Nat → Nat → Int32) (a0 : Int32) : Option (UInt64 × (Nat → Nat → Int32)) :=
bd (M_isListener G a0) fun r1 =>
bd (if r1 = 0 then
(some (1 : Int32))
else
(bd (M_isComplete G a0) fun r29 =>
if r29 = 0 then
(some (2 : Int32))
else
(some (0 : Int32)))) fun x5 =>
nm (wf G 0 x5) fun G9 =>
if G9 0 0 ≤ 0 then
(bd (M_mostRings G9) fun r11 =>
if r11 = 0 then
(some (FP.dconst1, G9))
else
(bd (M_ringsOf G9 a0) fun r14 =>
bd (M_mostRings G9) fun r19 =>
some ((FP.dsub FP.dconst1 (FP.ddiv (FP.dmul FP.dconst1 (FP.i2d r14)) (FP.i2d r19))), G9)))
else
(some (FP.dconst0, G9))
set_option maxRecDepth 100000 in
set_option maxHeartbeats 4000000 in
theorem cM_consistency (G : Nat → Nat → Int32) (E : Nat → Nat → Int64) (Dd : Nat → Nat → UInt64) (a0 : Int32) (rv : UInt64) (newG : Nat → Nat → Int32) (hf : M_consistency G a0 = some (rv, newG)) : sDd D (mT cI cJ cD) (mW ad cI cJ cD) mSm l yX12_consistency (ws1 yX12_consistency cX12_consistency 2 (some .double)) ({ frames := 6, cells := 0, slots := 0, locals := 145 }) [.ref (ad 0), .int a0] (G, E, Dd) (rv, (newG, E, Dd)) := by
  unfold M_consistency at hf
  refine sDd_of (by decide) (Nat.le_of_ble_eq_true rfl) ?_
  intro p e R s m args below meth c A Q ls H lo dr sgm F hRf hRl hd hsm I hl ret
  obtain ⟨_, _, Dm⟩ := sgm
  obtain ⟨rfl, rfl, ha⟩ := mSm_dest hsm
  obtain ⟨hx, hb, hml, hown, hG⟩ := id F
  replace hl : lv_has ls 2 [(0, .ref (ad 0)), (1, .int a0)] := hl
  refine lv_aload_n hx hb dX12_consistency_0 rfl (lv_at hl 0 rfl) ?_
  refine lv_aload_n hx hb dX12_consistency_1 rfl (lv_at hl 0 rfl) ?_
  refine lv_iload_n hx hb dX12_consistency_2 rfl (lv_at hl 1 rfl) ?_
  obtain ⟨r1, h2, hf⟩ := bd_some hf
  refine s_callVi (As := [.int a0]) (rest := [.ref (ad 0)]) (Fdr F) (Idr I) (cM_isListener G E Dm a0 r1 h2) kX12_114 ⟨rfl, rfl⟩ ⟨Nat.le_trans (Nat.le_of_ble_eq_true rfl) hRf, Nat.le_trans (Nat.le_of_ble_eq_true rfl) hRl⟩ (0) 12 rfl rfl rfl rfl rfl hl.1 (Nat.le_of_ble_eq_true rfl) ⟨Nat.zero_le _, Nat.zero_le _⟩ dX12_consistency_3 ?_
  intro H_3 lo_3 I_3
  replace I_3 := Irr I_3
  obtain ⟨x5, hv28, hf⟩ := bd_some hf
  have J4 : ∀ (H : Heap) (locs : List Loc) (d : Drawn), s.drawn.sameBut d lw_cs → sInv D (mT cI cJ cD) (mW ad cI cJ cD) A s H locs (G, E, Dm) → ∀ (ls : Array Slot), lv_has ls 2 [(0, .ref (ad 0)), (1, .int a0)] → W p l e R (s.setDrawn d) m args below meth c H locs 0 0 Q (F0 m 26 ls [.int x5, .ref (ad 0)]) := by
    intro H_6 lo_6 dr_8 hd_8 I_6 ls_7 hl_7
    refine mptX12_89_0 (Fdr F) (Idr I_6) dX12_consistency_26 ?_
    intro H_10 lo_10 G9 eG9 I_10
    replace I_10 := Irr I_10
    replace hf := nm_some eG9 hf
    refine lv_aload_n hx hb dX12_consistency_29 rfl (lv_at hl_7 0 rfl) ?_
    refine mgtX12_89_0 (Fdr F) (Idr I_10) dX12_consistency_30 ?_
    refine lv_if_le (tgt := 38) hx hb dX12_consistency_33 (by decide) (fun c27 => ?_) (fun c27 => ?_)
    · replace hf := (if_pos c27).symm.trans hf
      refine lv_aload_n hx hb dX12_consistency_38 rfl (lv_at hl_7 0 rfl) ?_
      obtain ⟨r11, h12, hf⟩ := bd_some hf
      refine s_callVi (As := []) (rest := []) (Fdr F) (Idr I_10) (cM_mostRings G9 E Dm r11 h12) kX12_312 ⟨rfl, rfl⟩ ⟨Nat.le_trans (Nat.le_of_ble_eq_true rfl) hRf, Nat.le_trans (Nat.le_of_ble_eq_true rfl) hRl⟩ (0) 12 rfl rfl rfl rfl rfl hl_7.1 (Nat.le_of_ble_eq_true rfl) ⟨Nat.zero_le _, Nat.zero_le _⟩ dX12_consistency_39 ?_
      intro H_13 lo_13 I_13
      replace I_13 := Irr I_13
      refine lv_if_ne (tgt := 49) hx hb dX12_consistency_42 (by decide) (fun c26 => ?_) (fun c26 => ?_)
      · replace hf := (if_neg c26).symm.trans hf
        refine lv_dconst1 hx hb dX12_consistency_49 ?_
        refine lv_dconst1 hx hb dX12_consistency_50 ?_
        refine lv_aload_n hx hb dX12_consistency_51 rfl (lv_at hl_7 0 rfl) ?_
        refine lv_iload_n hx hb dX12_consistency_52 rfl (lv_at hl_7 1 rfl) ?_
        obtain ⟨r14, h15, hf⟩ := bd_some hf
        refine s_callVi (As := [.int a0]) (rest := [.double (FP.dconst1), .double (FP.dconst1)]) (Fdr F) (Idr I_13) (cM_ringsOf G9 E Dm a0 r14 h15) kX12_300 ⟨rfl, rfl⟩ ⟨Nat.le_trans (Nat.le_of_ble_eq_true rfl) hRf, Nat.le_trans (Nat.le_of_ble_eq_true rfl) hRl⟩ (0) 12 rfl rfl rfl rfl rfl hl_7.1 (Nat.le_of_ble_eq_true rfl) ⟨Nat.zero_le _, Nat.zero_le _⟩ dX12_consistency_53 ?_
        intro H_16 lo_16 I_16
        replace I_16 := Irr I_16
        refine lv_i2d hx hb dX12_consistency_56 ?_
        refine lv_dmul_any hd_8 lw_bits hx hb dX12_consistency_57 (fun u17 dr_18 alu17 hd_18 => ?_)
        have hu17 := al_dmul alu17 (al_rf _) (al_rf _)
        refine lv_aload_n hx hb dX12_consistency_58 rfl (lv_at hl_7 0 rfl) ?_
        obtain ⟨r19, h20, hf⟩ := bd_some hf
        refine s_callVi (As := []) (rest := [.double u17, .double (FP.dconst1)]) (Fdr F) (Idr I_16) (cM_mostRings G9 E Dm r19 h20) kX12_312 ⟨rfl, rfl⟩ ⟨Nat.le_trans (Nat.le_of_ble_eq_true rfl) hRf, Nat.le_trans (Nat.le_of_ble_eq_true rfl) hRl⟩ (0) 12 rfl rfl rfl rfl rfl hl_7.1 (Nat.le_of_ble_eq_true rfl) ⟨Nat.zero_le _, Nat.zero_le _⟩ dX12_consistency_59 ?_
        intro H_21 lo_21 I_21
        replace I_21 := Irr I_21
        refine lv_i2d hx hb dX12_consistency_62 ?_
        refine lv_ddiv_any hd_18 lw_bits hx hb dX12_consistency_63 (fun u22 dr_23 alu22 hd_23 => ?_)
        have hu22 := al_ddiv alu22 hu17 (al_rf _)
        refine lv_dsub_any hd_23 lw_bits hx hb dX12_consistency_64 (fun u24 dr_25 alu24 hd_25 => ?_)
        have hu24 := al_dsub alu24 (al_rf _) hu22
        cases hf
        exact ret H_21 lo_21 _ ls_7 dr_25 _ _ hd_25 I_21 ⟨rfl, rfl, ha⟩ hu24 dX12_consistency_65
      · replace hf := (if_pos c26).symm.trans hf
        refine lv_dconst1 hx hb dX12_consistency_45 ?_
        refine lv_goto (tgt := 65) hx hb dX12_consistency_46 (by decide) ?_
        cases hf
        exact ret H_13 lo_13 _ ls_7 dr_8 _ _ hd_8 I_13 ⟨rfl, rfl, ha⟩ (al_rf _) dX12_consistency_65
    · replace hf := (if_neg c27).symm.trans hf
      refine lv_dconst0 hx hb dX12_consistency_36 ?_
      cases hf
      exact ret H_10 lo_10 _ ls_7 dr_8 _ _ hd_8 I_10 ⟨rfl, rfl, ha⟩ (al_rf _) dX12_consistency_37
  replace hf := hv28
  refine lv_if_ne (tgt := 13) hx hb dX12_consistency_6 (by decide) (fun c33 => ?_) (fun c33 => ?_)
  · replace hf := (if_neg c33).symm.trans hf
    refine lv_aload_n hx hb dX12_consistency_13 rfl (lv_at hl 0 rfl) ?_
    refine lv_iload_n hx hb dX12_consistency_14 rfl (lv_at hl 1 rfl) ?_
    obtain ⟨r29, h30, hf⟩ := bd_some hf
    refine s_callVi (As := [.int a0]) (rest := [.ref (ad 0)]) (Fdr F) (Idr I_3) (cM_isComplete G E Dm a0 r29 h30) kX12_309 ⟨rfl, rfl⟩ ⟨Nat.le_trans (Nat.le_of_ble_eq_true rfl) hRf, Nat.le_trans (Nat.le_of_ble_eq_true rfl) hRl⟩ (0) 12 rfl rfl rfl rfl rfl hl.1 (Nat.le_of_ble_eq_true rfl) ⟨Nat.zero_le _, Nat.zero_le _⟩ dX12_consistency_15 ?_
    intro H_31 lo_31 I_31
    replace I_31 := Irr I_31
    refine lv_if_eq (tgt := 25) hx hb dX12_consistency_18 (by decide) (fun c32 => ?_) (fun c32 => ?_)
    · replace hf := (if_pos c32).symm.trans hf
      refine lv_iconst (v := (2 : Int32)) hx hb dX12_consistency_25 (by decide) ?_
      cases hf
      exact J4 H_31 lo_31 dr hd I_31 ls (lv_sub hl [0, 1] rfl)
    · replace hf := (if_neg c32).symm.trans hf
      refine lv_iconst (v := (0 : Int32)) hx hb dX12_consistency_21 (by decide) ?_
      refine lv_goto (tgt := 26) hx hb dX12_consistency_22 (by decide) ?_
      cases hf
      exact J4 H_31 lo_31 dr hd I_31 ls (lv_sub hl [0, 1] rfl)
  · replace hf := (if_pos c33).symm.trans hf
    refine lv_iconst (v := (1 : Int32)) hx hb dX12_consistency_9 (by decide) ?_
    refine lv_goto (tgt := 26) hx hb dX12_consistency_10 (by decide) ?_
    cases hf
    exact J4 H_3 lo_3 dr hd I_3 ls (lv_sub hl [0, 1] rfl)
def M_agreement_s2 (a0 : Int32) (a1 : Int32) (x16 : Int32) (G9 : Nat → Nat → Int32) (x32 : Int32) (x33 : Int32) (x34 : Int32) : Option ((Int32 × Int32 × Int32) ⊕ (Int32 × Int32)) :=
if G9 1 0 ≤ x34 then
(some (.inr (x32, x33)))
else
(bd (M_agrees G9 a0 a1 x16 x34) fun r45 =>
nm (x32 + r45 : Int32) fun x49 =>
bd (if r45 = 0 then
(some (0 : Int32))
else
(some (1 : Int32))) fun x52 =>
nm (x33 + x52 : Int32) fun x56 =>
nm (x34 + (1 : Int32) : Int32) fun x58 =>
some (.inl (x49, x56, x58)))
def M_agreement_s1 (a0 : Int32) (a1 : Int32) (G9 : Nat → Nat → Int32) (x14 : Int32) (x15 : Int32) (x16 : Int32) : Option ((Int32 × Int32 × Int32) ⊕ (Int32 × Int32)) :=
if G9 1 0 ≤ x16 then
(some (.inr (x14, x15)))
else
(nm (x16 + (1 : Int32) : Int32) fun x30 =>
bd2 (lp (fun q => M_agreement_s2 a0 a1 x16 G9 q.1 q.2.1 q.2.2) FU (x14, x15, x30)) fun x35 x36 =>
nm (x16 + (1 : Int32) : Int32) fun x40 =>
some (.inl (x35, x36, x40)))
def M_agreement (G : Nat → Nat → Int32) (a0 : Int32) (a1 : Int32) : Option (UInt64 × (Nat → Nat → Int32)) :=
bd (M_isListener G a0) fun r1 =>
bd (if r1 = 0 then
(some (1 : Int32))
else
(bd (M_isListener G a1) fun r66 =>
if r66 = 0 then
(some (1 : Int32))
else
(some (0 : Int32)))) fun x5 =>
nm (wf G 0 x5) fun G9 =>
if G9 0 0 ≤ 0 then
(bd2 (lp (fun q => M_agreement_s1 a0 a1 G9 q.1 q.2.1 q.2.2) FU ((0 : Int32), (0 : Int32), (0 : Int32))) fun x17 x18 =>
if x18 = 0 then
(some (FP.dconst0, G9))
else
(some ((FP.ddiv (FP.dmul FP.dconst1 (FP.i2d x17)) (FP.i2d x18)), G9)))
else
(some (FP.dconst0, G9))
set_option maxRecDepth 100000 in
set_option maxHeartbeats 4000000 in
theorem cM_agreement (G : Nat → Nat → Int32) (E : Nat → Nat → Int64) (Dd : Nat → Nat → UInt64) (a0 : Int32) (a1 : Int32) (rv : UInt64) (newG : Nat → Nat → Int32) (hf : M_agreement G a0 a1 = some (rv, newG)) : sDd D (mT cI cJ cD) (mW ad cI cJ cD) mSm l yX12_agreement (ws1 yX12_agreement cX12_agreement 8 (some .double)) ({ frames := 4, cells := 0, slots := 0, locals := 99 }) [.ref (ad 0), .int a0, .int a1] (G, E, Dd) (rv, (newG, E, Dd)) := by
  unfold M_agreement at hf
  refine sDd_of (by decide) (Nat.le_of_ble_eq_true rfl) ?_
  intro p e R s m args below meth c A Q ls H lo dr sgm F hRf hRl hd hsm I hl ret
  obtain ⟨_, _, Dm⟩ := sgm
  obtain ⟨rfl, rfl, ha⟩ := mSm_dest hsm
  obtain ⟨hx, hb, hml, hown, hG⟩ := id F
  replace hl : lv_has ls 8 [(0, .ref (ad 0)), (1, .int a0), (2, .int a1)] := hl
  refine lv_aload_n hx hb dX12_agreement_0 rfl (lv_at hl 0 rfl) ?_
  refine lv_aload_n hx hb dX12_agreement_1 rfl (lv_at hl 0 rfl) ?_
  refine lv_iload_n hx hb dX12_agreement_2 rfl (lv_at hl 1 rfl) ?_
  obtain ⟨r1, h2, hf⟩ := bd_some hf
  refine s_callVi (As := [.int a0]) (rest := [.ref (ad 0)]) (Fdr F) (Idr I) (cM_isListener G E Dm a0 r1 h2) kX12_114 ⟨rfl, rfl⟩ ⟨Nat.le_trans (Nat.le_of_ble_eq_true rfl) hRf, Nat.le_trans (Nat.le_of_ble_eq_true rfl) hRl⟩ (0) 12 rfl rfl rfl rfl rfl hl.1 (Nat.le_of_ble_eq_true rfl) ⟨Nat.zero_le _, Nat.zero_le _⟩ dX12_agreement_3 ?_
  intro H_3 lo_3 I_3
  replace I_3 := Irr I_3
  obtain ⟨x5, hv65, hf⟩ := bd_some hf
  have J4 : ∀ (H : Heap) (locs : List Loc) (d : Drawn), s.drawn.sameBut d lw_cs → sInv D (mT cI cJ cD) (mW ad cI cJ cD) A s H locs (G, E, Dm) → ∀ (ls : Array Slot), lv_has ls 8 [(0, .ref (ad 0)), (1, .int a0), (2, .int a1)] → W p l e R (s.setDrawn d) m args below meth c H locs 0 0 Q (F0 m 22 ls [.int x5, .ref (ad 0)]) := by
    intro H_6 lo_6 dr_8 hd_8 I_6 ls_7 hl_7
    refine mptX12_89_0 (Fdr F) (Idr I_6) dX12_agreement_22 ?_
    intro H_10 lo_10 G9 eG9 I_10
    replace I_10 := Irr I_10
    replace hf := nm_some eG9 hf
    refine lv_aload_n hx hb dX12_agreement_25 rfl (lv_at hl_7 0 rfl) ?_
    refine mgtX12_89_0 (Fdr F) (Idr I_10) dX12_agreement_26 ?_
    refine lv_if_le (tgt := 34) hx hb dX12_agreement_29 (by decide) (fun c64 => ?_) (fun c64 => ?_)
    · replace hf := (if_pos c64).symm.trans hf
      refine lv_iconst (v := (0 : Int32)) hx hb dX12_agreement_34 (by decide) ?_
      refine lv_istore_n (lv' := [(3, .int (0 : Int32)), (0, .ref (ad 0)), (1, .int a0), (2, .int a1)]) hx hb dX12_agreement_35 rfl hl_7 (by decide) rfl (fun ls_11 hl_11 => ?_)
      refine lv_iconst (v := (0 : Int32)) hx hb dX12_agreement_36 (by decide) ?_
      refine lv_istore (lv' := [(4, .int (0 : Int32)), (3, .int (0 : Int32)), (0, .ref (ad 0)), (1, .int a0), (2, .int a1)]) hx hb dX12_agreement_37 hl_11 (by decide) rfl (fun ls_12 hl_12 => ?_)
      refine lv_iconst (v := (0 : Int32)) hx hb dX12_agreement_39 (by decide) ?_
      refine lv_istore (lv' := [(5, .int (0 : Int32)), (4, .int (0 : Int32)), (3, .int (0 : Int32)), (0, .ref (ad 0)), (1, .int a0), (2, .int a1)]) hx hb dX12_agreement_40 hl_12 (by decide) rfl (fun ls_13 hl_13 => ?_)
      obtain ⟨x17, x18, hq1, hf⟩ := bd2_some hf
      have K1 : ∀ (H : Heap) (locs : List Loc) (d : Drawn), s.drawn.sameBut d lw_cs → sInv D (mT cI cJ cD) (mW ad cI cJ cD) A s H locs (G9, E, Dm) → ∀ (ls : Array Slot), lv_has ls 8 [(3, .int x17), (4, .int x18)] → W p l e R (s.setDrawn d) m args below meth c H locs 0 0 Q (F0 m 110 ls []) := by
        intro H_19 lo_19 dr_21 hd_21 I_19 ls_20 hl_20
        refine lv_iload hx hb dX12_agreement_110 (lv_at hl_20 1 rfl) ?_
        refine lv_if_ne (tgt := 119) hx hb dX12_agreement_112 (by decide) (fun c26 => ?_) (fun c26 => ?_)
        · replace hf := (if_neg c26).symm.trans hf
          refine lv_dconst1 hx hb dX12_agreement_119 ?_
          refine lv_iload_n hx hb dX12_agreement_120 rfl (lv_at hl_20 0 rfl) ?_
          refine lv_i2d hx hb dX12_agreement_121 ?_
          refine lv_dmul_any hd_21 lw_bits hx hb dX12_agreement_122 (fun u22 dr_23 alu22 hd_23 => ?_)
          have hu22 := al_dmul alu22 (al_rf _) (al_rf _)
          refine lv_iload hx hb dX12_agreement_123 (lv_at hl_20 1 rfl) ?_
          refine lv_i2d hx hb dX12_agreement_125 ?_
          refine lv_ddiv_any hd_23 lw_bits hx hb dX12_agreement_126 (fun u24 dr_25 alu24 hd_25 => ?_)
          have hu24 := al_ddiv alu24 hu22 (al_rf _)
          cases hf
          exact ret H_19 lo_19 _ ls_20 dr_25 _ _ hd_25 I_19 ⟨rfl, rfl, ha⟩ hu24 dX12_agreement_127
        · replace hf := (if_pos c26).symm.trans hf
          refine lv_dconst0 hx hb dX12_agreement_115 ?_
          refine lv_goto (tgt := 127) hx hb dX12_agreement_116 (by decide) ?_
          cases hf
          exact ret H_19 lo_19 _ ls_20 dr_21 _ _ hd_21 I_19 ⟨rfl, rfl, ha⟩ (al_rf _) dX12_agreement_127
      have L1 : ∀ (n : Nat) (x14 : Int32) (x15 : Int32) (x16 : Int32), lp (fun q => M_agreement_s1 a0 a1 G9 q.1 q.2.1 q.2.2) n (x14, x15, x16) = some (x17, x18) → ∀ (H : Heap) (locs : List Loc) (d : Drawn), s.drawn.sameBut d lw_cs → sInv D (mT cI cJ cD) (mW ad cI cJ cD) A s H locs (G9, E, Dm) → ∀ (ls : Array Slot), lv_has ls 8 [(0, .ref (ad 0)), (1, .int a0), (2, .int a1), (3, .int x14), (4, .int x15), (5, .int x16)] → W p l e R (s.setDrawn d) m args below meth c H locs 0 0 Q (F0 m 42 ls []) := by
        intro n
        induction n with
        | zero => intro x14 x15 x16 hq; exact (lp_0 hq).elim
        | succ n ih1 =>
          intro x14 x15 x16 hq H_27 lo_27 dr_29 hd_29 I_27 ls_28 hl_28
          obtain ⟨y1, hf, hK1⟩ := lp_go hq
          replace hf : M_agreement_s1 a0 a1 G9 x14 x15 x16 = some y1 := hf
          unfold M_agreement_s1 at hf
          refine lv_iload hx hb dX12_agreement_42 (lv_at hl_28 5 rfl) ?_
          refine lv_aload_n hx hb dX12_agreement_44 rfl (lv_at hl_28 0 rfl) ?_
          refine mgtX12_92_0 (Fdr F) (Idr I_27) dX12_agreement_45 ?_
          refine lv_icmp_ge (tgt := 110) hx hb dX12_agreement_48 (by decide) (fun c63 => ?_) (fun c63 => ?_)
          · replace hf := (if_pos c63).symm.trans hf
            cases hf
            cases (show (x14, x15) = (x17, x18) from hK1)
            exact K1 H_27 lo_27 dr_29 hd_29 I_27 ls_28 (lv_sub hl_28 [3, 4] rfl)
          · replace hf := (if_neg c63).symm.trans hf
            refine lv_iload hx hb dX12_agreement_51 (lv_at hl_28 5 rfl) ?_
            refine lv_iconst (v := (1 : Int32)) hx hb dX12_agreement_53 (by decide) ?_
            refine lv_iadd hx hb dX12_agreement_54 ?_
            refine lv_topi (fun x30 ex30 => ?_)
            replace hf := nm_some ex30 hf
            refine lv_istore (lv' := [(6, .int x30), (0, .ref (ad 0)), (1, .int a0), (2, .int a1), (3, .int x14), (4, .int x15), (5, .int x16)]) hx hb dX12_agreement_55 hl_28 (by decide) rfl (fun ls_31 hl_31 => ?_)
            obtain ⟨x35, x36, hq2, hf⟩ := bd2_some hf
            have K2 : ∀ (H : Heap) (locs : List Loc) (d : Drawn), s.drawn.sameBut d lw_cs → sInv D (mT cI cJ cD) (mW ad cI cJ cD) A s H locs (G9, E, Dm) → ∀ (ls : Array Slot), lv_has ls 8 [(0, .ref (ad 0)), (1, .int a0), (2, .int a1), (3, .int x35), (4, .int x36), (5, .int x16)] → W p l e R (s.setDrawn d) m args below meth c H locs 0 0 Q (F0 m 104 ls []) := by
              intro H_37 lo_37 dr_39 hd_39 I_37 ls_38 hl_38
              obtain ⟨x40, ex40⟩ : ∃ y : Int32, y = x16 + (1 : Int32) := ⟨_, rfl⟩
              replace hf := nm_some ex40 hf
              refine lv_iinc (v := x40) (lv' := [(5, .int x40), (0, .ref (ad 0)), (1, .int a0), (2, .int a1), (3, .int x35), (4, .int x36)]) hx hb dX12_agreement_104 hl_38 (k := 5) rfl (by rw [ex40]; rfl) (by decide) rfl (fun ls_41 hl_41 => ?_)
              refine lv_goto (tgt := 42) hx hb dX12_agreement_107 (by decide) ?_
              cases hf
              exact ih1 _ _ _ hK1 H_37 lo_37 dr_39 hd_39 I_37 ls_41 (lv_sub hl_41 [1, 2, 3, 4, 5, 0] rfl)
            have L2 : ∀ (n : Nat) (x32 : Int32) (x33 : Int32) (x34 : Int32), lp (fun q => M_agreement_s2 a0 a1 x16 G9 q.1 q.2.1 q.2.2) n (x32, x33, x34) = some (x35, x36) → ∀ (H : Heap) (locs : List Loc) (d : Drawn), s.drawn.sameBut d lw_cs → sInv D (mT cI cJ cD) (mW ad cI cJ cD) A s H locs (G9, E, Dm) → ∀ (ls : Array Slot), lv_has ls 8 [(0, .ref (ad 0)), (1, .int a0), (2, .int a1), (3, .int x32), (4, .int x33), (5, .int x16), (6, .int x34)] → W p l e R (s.setDrawn d) m args below meth c H locs 0 0 Q (F0 m 57 ls []) := by
              intro n
              induction n with
              | zero => intro x32 x33 x34 hq; exact (lp_0 hq).elim
              | succ n ih2 =>
                intro x32 x33 x34 hq H_42 lo_42 dr_44 hd_44 I_42 ls_43 hl_43
                obtain ⟨y2, hf, hK2⟩ := lp_go hq
                replace hf : M_agreement_s2 a0 a1 x16 G9 x32 x33 x34 = some y2 := hf
                unfold M_agreement_s2 at hf
                refine lv_iload hx hb dX12_agreement_57 (lv_at hl_43 6 rfl) ?_
                refine lv_aload_n hx hb dX12_agreement_59 rfl (lv_at hl_43 0 rfl) ?_
                refine mgtX12_92_0 (Fdr F) (Idr I_42) dX12_agreement_60 ?_
                refine lv_icmp_ge (tgt := 104) hx hb dX12_agreement_63 (by decide) (fun c62 => ?_) (fun c62 => ?_)
                · replace hf := (if_pos c62).symm.trans hf
                  cases hf
                  cases (show (x32, x33) = (x35, x36) from hK2)
                  exact K2 H_42 lo_42 dr_44 hd_44 I_42 ls_43 (lv_sub hl_43 [0, 1, 2, 3, 4, 5] rfl)
                · replace hf := (if_neg c62).symm.trans hf
                  refine lv_aload_n hx hb dX12_agreement_66 rfl (lv_at hl_43 0 rfl) ?_
                  refine lv_iload_n hx hb dX12_agreement_67 rfl (lv_at hl_43 1 rfl) ?_
                  refine lv_iload_n hx hb dX12_agreement_68 rfl (lv_at hl_43 2 rfl) ?_
                  refine lv_iload hx hb dX12_agreement_69 (lv_at hl_43 5 rfl) ?_
                  refine lv_iload hx hb dX12_agreement_71 (lv_at hl_43 6 rfl) ?_
                  obtain ⟨r45, h46, hf⟩ := bd_some hf
                  refine s_callVi (As := [.int a0, .int a1, .int x16, .int x34]) (rest := []) (Fdr F) (Idr I_42) (cM_agrees G9 E Dm a0 a1 x16 x34 r45 h46) kX12_315 ⟨rfl, rfl⟩ ⟨Nat.le_trans (Nat.le_of_ble_eq_true rfl) hRf, Nat.le_trans (Nat.le_of_ble_eq_true rfl) hRl⟩ (0) 12 rfl rfl rfl rfl rfl hl_43.1 (Nat.le_of_ble_eq_true rfl) ⟨Nat.zero_le _, Nat.zero_le _⟩ dX12_agreement_73 ?_
                  intro H_47 lo_47 I_47
                  replace I_47 := Irr I_47
                  refine lv_istore (lv' := [(7, .int r45), (0, .ref (ad 0)), (1, .int a0), (2, .int a1), (3, .int x32), (4, .int x33), (5, .int x16), (6, .int x34)]) hx hb dX12_agreement_76 hl_43 (by decide) rfl (fun ls_48 hl_48 => ?_)
                  refine lv_iload_n hx hb dX12_agreement_78 rfl (lv_at hl_48 4 rfl) ?_
                  refine lv_iload hx hb dX12_agreement_79 (lv_at hl_48 0 rfl) ?_
                  refine lv_iadd hx hb dX12_agreement_81 ?_
                  refine lv_topi (fun x49 ex49 => ?_)
                  replace hf := nm_some ex49 hf
                  refine lv_istore_n (lv' := [(3, .int x49), (7, .int r45), (0, .ref (ad 0)), (1, .int a0), (2, .int a1), (4, .int x33), (5, .int x16), (6, .int x34)]) hx hb dX12_agreement_82 rfl hl_48 (by decide) rfl (fun ls_50 hl_50 => ?_)
                  refine lv_iload hx hb dX12_agreement_83 (lv_at hl_50 5 rfl) ?_
                  refine lv_iload hx hb dX12_agreement_85 (lv_at hl_50 1 rfl) ?_
                  obtain ⟨x52, hv60, hf⟩ := bd_some hf
                  have J51 : ∀ (H : Heap) (locs : List Loc) (d : Drawn), s.drawn.sameBut d lw_cs → sInv D (mT cI cJ cD) (mW ad cI cJ cD) A s H locs (G9, E, Dm) → ∀ (ls : Array Slot), lv_has ls 8 [(0, .ref (ad 0)), (1, .int a0), (2, .int a1), (3, .int x49), (5, .int x16), (6, .int x34)] → W p l e R (s.setDrawn d) m args below meth c H locs 0 0 Q (F0 m 95 ls [.int x52, .int x33]) := by
                    intro H_53 lo_53 dr_55 hd_55 I_53 ls_54 hl_54
                    refine lv_iadd hx hb dX12_agreement_95 ?_
                    refine lv_topi (fun x56 ex56 => ?_)
                    replace hf := nm_some ex56 hf
                    refine lv_istore (lv' := [(4, .int x56), (0, .ref (ad 0)), (1, .int a0), (2, .int a1), (3, .int x49), (5, .int x16), (6, .int x34)]) hx hb dX12_agreement_96 hl_54 (by decide) rfl (fun ls_57 hl_57 => ?_)
                    obtain ⟨x58, ex58⟩ : ∃ y : Int32, y = x34 + (1 : Int32) := ⟨_, rfl⟩
                    replace hf := nm_some ex58 hf
                    refine lv_iinc (v := x58) (lv' := [(6, .int x58), (4, .int x56), (0, .ref (ad 0)), (1, .int a0), (2, .int a1), (3, .int x49), (5, .int x16)]) hx hb dX12_agreement_98 hl_57 (k := 6) rfl (by rw [ex58]; rfl) (by decide) rfl (fun ls_59 hl_59 => ?_)
                    refine lv_goto (tgt := 57) hx hb dX12_agreement_101 (by decide) ?_
                    cases hf
                    exact ih2 _ _ _ hK2 H_53 lo_53 dr_55 hd_55 I_53 ls_59 (lv_sub hl_59 [2, 3, 4, 5, 1, 6, 0] rfl)
                  replace hf := hv60
                  refine lv_if_ne (tgt := 94) hx hb dX12_agreement_87 (by decide) (fun c61 => ?_) (fun c61 => ?_)
                  · replace hf := (if_neg c61).symm.trans hf
                    refine lv_iconst (v := (1 : Int32)) hx hb dX12_agreement_94 (by decide) ?_
                    cases hf
                    exact J51 H_47 lo_47 dr_44 hd_44 I_47 ls_50 (lv_sub hl_50 [2, 3, 4, 0, 6, 7] rfl)
                  · replace hf := (if_pos c61).symm.trans hf
                    refine lv_iconst (v := (0 : Int32)) hx hb dX12_agreement_90 (by decide) ?_
                    refine lv_goto (tgt := 95) hx hb dX12_agreement_91 (by decide) ?_
                    cases hf
                    exact J51 H_47 lo_47 dr_44 hd_44 I_47 ls_50 (lv_sub hl_50 [2, 3, 4, 0, 6, 7] rfl)
            exact L2 FU _ _ _ hq2 H_27 lo_27 dr_29 hd_29 I_27 ls_31 (lv_sub hl_31 [1, 2, 3, 4, 5, 6, 0] rfl)
      exact L1 FU _ _ _ hq1 H_10 lo_10 dr_8 hd_8 I_10 ls_13 (lv_sub hl_13 [3, 4, 5, 2, 1, 0] rfl)
    · replace hf := (if_neg c64).symm.trans hf
      refine lv_dconst0 hx hb dX12_agreement_32 ?_
      cases hf
      exact ret H_10 lo_10 _ ls_7 dr_8 _ _ hd_8 I_10 ⟨rfl, rfl, ha⟩ (al_rf _) dX12_agreement_33
  replace hf := hv65
  refine lv_if_eq (tgt := 21) hx hb dX12_agreement_6 (by decide) (fun c70 => ?_) (fun c70 => ?_)
  · replace hf := (if_pos c70).symm.trans hf
    refine lv_iconst (v := (1 : Int32)) hx hb dX12_agreement_21 (by decide) ?_
    cases hf
    exact J4 H_3 lo_3 dr hd I_3 ls (lv_sub hl [0, 1, 2] rfl)
  · replace hf := (if_neg c70).symm.trans hf
    refine lv_aload_n hx hb dX12_agreement_9 rfl (lv_at hl 0 rfl) ?_
    refine lv_iload_n hx hb dX12_agreement_10 rfl (lv_at hl 2 rfl) ?_
    obtain ⟨r66, h67, hf⟩ := bd_some hf
    refine s_callVi (As := [.int a1]) (rest := [.ref (ad 0)]) (Fdr F) (Idr I_3) (cM_isListener G E Dm a1 r66 h67) kX12_114 ⟨rfl, rfl⟩ ⟨Nat.le_trans (Nat.le_of_ble_eq_true rfl) hRf, Nat.le_trans (Nat.le_of_ble_eq_true rfl) hRl⟩ (0) 12 rfl rfl rfl rfl rfl hl.1 (Nat.le_of_ble_eq_true rfl) ⟨Nat.zero_le _, Nat.zero_le _⟩ dX12_agreement_11 ?_
    intro H_68 lo_68 I_68
    replace I_68 := Irr I_68
    refine lv_if_eq (tgt := 21) hx hb dX12_agreement_14 (by decide) (fun c69 => ?_) (fun c69 => ?_)
    · replace hf := (if_pos c69).symm.trans hf
      refine lv_iconst (v := (1 : Int32)) hx hb dX12_agreement_21 (by decide) ?_
      cases hf
      exact J4 H_68 lo_68 dr hd I_68 ls (lv_sub hl [0, 1, 2] rfl)
    · replace hf := (if_neg c69).symm.trans hf
      refine lv_iconst (v := (0 : Int32)) hx hb dX12_agreement_17 (by decide) ?_
      refine lv_goto (tgt := 22) hx hb dX12_agreement_18 (by decide) ?_
      cases hf
      exact J4 H_68 lo_68 dr hd I_68 ls (lv_sub hl [0, 1, 2] rfl)
def M_layWins_s2 (x2 : Int32) (x16 : Int32) (x17 : Int32) (x18 : Int32) (G19 : Nat → Nat → Int32) : Option ((Int32 × Int32 × Int32 × (Nat → Nat → Int32)) ⊕ (Int32 × Int32 × (Nat → Nat → Int32))) :=
if G19 1 0 ≤ x18 then
(some (.inr (x16, x17, G19)))
else
(bd (if x2 = x18 then
(some (0 : Int32))
else
(bd (M_wins G19 x2 x18) fun r75 =>
some r75)) fun x39 =>
bd (if x2 = x18 then
(some (0 : Int32))
else
(bd (M_tiesOf G19 x2 x18) fun r70 =>
some r70)) fun x45 =>
nm (x16 + x39 : Int32) fun x50 =>
nm (x17 + x45 : Int32) fun x52 =>
bd (if x2 = x18 then
(some (0 : Int32))
else
(bd (M_wins G19 x18 x2) fun r65 =>
some ((x39 + x45) + r65))) fun x55 =>
ri 64 (((8 : Int32) * x2) + x18) <|
nm (wr G19 38 (((8 : Int32) * x2) + x18) x55) fun G60 =>
nm (x18 + (1 : Int32) : Int32) fun x62 =>
some (.inl (x50, x52, x62, G60)))
def M_layWins_s1  (x2 : Int32) (G3 : Nat → Nat → Int32) (Dd4 : Nat → Nat → UInt64) : Option ((Int32 × (Nat → Nat → Int32) × (Nat → Nat → UInt64)) ⊕ ((Nat → Nat → Int32) × (Nat → Nat → UInt64))) :=
if G3 1 0 ≤ x2 then
(some (.inr (G3, Dd4)))
else
(bd3 (lp (fun q => M_layWins_s2 x2 q.1 q.2.1 q.2.2.1 q.2.2.2) FU ((0 : Int32), (0 : Int32), (0 : Int32), G3)) fun x20 x21 G22 =>
ri 8 x2 <|
nm (wr Dd4 37 x2 (FP.dadd (FP.i2d x20) (FP.dmul (4602678819172646912 : UInt64) (FP.i2d x21)))) fun Dd31 =>
nm (x2 + (1 : Int32) : Int32) fun x33 =>
some (.inl (x33, G22, Dd31)))
def M_layWins (G : Nat → Nat → Int32) (Dd : Nat → Nat → UInt64) : Option ((Nat → Nat → Int32) × (Nat → Nat → UInt64)) :=
bd2 (lp (fun q => M_layWins_s1 q.1 q.2.1 q.2.2) FU ((0 : Int32), G, Dd)) fun G5 Dd6 =>
some (G5, Dd6)
set_option maxRecDepth 100000 in
set_option maxHeartbeats 4000000 in
theorem cM_layWins (G : Nat → Nat → Int32) (E : Nat → Nat → Int64) (Dd : Nat → Nat → UInt64)   (newG : Nat → Nat → Int32) (newDd : Nat → Nat → UInt64) (hf : M_layWins G Dd = some (newG, newDd)) : sDv D (mT cI cJ cD) (mW ad cI cJ cD) mSm l yX12_layWins (ws1 yX12_layWins cX12_layWins 7 none) ({ frames := 3, cells := 0, slots := 0, locals := 72 }) [.ref (ad 0)] (G, E, Dd) (newG, E, newDd) := by
  unfold M_layWins at hf
  refine sDv_of (by decide) (Nat.le_of_ble_eq_true rfl) ?_
  intro p e R s m args below meth c A Q ls H lo dr sgm F hRf hRl hd hsm I hl ret
  obtain ⟨_, _, Dm⟩ := sgm
  obtain ⟨rfl, rfl, ha⟩ := mSm_dest hsm
  obtain ⟨hx, hb, hml, hown, hG⟩ := id F
  replace hl : lv_has ls 7 [(0, .ref (ad 0))] := hl
  refine lv_iconst (v := (0 : Int32)) hx hb dX12_layWins_0 (by decide) ?_
  refine lv_istore_n (lv' := [(1, .int (0 : Int32)), (0, .ref (ad 0))]) hx hb dX12_layWins_1 rfl hl (by decide) rfl (fun ls_1 hl_1 => ?_)
  obtain ⟨G5, Dd6, hq1, hf⟩ := bd2_some hf
  have K1 : ∀ (H : Heap) (locs : List Loc) (d : Drawn) (Dm6 : Nat → Nat → UInt64), s.drawn.sameBut d lw_cs → alikeM Dm6 Dd6 → sInv D (mT cI cJ cD) (mW ad cI cJ cD) A s H locs (G5, E, Dm6) → ∀ (ls : Array Slot), lv_has ls 7 [] → W p l e R (s.setDrawn d) m args below meth c H locs 0 0 Q (F0 m 136 ls []) := by
    intro H_7 lo_7 dr_9 Dm6 hd_9 ha6 I_7 ls_8 hl_8
    cases hf
    exact ret H_7 lo_7 _ ls_8 dr_9 _ hd_9 I_7 ⟨rfl, rfl, ha6⟩ dX12_layWins_136
  have L1 : ∀ (n : Nat) (x2 : Int32) (G3 : Nat → Nat → Int32) (Dd4 : Nat → Nat → UInt64), lp (fun q => M_layWins_s1 q.1 q.2.1 q.2.2) n (x2, G3, Dd4) = some (G5, Dd6) → ∀ (H : Heap) (locs : List Loc) (d : Drawn) (Dm4 : Nat → Nat → UInt64), s.drawn.sameBut d lw_cs → alikeM Dm4 Dd4 → sInv D (mT cI cJ cD) (mW ad cI cJ cD) A s H locs (G3, E, Dm4) → ∀ (ls : Array Slot), lv_has ls 7 [(0, .ref (ad 0)), (1, .int x2)] → W p l e R (s.setDrawn d) m args below meth c H locs 0 0 Q (F0 m 2 ls []) := by
    intro n
    induction n with
    | zero => intro x2 G3 Dd4 hq; exact (lp_0 hq).elim
    | succ n ih1 =>
      intro x2 G3 Dd4 hq H_10 lo_10 dr_12 Dm4 hd_12 ha4 I_10 ls_11 hl_11
      obtain ⟨y1, hf, hK1⟩ := lp_go hq
      replace hf : M_layWins_s1 x2 G3 Dd4 = some y1 := hf
      unfold M_layWins_s1 at hf
      refine lv_iload_n hx hb dX12_layWins_2 rfl (lv_at hl_11 1 rfl) ?_
      refine lv_aload_n hx hb dX12_layWins_3 rfl (lv_at hl_11 0 rfl) ?_
      refine mgtX12_92_0 (Fdr F) (Idr I_10) dX12_layWins_4 ?_
      refine lv_icmp_ge (tgt := 136) hx hb dX12_layWins_7 (by decide) (fun c80 => ?_) (fun c80 => ?_)
      · replace hf := (if_pos c80).symm.trans hf
        cases hf
        cases (show (G3, Dd4) = (G5, Dd6) from hK1)
        exact K1 H_10 lo_10 dr_12 Dm4 hd_12 ha4 I_10 ls_11 (lv_sub hl_11 [] rfl)
      · replace hf := (if_neg c80).symm.trans hf
        refine lv_iconst (v := (0 : Int32)) hx hb dX12_layWins_10 (by decide) ?_
        refine lv_istore_n (lv' := [(2, .int (0 : Int32)), (0, .ref (ad 0)), (1, .int x2)]) hx hb dX12_layWins_11 rfl hl_11 (by decide) rfl (fun ls_13 hl_13 => ?_)
        refine lv_iconst (v := (0 : Int32)) hx hb dX12_layWins_12 (by decide) ?_
        refine lv_istore_n (lv' := [(3, .int (0 : Int32)), (2, .int (0 : Int32)), (0, .ref (ad 0)), (1, .int x2)]) hx hb dX12_layWins_13 rfl hl_13 (by decide) rfl (fun ls_14 hl_14 => ?_)
        refine lv_iconst (v := (0 : Int32)) hx hb dX12_layWins_14 (by decide) ?_
        refine lv_istore (lv' := [(4, .int (0 : Int32)), (3, .int (0 : Int32)), (2, .int (0 : Int32)), (0, .ref (ad 0)), (1, .int x2)]) hx hb dX12_layWins_15 hl_14 (by decide) rfl (fun ls_15 hl_15 => ?_)
        obtain ⟨x20, x21, G22, hq2, hf⟩ := bd3_some hf
        have K2 : ∀ (H : Heap) (locs : List Loc) (d : Drawn), s.drawn.sameBut d lw_cs → sInv D (mT cI cJ cD) (mW ad cI cJ cD) A s H locs (G22, E, Dm4) → ∀ (ls : Array Slot), lv_has ls 7 [(0, .ref (ad 0)), (1, .int x2), (2, .int x20), (3, .int x21)] → W p l e R (s.setDrawn d) m args below meth c H locs 0 0 Q (F0 m 115 ls []) := by
          intro H_23 lo_23 dr_25 hd_25 I_23 ls_24 hl_24
          refine lv_aload_n hx hb dX12_layWins_115 rfl (lv_at hl_24 0 rfl) ?_
          refine mgtX12_79_0 (Fdr F) (Idr I_23) dX12_layWins_116 ?_
          refine lv_iload_n hx hb dX12_layWins_119 rfl (lv_at hl_24 1 rfl) ?_
          refine lv_iload_n hx hb dX12_layWins_120 rfl (lv_at hl_24 2 rfl) ?_
          refine lv_i2d hx hb dX12_layWins_121 ?_
          refine lv_ldc2d (v := (4602678819172646912 : UInt64)) hx hb hown (dr_words hG _ _ q1696) dX12_layWins_122 ?_
          refine lv_iload_n hx hb dX12_layWins_125 rfl (lv_at hl_24 3 rfl) ?_
          refine lv_i2d hx hb dX12_layWins_126 ?_
          refine lv_dmul_any hd_25 lw_bits hx hb dX12_layWins_127 (fun u26 dr_27 alu26 hd_27 => ?_)
          have hu26 := al_dmul alu26 (al_rf _) (al_rf _)
          refine lv_dadd_any hd_27 lw_bits hx hb dX12_layWins_128 (fun u28 dr_29 alu28 hd_29 => ?_)
          have hu28 := al_dadd alu28 (al_rf _) hu26
          obtain ⟨g30, hf⟩ := ri_some hf
          refine mas22 (Fdr F) (Idr I_23) g30 dX12_layWins_129 ?_
          intro H_32 lo_32 Dm31 eDm31 I_32
          replace I_32 := Irr I_32
          obtain ⟨Dd31, eDd31⟩ : ∃ z, z = wr Dd4 37 x2 (FP.dadd (FP.i2d x20) (FP.dmul (4602678819172646912 : UInt64) (FP.i2d x21))) := ⟨_, rfl⟩
          replace hf := nm_some eDd31 hf
          have ha31 : alikeM Dm31 Dd31 := alM_eq eDm31 eDd31 (al_wr ha4 hu28)
          obtain ⟨x33, ex33⟩ : ∃ y : Int32, y = x2 + (1 : Int32) := ⟨_, rfl⟩
          replace hf := nm_some ex33 hf
          refine lv_iinc (v := x33) (lv' := [(1, .int x33), (0, .ref (ad 0)), (2, .int x20), (3, .int x21)]) hx hb dX12_layWins_130 hl_24 (k := 1) rfl (by rw [ex33]; rfl) (by decide) rfl (fun ls_34 hl_34 => ?_)
          refine lv_goto (tgt := 2) hx hb dX12_layWins_133 (by decide) ?_
          cases hf
          exact ih1 _ _ _ hK1 H_32 lo_32 dr_29 Dm31 hd_29 ha31 I_32 ls_34 (lv_sub hl_34 [1, 0] rfl)
        have L2 : ∀ (n : Nat) (x16 : Int32) (x17 : Int32) (x18 : Int32) (G19 : Nat → Nat → Int32), lp (fun q => M_layWins_s2 x2 q.1 q.2.1 q.2.2.1 q.2.2.2) n (x16, x17, x18, G19) = some (x20, x21, G22) → ∀ (H : Heap) (locs : List Loc) (d : Drawn), s.drawn.sameBut d lw_cs → sInv D (mT cI cJ cD) (mW ad cI cJ cD) A s H locs (G19, E, Dm4) → ∀ (ls : Array Slot), lv_has ls 7 [(0, .ref (ad 0)), (1, .int x2), (2, .int x16), (3, .int x17), (4, .int x18)] → W p l e R (s.setDrawn d) m args below meth c H locs 0 0 Q (F0 m 17 ls []) := by
          intro n
          induction n with
          | zero => intro x16 x17 x18 G19 hq; exact (lp_0 hq).elim
          | succ n ih2 =>
            intro x16 x17 x18 G19 hq H_35 lo_35 dr_37 hd_37 I_35 ls_36 hl_36
            obtain ⟨y2, hf, hK2⟩ := lp_go hq
            replace hf : M_layWins_s2 x2 x16 x17 x18 G19 = some y2 := hf
            unfold M_layWins_s2 at hf
            refine lv_iload hx hb dX12_layWins_17 (lv_at hl_36 4 rfl) ?_
            refine lv_aload_n hx hb dX12_layWins_19 rfl (lv_at hl_36 0 rfl) ?_
            refine mgtX12_92_0 (Fdr F) (Idr I_35) dX12_layWins_20 ?_
            refine lv_icmp_ge (tgt := 115) hx hb dX12_layWins_23 (by decide) (fun c79 => ?_) (fun c79 => ?_)
            · replace hf := (if_pos c79).symm.trans hf
              cases hf
              cases (show (x16, x17, G19) = (x20, x21, G22) from hK2)
              exact K2 H_35 lo_35 dr_37 hd_37 I_35 ls_36 (lv_sub hl_36 [0, 1, 2, 3] rfl)
            · replace hf := (if_neg c79).symm.trans hf
              refine lv_iload_n hx hb dX12_layWins_26 rfl (lv_at hl_36 1 rfl) ?_
              refine lv_iload hx hb dX12_layWins_27 (lv_at hl_36 4 rfl) ?_
              obtain ⟨x39, hv74, hf⟩ := bd_some hf
              have J38 : ∀ (H : Heap) (locs : List Loc) (d : Drawn), s.drawn.sameBut d lw_cs → sInv D (mT cI cJ cD) (mW ad cI cJ cD) A s H locs (G19, E, Dm4) → ∀ (ls : Array Slot), lv_has ls 7 [(0, .ref (ad 0)), (1, .int x2), (2, .int x16), (3, .int x17), (4, .int x18)] → W p l e R (s.setDrawn d) m args below meth c H locs 0 0 Q (F0 m 43 ls [.int x39]) := by
                intro H_40 lo_40 dr_42 hd_42 I_40 ls_41 hl_41
                refine lv_istore (lv' := [(5, .int x39), (0, .ref (ad 0)), (1, .int x2), (2, .int x16), (3, .int x17), (4, .int x18)]) hx hb dX12_layWins_43 hl_41 (by decide) rfl (fun ls_43 hl_43 => ?_)
                refine lv_iload_n hx hb dX12_layWins_45 rfl (lv_at hl_43 2 rfl) ?_
                refine lv_iload hx hb dX12_layWins_46 (lv_at hl_43 5 rfl) ?_
                obtain ⟨x45, hv69, hf⟩ := bd_some hf
                have J44 : ∀ (H : Heap) (locs : List Loc) (d : Drawn), s.drawn.sameBut d lw_cs → sInv D (mT cI cJ cD) (mW ad cI cJ cD) A s H locs (G19, E, Dm4) → ∀ (ls : Array Slot), lv_has ls 7 [(0, .ref (ad 0)), (1, .int x2), (2, .int x16), (3, .int x17), (4, .int x18), (5, .int x39)] → W p l e R (s.setDrawn d) m args below meth c H locs 0 0 Q (F0 m 62 ls [.int x45]) := by
                  intro H_46 lo_46 dr_48 hd_48 I_46 ls_47 hl_47
                  refine lv_istore (lv' := [(6, .int x45), (0, .ref (ad 0)), (1, .int x2), (2, .int x16), (3, .int x17), (4, .int x18), (5, .int x39)]) hx hb dX12_layWins_62 hl_47 (by decide) rfl (fun ls_49 hl_49 => ?_)
                  refine lv_iload_n hx hb dX12_layWins_64 rfl (lv_at hl_49 3 rfl) ?_
                  refine lv_iload hx hb dX12_layWins_65 (lv_at hl_49 6 rfl) ?_
                  refine lv_iadd hx hb dX12_layWins_67 ?_
                  refine lv_topi (fun x50 ex50 => ?_)
                  replace hf := nm_some ex50 hf
                  refine lv_istore_n (lv' := [(2, .int x50), (6, .int x45), (0, .ref (ad 0)), (1, .int x2), (3, .int x17), (4, .int x18), (5, .int x39)]) hx hb dX12_layWins_68 rfl hl_49 (by decide) rfl (fun ls_51 hl_51 => ?_)
                  refine lv_iload_n hx hb dX12_layWins_69 rfl (lv_at hl_51 4 rfl) ?_
                  refine lv_iload hx hb dX12_layWins_70 (lv_at hl_51 1 rfl) ?_
                  refine lv_iadd hx hb dX12_layWins_72 ?_
                  refine lv_topi (fun x52 ex52 => ?_)
                  replace hf := nm_some ex52 hf
                  refine lv_istore_n (lv' := [(3, .int x52), (2, .int x50), (6, .int x45), (0, .ref (ad 0)), (1, .int x2), (4, .int x18), (5, .int x39)]) hx hb dX12_layWins_73 rfl hl_51 (by decide) rfl (fun ls_53 hl_53 => ?_)
                  refine lv_aload_n hx hb dX12_layWins_74 rfl (lv_at hl_53 3 rfl) ?_
                  refine mgtX12_82_0 (Fdr F) (Idr I_46) dX12_layWins_75 ?_
                  refine lv_bipush (v := (8 : Int32)) hx hb dX12_layWins_78 (by decide) ?_
                  refine lv_iload_n hx hb dX12_layWins_80 rfl (lv_at hl_53 4 rfl) ?_
                  refine lv_imul hx hb dX12_layWins_81 ?_
                  refine lv_iload hx hb dX12_layWins_82 (lv_at hl_53 5 rfl) ?_
                  refine lv_iadd hx hb dX12_layWins_84 ?_
                  refine lv_iload_n hx hb dX12_layWins_85 rfl (lv_at hl_53 4 rfl) ?_
                  refine lv_iload hx hb dX12_layWins_86 (lv_at hl_53 5 rfl) ?_
                  obtain ⟨x55, hv64, hf⟩ := bd_some hf
                  have J54 : ∀ (H : Heap) (locs : List Loc) (d : Drawn), s.drawn.sameBut d lw_cs → sInv D (mT cI cJ cD) (mW ad cI cJ cD) A s H locs (G19, E, Dm4) → ∀ (ls : Array Slot), lv_has ls 7 [(0, .ref (ad 0)), (1, .int x2), (2, .int x50), (3, .int x52), (4, .int x18)] → W p l e R (s.setDrawn d) m args below meth c H locs 0 0 Q (F0 m 108 ls [.int x55, .int (((8 : Int32) * x2) + x18), .ref (ad 23)]) := by
                    intro H_56 lo_56 dr_58 hd_58 I_56 ls_57 hl_57
                    obtain ⟨g59, hf⟩ := ri_some hf
                    refine mas23 (Fdr F) (Idr I_56) g59 dX12_layWins_108 ?_
                    intro H_61 lo_61 G60 eG60 I_61
                    replace I_61 := Irr I_61
                    replace hf := nm_some eG60 hf
                    obtain ⟨x62, ex62⟩ : ∃ y : Int32, y = x18 + (1 : Int32) := ⟨_, rfl⟩
                    replace hf := nm_some ex62 hf
                    refine lv_iinc (v := x62) (lv' := [(4, .int x62), (0, .ref (ad 0)), (1, .int x2), (2, .int x50), (3, .int x52)]) hx hb dX12_layWins_109 hl_57 (k := 4) rfl (by rw [ex62]; rfl) (by decide) rfl (fun ls_63 hl_63 => ?_)
                    refine lv_goto (tgt := 17) hx hb dX12_layWins_112 (by decide) ?_
                    cases hf
                    exact ih2 _ _ _ _ hK2 H_61 lo_61 dr_58 hd_58 I_61 ls_63 (lv_sub hl_63 [1, 2, 3, 4, 0] rfl)
                  replace hf := hv64
                  refine lv_icmp_ne (tgt := 95) hx hb dX12_layWins_88 (by decide) (fun c68 => ?_) (fun c68 => ?_)
                  · replace hf := (if_neg c68).symm.trans hf
                    refine lv_iload hx hb dX12_layWins_95 (lv_at hl_53 6 rfl) ?_
                    refine lv_iload hx hb dX12_layWins_97 (lv_at hl_53 2 rfl) ?_
                    refine lv_iadd hx hb dX12_layWins_99 ?_
                    refine lv_aload_n hx hb dX12_layWins_100 rfl (lv_at hl_53 3 rfl) ?_
                    refine lv_iload hx hb dX12_layWins_101 (lv_at hl_53 5 rfl) ?_
                    refine lv_iload_n hx hb dX12_layWins_103 rfl (lv_at hl_53 4 rfl) ?_
                    obtain ⟨r65, h66, hf⟩ := bd_some hf
                    refine s_callVi (As := [.int x18, .int x2]) (rest := [.int (x39 + x45), .int (((8 : Int32) * x2) + x18), .ref (ad 23)]) (Fdr F) (Idr I_46) (cM_wins G19 E Dm4 x18 x2 r65 h66) kX12_227 ⟨rfl, rfl⟩ ⟨Nat.le_trans (Nat.le_of_ble_eq_true rfl) hRf, Nat.le_trans (Nat.le_of_ble_eq_true rfl) hRl⟩ (0) 12 rfl rfl rfl rfl rfl hl_53.1 (Nat.le_of_ble_eq_true rfl) ⟨Nat.zero_le _, Nat.zero_le _⟩ dX12_layWins_104 ?_
                    intro H_67 lo_67 I_67
                    replace I_67 := Irr I_67
                    refine lv_iadd hx hb dX12_layWins_107 ?_
                    cases hf
                    exact J54 H_67 lo_67 dr_48 hd_48 I_67 ls_53 (lv_sub hl_53 [3, 4, 1, 0, 5] rfl)
                  · replace hf := (if_pos c68).symm.trans hf
                    refine lv_iconst (v := (0 : Int32)) hx hb dX12_layWins_91 (by decide) ?_
                    refine lv_goto (tgt := 108) hx hb dX12_layWins_92 (by decide) ?_
                    cases hf
                    exact J54 H_46 lo_46 dr_48 hd_48 I_46 ls_53 (lv_sub hl_53 [3, 4, 1, 0, 5] rfl)
                replace hf := hv69
                refine lv_icmp_ne (tgt := 55) hx hb dX12_layWins_48 (by decide) (fun c73 => ?_) (fun c73 => ?_)
                · replace hf := (if_neg c73).symm.trans hf
                  refine lv_aload_n hx hb dX12_layWins_55 rfl (lv_at hl_43 1 rfl) ?_
                  refine lv_iload_n hx hb dX12_layWins_56 rfl (lv_at hl_43 2 rfl) ?_
                  refine lv_iload hx hb dX12_layWins_57 (lv_at hl_43 5 rfl) ?_
                  obtain ⟨r70, h71, hf⟩ := bd_some hf
                  refine s_callVi (As := [.int x2, .int x18]) (rest := []) (Fdr F) (Idr I_40) (cM_tiesOf G19 E Dm4 x2 x18 r70 h71) kX12_230 ⟨rfl, rfl⟩ ⟨Nat.le_trans (Nat.le_of_ble_eq_true rfl) hRf, Nat.le_trans (Nat.le_of_ble_eq_true rfl) hRl⟩ (0) 12 rfl rfl rfl rfl rfl hl_43.1 (Nat.le_of_ble_eq_true rfl) ⟨Nat.zero_le _, Nat.zero_le _⟩ dX12_layWins_59 ?_
                  intro H_72 lo_72 I_72
                  replace I_72 := Irr I_72
                  cases hf
                  exact J44 H_72 lo_72 dr_42 hd_42 I_72 ls_43 (lv_sub hl_43 [1, 2, 3, 4, 5, 0] rfl)
                · replace hf := (if_pos c73).symm.trans hf
                  refine lv_iconst (v := (0 : Int32)) hx hb dX12_layWins_51 (by decide) ?_
                  refine lv_goto (tgt := 62) hx hb dX12_layWins_52 (by decide) ?_
                  cases hf
                  exact J44 H_40 lo_40 dr_42 hd_42 I_40 ls_43 (lv_sub hl_43 [1, 2, 3, 4, 5, 0] rfl)
              replace hf := hv74
              refine lv_icmp_ne (tgt := 36) hx hb dX12_layWins_29 (by decide) (fun c78 => ?_) (fun c78 => ?_)
              · replace hf := (if_neg c78).symm.trans hf
                refine lv_aload_n hx hb dX12_layWins_36 rfl (lv_at hl_36 0 rfl) ?_
                refine lv_iload_n hx hb dX12_layWins_37 rfl (lv_at hl_36 1 rfl) ?_
                refine lv_iload hx hb dX12_layWins_38 (lv_at hl_36 4 rfl) ?_
                obtain ⟨r75, h76, hf⟩ := bd_some hf
                refine s_callVi (As := [.int x2, .int x18]) (rest := []) (Fdr F) (Idr I_35) (cM_wins G19 E Dm4 x2 x18 r75 h76) kX12_227 ⟨rfl, rfl⟩ ⟨Nat.le_trans (Nat.le_of_ble_eq_true rfl) hRf, Nat.le_trans (Nat.le_of_ble_eq_true rfl) hRl⟩ (0) 12 rfl rfl rfl rfl rfl hl_36.1 (Nat.le_of_ble_eq_true rfl) ⟨Nat.zero_le _, Nat.zero_le _⟩ dX12_layWins_40 ?_
                intro H_77 lo_77 I_77
                replace I_77 := Irr I_77
                cases hf
                exact J38 H_77 lo_77 dr_37 hd_37 I_77 ls_36 (lv_sub hl_36 [0, 1, 2, 3, 4] rfl)
              · replace hf := (if_pos c78).symm.trans hf
                refine lv_iconst (v := (0 : Int32)) hx hb dX12_layWins_32 (by decide) ?_
                refine lv_goto (tgt := 43) hx hb dX12_layWins_33 (by decide) ?_
                cases hf
                exact J38 H_35 lo_35 dr_37 hd_37 I_35 ls_36 (lv_sub hl_36 [0, 1, 2, 3, 4] rfl)
        exact L2 FU _ _ _ _ hq2 H_10 lo_10 dr_12 hd_12 I_10 ls_15 (lv_sub hl_15 [3, 4, 2, 1, 0] rfl)
  exact L1 FU _ _ _ hq1 H lo dr Dm hd ha I ls_1 (lv_sub hl_1 [1, 0] rfl)
def M_freshOf_s1 (a0 : Int32) (G : Nat → Nat → Int32) (Dd : Nat → Nat → UInt64) (x5 : UInt64) (x6 : Int32) : Option ((UInt64 × Int32) ⊕ (UInt64)) :=
if G 1 0 ≤ x6 then
(some (.inr x5))
else
(ri 8 a0 <|
ri 8 x6 <|
nm ((FP.dadd (Dd 35 a0.toNatClampNeg) (Dd 35 x6.toNatClampNeg)) : UInt64) fun x23 =>
ri 64 (((8 : Int32) * a0) + x6) <|
bd (if G 38 (((8 : Int32) * a0) + x6).toNatClampNeg ≤ 0 then
(some FP.dconst0)
else
(if Op.cmpValue (FP.dcmp x23 FP.dconst0) CmpOp.l ≤ 0 then
(some FP.dconst0)
else
(ri 64 (((8 : Int32) * a0) + x6) <|
some (FP.ddiv (FP.i2d (G 38 (((8 : Int32) * a0) + x6).toNatClampNeg)) x23)))) fun x27 =>
nm ((FP.dadd x5 x27) : UInt64) fun x33 =>
nm (x6 + (1 : Int32) : Int32) fun x35 =>
some (.inl (x33, x35)))
def M_freshOf (G : Nat → Nat → Int32) (Dd : Nat → Nat → UInt64) (a0 : Int32) : Option (UInt64) :=
nm (FP.dconst0 : UInt64) fun x1 =>
bd (lp (fun q => M_freshOf_s1 a0 G Dd q.1 q.2) FU (x1, (0 : Int32))) fun x7 =>
if Op.cmpValue (FP.dcmp x7 FP.dconst0) CmpOp.l ≤ 0 then
(ri 8 a0 <|
some (Dd 35 a0.toNatClampNeg))
else
(ri 8 a0 <|
some (FP.ddiv (Dd 37 a0.toNatClampNeg) x7))
set_option maxRecDepth 100000 in
set_option maxHeartbeats 4000000 in
theorem cM_freshOf (G : Nat → Nat → Int32) (E : Nat → Nat → Int64) (Dd : Nat → Nat → UInt64) (a0 : Int32) (rv : UInt64)  (hf : M_freshOf G Dd a0 = some rv) : sDd D (mT cI cJ cD) (mW ad cI cJ cD) mSm l yX12_freshOf (ws1 yX12_freshOf cX12_freshOf 7 (some .double)) ({ frames := 0, cells := 0, slots := 0, locals := 0 }) [.ref (ad 0), .int a0] (G, E, Dd) (rv, (G, E, Dd)) := by
  unfold M_freshOf at hf
  refine sDd_of (by decide) (Nat.le_of_ble_eq_true rfl) ?_
  intro p e R s m args below meth c A Q ls H lo dr sgm F hRf hRl hd hsm I hl ret
  obtain ⟨_, _, Dm⟩ := sgm
  obtain ⟨rfl, rfl, ha⟩ := mSm_dest hsm
  obtain ⟨hx, hb, hml, hown, hG⟩ := id F
  replace hl : lv_has ls 7 [(0, .ref (ad 0)), (1, .int a0)] := hl
  refine lv_dconst0 hx hb dX12_freshOf_0 ?_
  obtain ⟨x1, ex1⟩ : ∃ z : UInt64, z = FP.dconst0 := ⟨_, rfl⟩
  replace hf := nm_some ex1 hf
  have hx1 := al_eq2 ex1 (al_rf _)
  refine lv_topd (fun m2 em2 => ?_)
  have hm2 := al_eq em2 hx1
  refine lv_dstore_n (lv' := [(2, .double m2), (0, .ref (ad 0)), (1, .int a0)]) hx hb dX12_freshOf_1 rfl hl (by decide) rfl (fun ls_3 hl_3 => ?_)
  refine lv_iconst (v := (0 : Int32)) hx hb dX12_freshOf_2 (by decide) ?_
  refine lv_istore (lv' := [(4, .int (0 : Int32)), (2, .double m2), (0, .ref (ad 0)), (1, .int a0)]) hx hb dX12_freshOf_3 hl_3 (by decide) rfl (fun ls_4 hl_4 => ?_)
  obtain ⟨x7, hq1, hf⟩ := bd_some hf
  have K1 : ∀ (H : Heap) (locs : List Loc) (d : Drawn) (mx7 : UInt64), s.drawn.sameBut d lw_cs → alike64 mx7 x7 = true → sInv D (mT cI cJ cD) (mW ad cI cJ cD) A s H locs (G, E, Dm) → ∀ (ls : Array Slot), lv_has ls 7 [(0, .ref (ad 0)), (1, .int a0), (2, .double mx7)] → W p l e R (s.setDrawn d) m args below meth c H locs 0 0 Q (F0 m 81 ls []) := by
    intro H_8 lo_8 dr_10 mx7 hd_10 hx7 I_8 ls_9 hl_9
    refine lv_dload_n hx hb dX12_freshOf_81 rfl (lv_at hl_9 2 rfl) ?_
    refine lv_dconst0 hx hb dX12_freshOf_82 ?_
    refine lv_dcmp hx hb dX12_freshOf_83 ?_
    rw [al_dcmp hx7 (al_rf _)]
    refine lv_if_le (tgt := 98) hx hb dX12_freshOf_84 (by decide) (fun c15 => ?_) (fun c15 => ?_)
    · replace hf := (if_pos c15).symm.trans hf
      refine lv_aload_n hx hb dX12_freshOf_98 rfl (lv_at hl_9 0 rfl) ?_
      refine mgtX12_72_0 (Fdr F) (Idr I_8) dX12_freshOf_99 ?_
      refine lv_iload_n hx hb dX12_freshOf_102 rfl (lv_at hl_9 1 rfl) ?_
      obtain ⟨g11, hf⟩ := ri_some hf
      refine mal20 (Fdr F) (Idr I_8) g11 dX12_freshOf_103 ?_
      cases hf
      exact ret H_8 lo_8 _ ls_9 dr_10 _ _ hd_10 I_8 ⟨rfl, rfl, ha⟩ (ha 35 _) dX12_freshOf_104
    · replace hf := (if_neg c15).symm.trans hf
      refine lv_aload_n hx hb dX12_freshOf_87 rfl (lv_at hl_9 0 rfl) ?_
      refine mgtX12_79_0 (Fdr F) (Idr I_8) dX12_freshOf_88 ?_
      refine lv_iload_n hx hb dX12_freshOf_91 rfl (lv_at hl_9 1 rfl) ?_
      obtain ⟨g12, hf⟩ := ri_some hf
      refine mal22 (Fdr F) (Idr I_8) g12 dX12_freshOf_92 ?_
      refine lv_dload_n hx hb dX12_freshOf_93 rfl (lv_at hl_9 2 rfl) ?_
      refine lv_ddiv_any hd_10 lw_bits hx hb dX12_freshOf_94 (fun u13 dr_14 alu13 hd_14 => ?_)
      have hu13 := al_ddiv alu13 (ha 37 _) hx7
      refine lv_goto (tgt := 104) hx hb dX12_freshOf_95 (by decide) ?_
      cases hf
      exact ret H_8 lo_8 _ ls_9 dr_14 _ _ hd_14 I_8 ⟨rfl, rfl, ha⟩ hu13 dX12_freshOf_104
  have L1 : ∀ (n : Nat) (x5 : UInt64) (x6 : Int32), lp (fun q => M_freshOf_s1 a0 G Dd q.1 q.2) n (x5, x6) = some x7 → ∀ (H : Heap) (locs : List Loc) (d : Drawn) (mx5 : UInt64), s.drawn.sameBut d lw_cs → alike64 mx5 x5 = true → sInv D (mT cI cJ cD) (mW ad cI cJ cD) A s H locs (G, E, Dm) → ∀ (ls : Array Slot), lv_has ls 7 [(0, .ref (ad 0)), (1, .int a0), (2, .double mx5), (4, .int x6)] → W p l e R (s.setDrawn d) m args below meth c H locs 0 0 Q (F0 m 5 ls []) := by
    intro n
    induction n with
    | zero => intro x5 x6 hq; exact (lp_0 hq).elim
    | succ n ih1 =>
      intro x5 x6 hq H_16 lo_16 dr_18 mx5 hd_18 hx5 I_16 ls_17 hl_17
      obtain ⟨y1, hf, hK1⟩ := lp_go hq
      replace hf : M_freshOf_s1 a0 G Dd x5 x6 = some y1 := hf
      unfold M_freshOf_s1 at hf
      refine lv_iload hx hb dX12_freshOf_5 (lv_at hl_17 3 rfl) ?_
      refine lv_aload_n hx hb dX12_freshOf_7 rfl (lv_at hl_17 0 rfl) ?_
      refine mgtX12_92_0 (Fdr F) (Idr I_16) dX12_freshOf_8 ?_
      refine lv_icmp_ge (tgt := 81) hx hb dX12_freshOf_11 (by decide) (fun c43 => ?_) (fun c43 => ?_)
      · replace hf := (if_pos c43).symm.trans hf
        cases hf
        cases (show x5 = x7 from hK1)
        exact K1 H_16 lo_16 dr_18 mx5 hd_18 hx5 I_16 ls_17 (lv_sub hl_17 [0, 1, 2] rfl)
      · replace hf := (if_neg c43).symm.trans hf
        refine lv_aload_n hx hb dX12_freshOf_14 rfl (lv_at hl_17 0 rfl) ?_
        refine mgtX12_72_0 (Fdr F) (Idr I_16) dX12_freshOf_15 ?_
        refine lv_iload_n hx hb dX12_freshOf_18 rfl (lv_at hl_17 1 rfl) ?_
        obtain ⟨g19, hf⟩ := ri_some hf
        refine mal20 (Fdr F) (Idr I_16) g19 dX12_freshOf_19 ?_
        refine lv_aload_n hx hb dX12_freshOf_20 rfl (lv_at hl_17 0 rfl) ?_
        refine mgtX12_72_0 (Fdr F) (Idr I_16) dX12_freshOf_21 ?_
        refine lv_iload hx hb dX12_freshOf_24 (lv_at hl_17 3 rfl) ?_
        obtain ⟨g20, hf⟩ := ri_some hf
        refine mal20 (Fdr F) (Idr I_16) g20 dX12_freshOf_26 ?_
        refine lv_dadd_any hd_18 lw_bits hx hb dX12_freshOf_27 (fun u21 dr_22 alu21 hd_22 => ?_)
        have hu21 := al_dadd alu21 (ha 35 _) (ha 35 _)
        obtain ⟨x23, ex23⟩ : ∃ z : UInt64, z = (FP.dadd (Dd 35 a0.toNatClampNeg) (Dd 35 x6.toNatClampNeg)) := ⟨_, rfl⟩
        replace hf := nm_some ex23 hf
        have hx23 := al_eq2 ex23 hu21
        refine lv_dstore (lv' := [(5, .double u21), (0, .ref (ad 0)), (1, .int a0), (2, .double mx5), (4, .int x6)]) hx hb dX12_freshOf_28 hl_17 (by decide) rfl (fun ls_24 hl_24 => ?_)
        refine lv_dload_n hx hb dX12_freshOf_30 rfl (lv_at hl_24 3 rfl) ?_
        refine lv_aload_n hx hb dX12_freshOf_31 rfl (lv_at hl_24 1 rfl) ?_
        refine mgtX12_82_0 (Fdr F) (Idr I_16) dX12_freshOf_32 ?_
        refine lv_bipush (v := (8 : Int32)) hx hb dX12_freshOf_35 (by decide) ?_
        refine lv_iload_n hx hb dX12_freshOf_37 rfl (lv_at hl_24 2 rfl) ?_
        refine lv_imul hx hb dX12_freshOf_38 ?_
        refine lv_iload hx hb dX12_freshOf_39 (lv_at hl_24 4 rfl) ?_
        refine lv_iadd hx hb dX12_freshOf_41 ?_
        obtain ⟨g25, hf⟩ := ri_some hf
        refine mal23 (Fdr F) (Idr I_16) g25 dX12_freshOf_42 ?_
        obtain ⟨x27, hv37, hf⟩ := bd_some hf
        have J26 : ∀ (H : Heap) (locs : List Loc) (d : Drawn) (mx27 : UInt64), s.drawn.sameBut d lw_cs → alike64 mx27 x27 = true → sInv D (mT cI cJ cD) (mW ad cI cJ cD) A s H locs (G, E, Dm) → ∀ (ls : Array Slot), lv_has ls 7 [(0, .ref (ad 0)), (1, .int a0), (4, .int x6)] → W p l e R (s.setDrawn d) m args below meth c H locs 0 0 Q (F0 m 73 ls [.double mx27, .double mx5]) := by
          intro H_28 lo_28 dr_30 mx27 hd_30 hx27 I_28 ls_29 hl_29
          refine lv_dadd_any hd_30 lw_bits hx hb dX12_freshOf_73 (fun u31 dr_32 alu31 hd_32 => ?_)
          have hu31 := al_dadd alu31 hx5 hx27
          obtain ⟨x33, ex33⟩ : ∃ z : UInt64, z = (FP.dadd x5 x27) := ⟨_, rfl⟩
          replace hf := nm_some ex33 hf
          have hx33 := al_eq2 ex33 hu31
          refine lv_dstore_n (lv' := [(2, .double u31), (0, .ref (ad 0)), (1, .int a0), (4, .int x6)]) hx hb dX12_freshOf_74 rfl hl_29 (by decide) rfl (fun ls_34 hl_34 => ?_)
          obtain ⟨x35, ex35⟩ : ∃ y : Int32, y = x6 + (1 : Int32) := ⟨_, rfl⟩
          replace hf := nm_some ex35 hf
          refine lv_iinc (v := x35) (lv' := [(4, .int x35), (2, .double u31), (0, .ref (ad 0)), (1, .int a0)]) hx hb dX12_freshOf_75 hl_34 (k := 3) rfl (by rw [ex35]; rfl) (by decide) rfl (fun ls_36 hl_36 => ?_)
          refine lv_goto (tgt := 5) hx hb dX12_freshOf_78 (by decide) ?_
          cases hf
          exact ih1 _ _ hK1 H_28 lo_28 dr_32 u31 hd_32 hx33 I_28 ls_36 (lv_sub hl_36 [2, 3, 1, 0] rfl)
        replace hf := hv37
        refine lv_if_le (tgt := 72) hx hb dX12_freshOf_43 (by decide) (fun c42 => ?_) (fun c42 => ?_)
        · replace hf := (if_pos c42).symm.trans hf
          refine lv_dconst0 hx hb dX12_freshOf_72 ?_
          cases hf
          exact J26 H_16 lo_16 dr_22 FP.dconst0 hd_22 (al_rf _) I_16 ls_24 (lv_sub hl_24 [1, 2, 4] rfl)
        · replace hf := (if_neg c42).symm.trans hf
          refine lv_dload hx hb dX12_freshOf_46 (lv_at hl_24 0 rfl) ?_
          refine lv_dconst0 hx hb dX12_freshOf_48 ?_
          refine lv_dcmp hx hb dX12_freshOf_49 ?_
          rw [al_dcmp hx23 (al_rf _)]
          refine lv_if_le (tgt := 72) hx hb dX12_freshOf_50 (by decide) (fun c41 => ?_) (fun c41 => ?_)
          · replace hf := (if_pos c41).symm.trans hf
            refine lv_dconst0 hx hb dX12_freshOf_72 ?_
            cases hf
            exact J26 H_16 lo_16 dr_22 FP.dconst0 hd_22 (al_rf _) I_16 ls_24 (lv_sub hl_24 [1, 2, 4] rfl)
          · replace hf := (if_neg c41).symm.trans hf
            refine lv_aload_n hx hb dX12_freshOf_53 rfl (lv_at hl_24 1 rfl) ?_
            refine mgtX12_82_0 (Fdr F) (Idr I_16) dX12_freshOf_54 ?_
            refine lv_bipush (v := (8 : Int32)) hx hb dX12_freshOf_57 (by decide) ?_
            refine lv_iload_n hx hb dX12_freshOf_59 rfl (lv_at hl_24 2 rfl) ?_
            refine lv_imul hx hb dX12_freshOf_60 ?_
            refine lv_iload hx hb dX12_freshOf_61 (lv_at hl_24 4 rfl) ?_
            refine lv_iadd hx hb dX12_freshOf_63 ?_
            obtain ⟨g38, hf⟩ := ri_some hf
            refine mal23 (Fdr F) (Idr I_16) g38 dX12_freshOf_64 ?_
            refine lv_i2d hx hb dX12_freshOf_65 ?_
            refine lv_dload hx hb dX12_freshOf_66 (lv_at hl_24 0 rfl) ?_
            refine lv_ddiv_any hd_22 lw_bits hx hb dX12_freshOf_68 (fun u39 dr_40 alu39 hd_40 => ?_)
            have hu39 := al_ddiv alu39 (al_rf _) hx23
            refine lv_goto (tgt := 73) hx hb dX12_freshOf_69 (by decide) ?_
            cases hf
            exact J26 H_16 lo_16 dr_40 u39 hd_40 hu39 I_16 ls_24 (lv_sub hl_24 [1, 2, 4] rfl)
  exact L1 FU _ _ hq1 H lo dr m2 hd hm2 I ls_4 (lv_sub hl_4 [2, 3, 1, 0] rfl)
end Meth
