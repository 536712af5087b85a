section Meth
variable {D : va_G} {l : Launch} {tq ta tn : Nat} {cI : ClassId}
def P_size (tn : Nat) : Int32 :=
(nI tn)
set_option maxRecDepth 100000 in
set_option maxHeartbeats 4000000 in
theorem cP_size (G : Nat → Nat → Int32)  (rv : Int32)  (hv : rv = P_size tn) : sMi D (pT cI) (pWd tq ta tn cI) l yX4_size (ws1 yX4_size cX4_size 1 (some .int)) ({ frames := 0, cells := 0, slots := 0, locals := 0 }) [.ref (tq)] (G) (rv, (G)) := by
  have hf : (some (nI tn)) = some rv := by rw [hv]; rfl
  refine sMi_of (by decide) (Nat.le_of_ble_eq_true rfl) ?_
  intro p e R s m args below meth c A Q ls H lo F hRf hRl I hl ret
  obtain ⟨hx, hb, hml, hown, hG⟩ := id F
  replace hl : lv_has ls 1 [(0, .ref (tq))] := hl
  refine lv_aload_n hx hb dX4_size_0 rfl (lv_at hl 0 rfl) ?_
  refine pgtX4_13_0 F I dX4_size_1 ?_
  refine pln1 F I dX4_size_4 ?_
  cases hf
  exact ret H lo _ ls I dX4_size_5
def P_firstAt (tn : Nat) (G : Nat → Nat → Int32) (a0 : Int32) : Option (Int32) :=
if a0 < 0 then
(some (0 : Int32))
else
(if (nI tn) ≤ a0 then
(some (0 : Int32))
else
(ri tn a0 <|
some ((G 1 a0.toNatClampNeg) >>> ((3 : Int32) &&& 31))))
set_option maxRecDepth 100000 in
set_option maxHeartbeats 4000000 in
theorem cP_firstAt (G : Nat → Nat → Int32) (a0 : Int32) (rv : Int32)  (hf : P_firstAt tn G a0 = some rv) : sMi D (pT cI) (pWd tq ta tn cI) l yX4_firstAt (ws1 yX4_firstAt cX4_firstAt 2 (some .int)) ({ frames := 0, cells := 0, slots := 0, locals := 0 }) [.ref (tq), .int a0] (G) (rv, (G)) := by
  unfold P_firstAt at hf
  refine sMi_of (by decide) (Nat.le_of_ble_eq_true rfl) ?_
  intro p e R s m args below meth c A Q ls H lo F hRf hRl I hl ret
  obtain ⟨hx, hb, hml, hown, hG⟩ := id F
  replace hl : lv_has ls 2 [(0, .ref (tq)), (1, .int a0)] := hl
  refine lv_iload_n hx hb dX4_firstAt_0 rfl (lv_at hl 1 rfl) ?_
  refine lv_if_lt (tgt := 24) hx hb dX4_firstAt_1 (by decide) (fun c3 => ?_) (fun c3 => ?_)
  · replace hf := (if_pos c3).symm.trans hf
    refine lv_iconst (v := (0 : Int32)) hx hb dX4_firstAt_24 (by decide) ?_
    cases hf
    exact ret H lo _ ls I dX4_firstAt_25
  · replace hf := (if_neg c3).symm.trans hf
    refine lv_iload_n hx hb dX4_firstAt_4 rfl (lv_at hl 1 rfl) ?_
    refine lv_aload_n hx hb dX4_firstAt_5 rfl (lv_at hl 0 rfl) ?_
    refine pgtX4_13_0 F I dX4_firstAt_6 ?_
    refine pln1 F I dX4_firstAt_9 ?_
    refine lv_icmp_ge (tgt := 24) hx hb dX4_firstAt_10 (by decide) (fun c2 => ?_) (fun c2 => ?_)
    · replace hf := (if_pos c2).symm.trans hf
      refine lv_iconst (v := (0 : Int32)) hx hb dX4_firstAt_24 (by decide) ?_
      cases hf
      exact ret H lo _ ls I dX4_firstAt_25
    · replace hf := (if_neg c2).symm.trans hf
      refine lv_aload_n hx hb dX4_firstAt_13 rfl (lv_at hl 0 rfl) ?_
      refine pgtX4_13_0 F I dX4_firstAt_14 ?_
      refine lv_iload_n hx hb dX4_firstAt_17 rfl (lv_at hl 1 rfl) ?_
      obtain ⟨g1, hf⟩ := ri_some hf
      refine pal1 F I g1 dX4_firstAt_18 ?_
      refine lv_iconst (v := (3 : Int32)) hx hb dX4_firstAt_19 (by decide) ?_
      refine lv_ishr hx hb dX4_firstAt_20 ?_
      refine lv_goto (tgt := 25) hx hb dX4_firstAt_21 (by decide) ?_
      cases hf
      exact ret H lo _ ls I dX4_firstAt_25
def P_secondAt (tn : Nat) (G : Nat → Nat → Int32) (a0 : Int32) : Option (Int32) :=
if a0 < 0 then
(some (0 : Int32))
else
(if (nI tn) ≤ a0 then
(some (0 : Int32))
else
(ri tn a0 <|
some ((G 1 a0.toNatClampNeg) &&& (7 : Int32))))
set_option maxRecDepth 100000 in
set_option maxHeartbeats 4000000 in
theorem cP_secondAt (G : Nat → Nat → Int32) (a0 : Int32) (rv : Int32)  (hf : P_secondAt tn G a0 = some rv) : sMi D (pT cI) (pWd tq ta tn cI) l yX4_secondAt (ws1 yX4_secondAt cX4_secondAt 2 (some .int)) ({ frames := 0, cells := 0, slots := 0, locals := 0 }) [.ref (tq), .int a0] (G) (rv, (G)) := by
  unfold P_secondAt at hf
  refine sMi_of (by decide) (Nat.le_of_ble_eq_true rfl) ?_
  intro p e R s m args below meth c A Q ls H lo F hRf hRl I hl ret
  obtain ⟨hx, hb, hml, hown, hG⟩ := id F
  replace hl : lv_has ls 2 [(0, .ref (tq)), (1, .int a0)] := hl
  refine lv_iload_n hx hb dX4_secondAt_0 rfl (lv_at hl 1 rfl) ?_
  refine lv_if_lt (tgt := 25) hx hb dX4_secondAt_1 (by decide) (fun c3 => ?_) (fun c3 => ?_)
  · replace hf := (if_pos c3).symm.trans hf
    refine lv_iconst (v := (0 : Int32)) hx hb dX4_secondAt_25 (by decide) ?_
    cases hf
    exact ret H lo _ ls I dX4_secondAt_26
  · replace hf := (if_neg c3).symm.trans hf
    refine lv_iload_n hx hb dX4_secondAt_4 rfl (lv_at hl 1 rfl) ?_
    refine lv_aload_n hx hb dX4_secondAt_5 rfl (lv_at hl 0 rfl) ?_
    refine pgtX4_13_0 F I dX4_secondAt_6 ?_
    refine pln1 F I dX4_secondAt_9 ?_
    refine lv_icmp_ge (tgt := 25) hx hb dX4_secondAt_10 (by decide) (fun c2 => ?_) (fun c2 => ?_)
    · replace hf := (if_pos c2).symm.trans hf
      refine lv_iconst (v := (0 : Int32)) hx hb dX4_secondAt_25 (by decide) ?_
      cases hf
      exact ret H lo _ ls I dX4_secondAt_26
    · replace hf := (if_neg c2).symm.trans hf
      refine lv_aload_n hx hb dX4_secondAt_13 rfl (lv_at hl 0 rfl) ?_
      refine pgtX4_13_0 F I dX4_secondAt_14 ?_
      refine lv_iload_n hx hb dX4_secondAt_17 rfl (lv_at hl 1 rfl) ?_
      obtain ⟨g1, hf⟩ := ri_some hf
      refine pal1 F I g1 dX4_secondAt_18 ?_
      refine lv_bipush (v := (7 : Int32)) hx hb dX4_secondAt_19 (by decide) ?_
      refine lv_iand hx hb dX4_secondAt_21 ?_
      refine lv_goto (tgt := 26) hx hb dX4_secondAt_22 (by decide) ?_
      cases hf
      exact ret H lo _ ls I dX4_secondAt_26
def P_cell (tn : Nat) (a0 : Int32) (a1 : Int32) : Int32 :=
(((a0 &&& (7 : Int32)) <<< ((3 : Int32) &&& 31)) ||| (a1 &&& (7 : Int32)))
set_option maxRecDepth 100000 in
set_option maxHeartbeats 4000000 in
theorem cP_cell (G : Nat → Nat → Int32) (a0 : Int32) (a1 : Int32) (rv : Int32)  (hv : rv = P_cell tn a0 a1) : sMi D (pT cI) (pWd tq ta tn cI) l yX11_cell (ws1 yX11_cell cX11_cell 2 (some .int)) ({ frames := 0, cells := 0, slots := 0, locals := 0 }) [.int a0, .int a1] (G) (rv, (G)) := by
  have hf : (some (((a0 &&& (7 : Int32)) <<< ((3 : Int32) &&& 31)) ||| (a1 &&& (7 : Int32)))) = some rv := by rw [hv]; rfl
  refine sMi_of (by decide) (Nat.le_of_ble_eq_true rfl) ?_
  intro p e R s m args below meth c A Q ls H lo F hRf hRl I hl ret
  obtain ⟨hx, hb, hml, hown, hG⟩ := id F
  replace hl : lv_has ls 2 [(0, .int a0), (1, .int a1)] := hl
  refine lv_iload_n hx hb dX11_cell_0 rfl (lv_at hl 0 rfl) ?_
  refine lv_bipush (v := (7 : Int32)) hx hb dX11_cell_1 (by decide) ?_
  refine lv_iand hx hb dX11_cell_3 ?_
  refine lv_iconst (v := (3 : Int32)) hx hb dX11_cell_4 (by decide) ?_
  refine lv_ishl hx hb dX11_cell_5 ?_
  refine lv_iload_n hx hb dX11_cell_6 rfl (lv_at hl 1 rfl) ?_
  refine lv_bipush (v := (7 : Int32)) hx hb dX11_cell_7 (by decide) ?_
  refine lv_iand hx hb dX11_cell_9 ?_
  refine lv_ior hx hb dX11_cell_10 ?_
  cases hf
  exact ret H lo _ ls I dX11_cell_11
def P_listTrials_s3 (tn : Nat) (a0 : Int32) (x15 : Int32) (x29 : Int32) (x30 : Int32) (G31 : Nat → Nat → Int32) : Option ((Int32 × Int32 × (Nat → Nat → Int32)) ⊕ (Int32 × (Nat → Nat → Int32))) :=
if a0 ≤ x30 then
(some (.inr (x29, G31)))
else
(if (nI tn) ≤ x29 then
(some (.inr (x29, G31)))
else
(nm (P_cell tn x15 x30) fun r42 =>
ri tn x29 <|
nm (wr G31 1 x29 r42) fun G46 =>
nm (x29 + (1 : Int32) : Int32) fun x48 =>
nm (x30 + (1 : Int32) : Int32) fun x50 =>
some (.inl (x48, x50, G46))))
def P_listTrials_s2 (tn : Nat) (a0 : Int32) (x14 : Int32) (x15 : Int32) (G16 : Nat → Nat → Int32) : Option ((Int32 × Int32 × (Nat → Nat → Int32)) ⊕ (Int32 × (Nat → Nat → Int32))) :=
if a0 ≤ x15 then
(some (.inr (x14, G16)))
else
(nm (x15 + (1 : Int32) : Int32) fun x27 =>
bd2 (lp (fun q => P_listTrials_s3 tn a0 x15 q.1 q.2.1 q.2.2) FU (x14, x27, G16)) fun x32 G33 =>
nm (x15 + (1 : Int32) : Int32) fun x37 =>
some (.inl (x32, x37, G33)))
def P_listTrials_s1 (tn : Nat) (a0 : Int32) (a1 : Int32) (x3 : Int32) (x4 : Int32) (G5 : Nat → Nat → Int32) : Option ((Int32 × Int32 × (Nat → Nat → Int32)) ⊕ ((Nat → Nat → Int32))) :=
if a1 ≤ x4 then
(some (.inr G5))
else
(bd2 (lp (fun q => P_listTrials_s2 tn a0 q.1 q.2.1 q.2.2) FU (x3, (0 : Int32), G5)) fun x17 G18 =>
nm (x4 + (1 : Int32) : Int32) fun x22 =>
some (.inl (x17, x22, G18)))
def P_listTrials (tn : Nat) (G : Nat → Nat → Int32) (a0 : Int32) (a1 : Int32) : Option ((Nat → Nat → Int32)) :=
bd (lp (fun q => P_listTrials_s1 tn a0 a1 q.1 q.2.1 q.2.2) FU ((0 : Int32), (0 : Int32), G)) fun G6 =>
some G6
set_option maxRecDepth 100000 in
set_option maxHeartbeats 4000000 in
theorem cP_listTrials (G : Nat → Nat → Int32) (a0 : Int32) (a1 : Int32)  (newG : Nat → Nat → Int32) (hf : P_listTrials tn G a0 a1 = some newG) : sMv D (pT cI) (pWd tq ta tn cI) l yX4_listTrials (ws1 yX4_listTrials cX4_listTrials 7 none) ({ frames := 1, cells := 0, slots := 0, locals := 21 }) [.ref (tq), .int a0, .int a1] (G) (newG) := by
  unfold P_listTrials at hf
  refine sMv_of (by decide) (Nat.le_of_ble_eq_true rfl) ?_
  intro p e R s m args below meth c A Q ls H lo F hRf hRl I hl ret
  obtain ⟨hx, hb, hml, hown, hG⟩ := id F
  replace hl : lv_has ls 7 [(0, .ref (tq)), (1, .int a0), (2, .int a1)] := hl
  refine lv_iconst (v := (0 : Int32)) hx hb dX4_listTrials_0 (by decide) ?_
  refine lv_istore_n (lv' := [(3, .int (0 : Int32)), (0, .ref (tq)), (1, .int a0), (2, .int a1)]) hx hb dX4_listTrials_1 rfl hl (by decide) rfl (fun ls_1 hl_1 => ?_)
  refine lv_iconst (v := (0 : Int32)) hx hb dX4_listTrials_2 (by decide) ?_
  refine lv_istore (lv' := [(4, .int (0 : Int32)), (3, .int (0 : Int32)), (0, .ref (tq)), (1, .int a0), (2, .int a1)]) hx hb dX4_listTrials_3 hl_1 (by decide) rfl (fun ls_2 hl_2 => ?_)
  obtain ⟨G6, hq1, hf⟩ := bd_some hf
  have K1 : ∀ (H : Heap) (locs : List Loc), sInv D (pT cI) (pWd tq ta tn cI) A s H locs (G6) → ∀ (ls : Array Slot), lv_has ls 7 [] → W p l e R s m args below meth c H locs 0 0 Q (F0 m 75 ls []) := by
    intro H_7 lo_7 I_7 ls_8 hl_8
    cases hf
    exact ret H_7 lo_7 _ ls_8 I_7 dX4_listTrials_75
  have L1 : ∀ (n : Nat) (x3 : Int32) (x4 : Int32) (G5 : Nat → Nat → Int32), lp (fun q => P_listTrials_s1 tn a0 a1 q.1 q.2.1 q.2.2) n (x3, x4, G5) = some G6 → ∀ (H : Heap) (locs : List Loc), sInv D (pT cI) (pWd tq ta tn cI) A s H locs (G5) → ∀ (ls : Array Slot), lv_has ls 7 [(0, .ref (tq)), (1, .int a0), (2, .int a1), (3, .int x3), (4, .int x4)] → W p l e R s m args below meth c H locs 0 0 Q (F0 m 5 ls []) := by
    intro n
    induction n with
    | zero => intro x3 x4 G5 hq; exact (lp_0 hq).elim
    | succ n ih1 =>
      intro x3 x4 G5 hq H_10 lo_10 I_10 ls_11 hl_11
      obtain ⟨y1, hf, hK1⟩ := lp_go hq
      replace hf : P_listTrials_s1 tn a0 a1 x3 x4 G5 = some y1 := hf
      unfold P_listTrials_s1 at hf
      refine lv_iload hx hb dX4_listTrials_5 (lv_at hl_11 4 rfl) ?_
      refine lv_iload_n hx hb dX4_listTrials_7 rfl (lv_at hl_11 2 rfl) ?_
      refine lv_icmp_ge (tgt := 75) hx hb dX4_listTrials_8 (by decide) (fun c55 => ?_) (fun c55 => ?_)
      · replace hf := (if_pos c55).symm.trans hf
        cases hf
        cases (show G5 = G6 from hK1)
        exact K1 H_10 lo_10 I_10 ls_11 (lv_sub hl_11 [] rfl)
      · replace hf := (if_neg c55).symm.trans hf
        refine lv_iconst (v := (0 : Int32)) hx hb dX4_listTrials_11 (by decide) ?_
        refine lv_istore (lv' := [(5, .int (0 : Int32)), (0, .ref (tq)), (1, .int a0), (2, .int a1), (3, .int x3), (4, .int x4)]) hx hb dX4_listTrials_12 hl_11 (by decide) rfl (fun ls_13 hl_13 => ?_)
        obtain ⟨x17, G18, hq2, hf⟩ := bd2_some hf
        have K2 : ∀ (H : Heap) (locs : List Loc), sInv D (pT cI) (pWd tq ta tn cI) A s H locs (G18) → ∀ (ls : Array Slot), lv_has ls 7 [(0, .ref (tq)), (1, .int a0), (2, .int a1), (3, .int x17), (4, .int x4)] → W p l e R s m args below meth c H locs 0 0 Q (F0 m 69 ls []) := by
          intro H_19 lo_19 I_19 ls_20 hl_20
          obtain ⟨x22, ex22⟩ : ∃ y : Int32, y = x4 + (1 : Int32) := ⟨_, rfl⟩
          replace hf := nm_some ex22 hf
          refine lv_iinc (v := x22) (lv' := [(4, .int x22), (0, .ref (tq)), (1, .int a0), (2, .int a1), (3, .int x17)]) hx hb dX4_listTrials_69 hl_20 (k := 4) rfl (by rw [ex22]; rfl) (by decide) rfl (fun ls_23 hl_23 => ?_)
          refine lv_goto (tgt := 5) hx hb dX4_listTrials_72 (by decide) ?_
          cases hf
          exact ih1 _ _ _ hK1 H_19 lo_19 I_19 ls_23 (lv_sub hl_23 [1, 2, 3, 4, 0] rfl)
        have L2 : ∀ (n : Nat) (x14 : Int32) (x15 : Int32) (G16 : Nat → Nat → Int32), lp (fun q => P_listTrials_s2 tn a0 q.1 q.2.1 q.2.2) n (x14, x15, G16) = some (x17, G18) → ∀ (H : Heap) (locs : List Loc), sInv D (pT cI) (pWd tq ta tn cI) A s H locs (G16) → ∀ (ls : Array Slot), lv_has ls 7 [(0, .ref (tq)), (1, .int a0), (2, .int a1), (3, .int x14), (4, .int x4), (5, .int x15)] → W p l e R s m args below meth c H locs 0 0 Q (F0 m 14 ls []) := by
          intro n
          induction n with
          | zero => intro x14 x15 G16 hq; exact (lp_0 hq).elim
          | succ n ih2 =>
            intro x14 x15 G16 hq H_24 lo_24 I_24 ls_25 hl_25
            obtain ⟨y2, hf, hK2⟩ := lp_go hq
            replace hf : P_listTrials_s2 tn a0 x14 x15 G16 = some y2 := hf
            unfold P_listTrials_s2 at hf
            refine lv_iload hx hb dX4_listTrials_14 (lv_at hl_25 5 rfl) ?_
            refine lv_iload_n hx hb dX4_listTrials_16 rfl (lv_at hl_25 1 rfl) ?_
            refine lv_icmp_ge (tgt := 69) hx hb dX4_listTrials_17 (by decide) (fun c54 => ?_) (fun c54 => ?_)
            · replace hf := (if_pos c54).symm.trans hf
              cases hf
              cases (show (x14, G16) = (x17, G18) from hK2)
              exact K2 H_24 lo_24 I_24 ls_25 (lv_sub hl_25 [0, 1, 2, 3, 4] rfl)
            · replace hf := (if_neg c54).symm.trans hf
              refine lv_iload hx hb dX4_listTrials_20 (lv_at hl_25 5 rfl) ?_
              refine lv_iconst (v := (1 : Int32)) hx hb dX4_listTrials_22 (by decide) ?_
              refine lv_iadd hx hb dX4_listTrials_23 ?_
              refine lv_topi (fun x27 ex27 => ?_)
              replace hf := nm_some ex27 hf
              refine lv_istore (lv' := [(6, .int x27), (0, .ref (tq)), (1, .int a0), (2, .int a1), (3, .int x14), (4, .int x4), (5, .int x15)]) hx hb dX4_listTrials_24 hl_25 (by decide) rfl (fun ls_28 hl_28 => ?_)
              obtain ⟨x32, G33, hq3, hf⟩ := bd2_some hf
              have K3 : ∀ (H : Heap) (locs : List Loc), sInv D (pT cI) (pWd tq ta tn cI) A s H locs (G33) → ∀ (ls : Array Slot), lv_has ls 7 [(0, .ref (tq)), (1, .int a0), (2, .int a1), (3, .int x32), (4, .int x4), (5, .int x15)] → W p l e R s m args below meth c H locs 0 0 Q (F0 m 63 ls []) := by
                intro H_34 lo_34 I_34 ls_35 hl_35
                obtain ⟨x37, ex37⟩ : ∃ y : Int32, y = x15 + (1 : Int32) := ⟨_, rfl⟩
                replace hf := nm_some ex37 hf
                refine lv_iinc (v := x37) (lv' := [(5, .int x37), (0, .ref (tq)), (1, .int a0), (2, .int a1), (3, .int x32), (4, .int x4)]) hx hb dX4_listTrials_63 hl_35 (k := 5) rfl (by rw [ex37]; rfl) (by decide) rfl (fun ls_38 hl_38 => ?_)
                refine lv_goto (tgt := 14) hx hb dX4_listTrials_66 (by decide) ?_
                cases hf
                exact ih2 _ _ _ hK2 H_34 lo_34 I_34 ls_38 (lv_sub hl_38 [1, 2, 3, 4, 5, 0] rfl)
              have L3 : ∀ (n : Nat) (x29 : Int32) (x30 : Int32) (G31 : Nat → Nat → Int32), lp (fun q => P_listTrials_s3 tn a0 x15 q.1 q.2.1 q.2.2) n (x29, x30, G31) = some (x32, G33) → ∀ (H : Heap) (locs : List Loc), sInv D (pT cI) (pWd tq ta tn cI) A s H locs (G31) → ∀ (ls : Array Slot), lv_has ls 7 [(0, .ref (tq)), (1, .int a0), (2, .int a1), (3, .int x29), (4, .int x4), (5, .int x15), (6, .int x30)] → W p l e R s m args below meth c H locs 0 0 Q (F0 m 26 ls []) := by
                intro n
                induction n with
                | zero => intro x29 x30 G31 hq; exact (lp_0 hq).elim
                | succ n ih3 =>
                  intro x29 x30 G31 hq H_39 lo_39 I_39 ls_40 hl_40
                  obtain ⟨y3, hf, hK3⟩ := lp_go hq
                  replace hf : P_listTrials_s3 tn a0 x15 x29 x30 G31 = some y3 := hf
                  unfold P_listTrials_s3 at hf
                  refine lv_iload hx hb dX4_listTrials_26 (lv_at hl_40 6 rfl) ?_
                  refine lv_iload_n hx hb dX4_listTrials_28 rfl (lv_at hl_40 1 rfl) ?_
                  refine lv_icmp_ge (tgt := 63) hx hb dX4_listTrials_29 (by decide) (fun c53 => ?_) (fun c53 => ?_)
                  · replace hf := (if_pos c53).symm.trans hf
                    cases hf
                    cases (show (x29, G31) = (x32, G33) from hK3)
                    exact K3 H_39 lo_39 I_39 ls_40 (lv_sub hl_40 [0, 1, 2, 3, 4, 5] rfl)
                  · replace hf := (if_neg c53).symm.trans hf
                    refine lv_iload_n hx hb dX4_listTrials_32 rfl (lv_at hl_40 3 rfl) ?_
                    refine lv_aload_n hx hb dX4_listTrials_33 rfl (lv_at hl_40 0 rfl) ?_
                    refine pgtX4_13_0 F I_39 dX4_listTrials_34 ?_
                    refine pln1 F I_39 dX4_listTrials_37 ?_
                    refine lv_icmp_ge (tgt := 63) hx hb dX4_listTrials_38 (by decide) (fun c52 => ?_) (fun c52 => ?_)
                    · replace hf := (if_pos c52).symm.trans hf
                      cases hf
                      cases (show (x29, G31) = (x32, G33) from hK3)
                      exact K3 H_39 lo_39 I_39 ls_40 (lv_sub hl_40 [0, 1, 2, 3, 4, 5] rfl)
                    · replace hf := (if_neg c52).symm.trans hf
                      refine lv_aload_n hx hb dX4_listTrials_41 rfl (lv_at hl_40 0 rfl) ?_
                      refine pgtX4_13_0 F I_39 dX4_listTrials_42 ?_
                      refine lv_iload_n hx hb dX4_listTrials_45 rfl (lv_at hl_40 3 rfl) ?_
                      refine lv_iload hx hb dX4_listTrials_46 (lv_at hl_40 5 rfl) ?_
                      refine lv_iload hx hb dX4_listTrials_48 (lv_at hl_40 6 rfl) ?_
                      obtain ⟨r42, h43⟩ : ∃ z, z = P_cell tn x15 x30 := ⟨_, rfl⟩
                      replace hf := nm_some h43 hf
                      refine s_callSNi (As := [.int x15, .int x30]) (rest := [.int x29, .ref (ta)]) F I_39 (cP_cell G31 x15 x30 r42 h43) kX4_29 ⟨rfl, rfl⟩ ⟨Nat.le_trans (Nat.le_of_ble_eq_true rfl) hRf, Nat.le_trans (Nat.le_of_ble_eq_true rfl) hRl⟩ rfl rfl hl_40.1 (Nat.le_of_ble_eq_true rfl) ⟨Nat.zero_le _, Nat.zero_le _⟩ dX4_listTrials_50 ?_
                      intro H_44 lo_44 I_44
                      obtain ⟨g45, hf⟩ := ri_some hf
                      refine pas1 F I_44 g45 dX4_listTrials_53 ?_
                      intro H_47 lo_47 G46 eG46 I_47
                      replace hf := nm_some eG46 hf
                      obtain ⟨x48, ex48⟩ : ∃ y : Int32, y = x29 + (1 : Int32) := ⟨_, rfl⟩
                      replace hf := nm_some ex48 hf
                      refine lv_iinc (v := x48) (lv' := [(3, .int x48), (0, .ref (tq)), (1, .int a0), (2, .int a1), (4, .int x4), (5, .int x15), (6, .int x30)]) hx hb dX4_listTrials_54 hl_40 (k := 3) rfl (by rw [ex48]; rfl) (by decide) rfl (fun ls_49 hl_49 => ?_)
                      obtain ⟨x50, ex50⟩ : ∃ y : Int32, y = x30 + (1 : Int32) := ⟨_, rfl⟩
                      replace hf := nm_some ex50 hf
                      refine lv_iinc (v := x50) (lv' := [(6, .int x50), (3, .int x48), (0, .ref (tq)), (1, .int a0), (2, .int a1), (4, .int x4), (5, .int x15)]) hx hb dX4_listTrials_57 hl_49 (k := 6) rfl (by rw [ex50]; rfl) (by decide) rfl (fun ls_51 hl_51 => ?_)
                      refine lv_goto (tgt := 26) hx hb dX4_listTrials_60 (by decide) ?_
                      cases hf
                      exact ih3 _ _ _ hK3 H_47 lo_47 I_47 ls_51 (lv_sub hl_51 [2, 3, 4, 1, 5, 6, 0] rfl)
              exact L3 FU _ _ _ hq3 H_24 lo_24 I_24 ls_28 (lv_sub hl_28 [1, 2, 3, 4, 5, 6, 0] rfl)
        exact L2 FU _ _ _ hq2 H_10 lo_10 I_10 ls_13 (lv_sub hl_13 [1, 2, 3, 4, 5, 0] rfl)
  exact L1 FU _ _ _ hq1 H lo I ls_2 (lv_sub hl_2 [2, 3, 4, 1, 0] rfl)
def P_nextRandom (tn : Nat) (a0 : Int64) : Int64 :=
((((1103515245 : Int64) * a0) + (12345 : Int64)) &&& (2147483647 : Int64))
set_option maxRecDepth 100000 in
set_option maxHeartbeats 4000000 in
theorem cP_nextRandom (G : Nat → Nat → Int32) (a0 : Int64) (rv : Int64)  (hv : rv = P_nextRandom tn a0) : sMl D (pT cI) (pWd tq ta tn cI) l yX4_nextRandom (ws1 yX4_nextRandom cX4_nextRandom 2 (some .long)) ({ frames := 0, cells := 0, slots := 0, locals := 0 }) [.long a0] (G) (rv, (G)) := by
  have hf : (some ((((1103515245 : Int64) * a0) + (12345 : Int64)) &&& (2147483647 : Int64))) = some rv := by rw [hv]; rfl
  refine sMl_of (by decide) (Nat.le_of_ble_eq_true rfl) ?_
  intro p e R s m args below meth c A Q ls H lo F hRf hRl I hl ret
  obtain ⟨hx, hb, hml, hown, hG⟩ := id F
  replace hl : lv_has ls 2 [(0, .long a0)] := hl
  refine lv_ldc2 (v := (1103515245 : Int64)) hx hb hown (hG _ q909) dX4_nextRandom_0 ?_
  refine lv_lload_n hx hb dX4_nextRandom_3 rfl (lv_at hl 0 rfl) ?_
  refine lv_lmul hx hb dX4_nextRandom_4 ?_
  refine lv_ldc2 (v := (12345 : Int64)) hx hb hown (hG _ q910) dX4_nextRandom_5 ?_
  refine lv_ladd hx hb dX4_nextRandom_8 ?_
  refine lv_ldc2 (v := (2147483647 : Int64)) hx hb hown (hG _ q911) dX4_nextRandom_9 ?_
  refine lv_land hx hb dX4_nextRandom_12 ?_
  cases hf
  exact ret H lo _ ls I dX4_nextRandom_13
def P_drawn (tn : Nat) (a0 : Int64) (a1 : Int32) : Option (Int32) :=
if a1 ≤ 0 then
(some (0 : Int32))
else
(gd (¬ a1.toInt64 = 0) <|
some (((a0 / (65536 : Int64)) - (a0 / (65536 : Int64)) / a1.toInt64 * a1.toInt64).toInt32))
set_option maxRecDepth 100000 in
set_option maxHeartbeats 4000000 in
theorem cP_drawn (G : Nat → Nat → Int32) (a0 : Int64) (a1 : Int32) (rv : Int32)  (hf : P_drawn tn a0 a1 = some rv) : sMi D (pT cI) (pWd tq ta tn cI) l yX4_drawn (ws1 yX4_drawn cX4_drawn 3 (some .int)) ({ frames := 0, cells := 0, slots := 0, locals := 0 }) [.long a0, .int a1] (G) (rv, (G)) := by
  unfold P_drawn at hf
  refine sMi_of (by decide) (Nat.le_of_ble_eq_true rfl) ?_
  intro p e R s m args below meth c A Q ls H lo F hRf hRl I hl ret
  obtain ⟨hx, hb, hml, hown, hG⟩ := id F
  replace hl : lv_has ls 3 [(0, .long a0), (2, .int a1)] := hl
  refine lv_iload_n hx hb dX4_drawn_0 rfl (lv_at hl 1 rfl) ?_
  refine lv_if_le (tgt := 16) hx hb dX4_drawn_1 (by decide) (fun c2 => ?_) (fun c2 => ?_)
  · replace hf := (if_pos c2).symm.trans hf
    refine lv_iconst (v := (0 : Int32)) hx hb dX4_drawn_16 (by decide) ?_
    cases hf
    exact ret H lo _ ls I dX4_drawn_17
  · replace hf := (if_neg c2).symm.trans hf
    refine lv_lload_n hx hb dX4_drawn_4 rfl (lv_at hl 0 rfl) ?_
    refine lv_ldc2 (v := (65536 : Int64)) hx hb hown (hG _ q915) dX4_drawn_5 ?_
    refine lv_ldiv hx hb dX4_drawn_8 (by decide) ?_
    refine lv_iload_n hx hb dX4_drawn_9 rfl (lv_at hl 1 rfl) ?_
    refine lv_i2l hx hb dX4_drawn_10 rfl ?_
    obtain ⟨g1, hf⟩ := gd_some hf
    refine lv_lrem hx hb dX4_drawn_11 g1 ?_
    refine lv_l2i hx hb dX4_drawn_12 rfl ?_
    refine lv_goto (tgt := 17) hx hb dX4_drawn_13 (by decide) ?_
    cases hf
    exact ret H lo _ ls I dX4_drawn_17
def P_exchangeSamples_s1 (tn : Nat) (x4 : Int64) (x5 : Int32) (G6 : Nat → Nat → Int32) : Option ((Int64 × Int32 × (Nat → Nat → Int32)) ⊕ (Int64 × (Nat → Nat → Int32))) :=
if (nI tn) ≤ x5 then
(some (.inr (x4, G6)))
else
(nm (P_nextRandom tn x4) fun r15 =>
bd (P_drawn tn r15 (2 : Int32)) fun r19 =>
bd (if r19 = (1 : Int32) then
(bd (P_secondAt tn G6 x5) fun r30 =>
bd (P_firstAt tn G6 x5) fun r33 =>
nm (P_cell tn r30 r33) fun r36 =>
ri tn x5 <|
nm (wr G6 1 x5 r36) fun G40 =>
some G40)
else
(some G6)) fun G23 =>
nm (x5 + (1 : Int32) : Int32) fun x27 =>
some (.inl (r15, x27, G23)))
def P_exchangeSamples (tn : Nat) (G : Nat → Nat → Int32) (a0 : Int32) : Option (Int64 × (Nat → Nat → Int32)) :=
nm (a0.toInt64 : Int64) fun x1 =>
bd2 (lp (fun q => P_exchangeSamples_s1 tn q.1 q.2.1 q.2.2) FU (x1, (0 : Int32), G)) fun x7 G8 =>
some (x7, G8)
set_option maxRecDepth 100000 in
set_option maxHeartbeats 4000000 in
theorem cP_exchangeSamples (G : Nat → Nat → Int32) (a0 : Int32) (rv : Int64) (newG : Nat → Nat → Int32) (hf : P_exchangeSamples tn G a0 = some (rv, newG)) : sMl D (pT cI) (pWd tq ta tn cI) l yX4_exchangeSamples (ws1 yX4_exchangeSamples cX4_exchangeSamples 5 (some .long)) ({ frames := 1, cells := 0, slots := 0, locals := 22 }) [.ref (tq), .int a0] (G) (rv, (newG)) := by
  unfold P_exchangeSamples at hf
  refine sMl_of (by decide) (Nat.le_of_ble_eq_true rfl) ?_
  intro p e R s m args below meth c A Q ls H lo F hRf hRl I hl ret
  obtain ⟨hx, hb, hml, hown, hG⟩ := id F
  replace hl : lv_has ls 5 [(0, .ref (tq)), (1, .int a0)] := hl
  refine lv_iload_n hx hb dX4_exchangeSamples_0 rfl (lv_at hl 1 rfl) ?_
  refine lv_i2l hx hb dX4_exchangeSamples_1 rfl ?_
  refine lv_topl (fun x1 ex1 => ?_)
  replace hf := nm_some ex1 hf
  refine lv_lstore_n (lv' := [(2, .long x1), (0, .ref (tq)), (1, .int a0)]) hx hb dX4_exchangeSamples_2 rfl hl (by decide) rfl (fun ls_2 hl_2 => ?_)
  refine lv_iconst (v := (0 : Int32)) hx hb dX4_exchangeSamples_3 (by decide) ?_
  refine lv_istore (lv' := [(4, .int (0 : Int32)), (2, .long x1), (0, .ref (tq)), (1, .int a0)]) hx hb dX4_exchangeSamples_4 hl_2 (by decide) rfl (fun ls_3 hl_3 => ?_)
  obtain ⟨x7, G8, hq1, hf⟩ := bd2_some hf
  have K1 : ∀ (H : Heap) (locs : List Loc), sInv D (pT cI) (pWd tq ta tn cI) A s H locs (G8) → ∀ (ls : Array Slot), lv_has ls 5 [(2, .long x7)] → W p l e R s m args below meth c H locs 0 0 Q (F0 m 58 ls []) := by
    intro H_9 lo_9 I_9 ls_10 hl_10
    refine lv_lload_n hx hb dX4_exchangeSamples_58 rfl (lv_at hl_10 0 rfl) ?_
    cases hf
    exact ret H_9 lo_9 _ ls_10 I_9 dX4_exchangeSamples_59
  have L1 : ∀ (n : Nat) (x4 : Int64) (x5 : Int32) (G6 : Nat → Nat → Int32), lp (fun q => P_exchangeSamples_s1 tn q.1 q.2.1 q.2.2) n (x4, x5, G6) = some (x7, G8) → ∀ (H : Heap) (locs : List Loc), sInv D (pT cI) (pWd tq ta tn cI) A s H locs (G6) → ∀ (ls : Array Slot), lv_has ls 5 [(0, .ref (tq)), (2, .long x4), (4, .int x5)] → W p l e R s m args below meth c H locs 0 0 Q (F0 m 6 ls []) := by
    intro n
    induction n with
    | zero => intro x4 x5 G6 hq; exact (lp_0 hq).elim
    | succ n ih1 =>
      intro x4 x5 G6 hq H_12 lo_12 I_12 ls_13 hl_13
      obtain ⟨y1, hf, hK1⟩ := lp_go hq
      replace hf : P_exchangeSamples_s1 tn x4 x5 G6 = some y1 := hf
      unfold P_exchangeSamples_s1 at hf
      refine lv_iload hx hb dX4_exchangeSamples_6 (lv_at hl_13 2 rfl) ?_
      refine lv_aload_n hx hb dX4_exchangeSamples_8 rfl (lv_at hl_13 0 rfl) ?_
      refine pgtX4_13_0 F I_12 dX4_exchangeSamples_9 ?_
      refine pln1 F I_12 dX4_exchangeSamples_12 ?_
      refine lv_icmp_ge (tgt := 58) hx hb dX4_exchangeSamples_13 (by decide) (fun c43 => ?_) (fun c43 => ?_)
      · replace hf := (if_pos c43).symm.trans hf
        cases hf
        cases (show (x4, G6) = (x7, G8) from hK1)
        exact K1 H_12 lo_12 I_12 ls_13 (lv_sub hl_13 [1] rfl)
      · replace hf := (if_neg c43).symm.trans hf
        refine lv_lload_n hx hb dX4_exchangeSamples_16 rfl (lv_at hl_13 1 rfl) ?_
        obtain ⟨r15, h16⟩ : ∃ z, z = P_nextRandom tn x4 := ⟨_, rfl⟩
        replace hf := nm_some h16 hf
        refine s_callSl (As := [.long x4]) (rest := []) F I_12 (cP_nextRandom G6 x4 r15 h16) kX4_35 ⟨rfl, rfl⟩ ⟨Nat.le_trans (Nat.le_of_ble_eq_true rfl) hRf, Nat.le_trans (Nat.le_of_ble_eq_true rfl) hRl⟩ rfl rfl hl_13.1 (Nat.le_of_ble_eq_true rfl) ⟨Nat.zero_le _, Nat.zero_le _⟩ dX4_exchangeSamples_17 ?_
        intro H_17 lo_17 I_17
        refine lv_lstore_n (lv' := [(2, .long r15), (0, .ref (tq)), (4, .int x5)]) hx hb dX4_exchangeSamples_20 rfl hl_13 (by decide) rfl (fun ls_18 hl_18 => ?_)
        refine lv_lload_n hx hb dX4_exchangeSamples_21 rfl (lv_at hl_18 0 rfl) ?_
        refine lv_iconst (v := (2 : Int32)) hx hb dX4_exchangeSamples_22 (by decide) ?_
        obtain ⟨r19, h20, hf⟩ := bd_some hf
        refine s_callSi (As := [.long r15, .int (2 : Int32)]) (rest := []) F I_17 (cP_drawn G6 r15 (2 : Int32) r19 h20) kX4_39 ⟨rfl, rfl⟩ ⟨Nat.le_trans (Nat.le_of_ble_eq_true rfl) hRf, Nat.le_trans (Nat.le_of_ble_eq_true rfl) hRl⟩ rfl rfl hl_18.1 (Nat.le_of_ble_eq_true rfl) ⟨Nat.zero_le _, Nat.zero_le _⟩ dX4_exchangeSamples_23 ?_
        intro H_21 lo_21 I_21
        refine lv_iconst (v := (1 : Int32)) hx hb dX4_exchangeSamples_26 (by decide) ?_
        obtain ⟨G23, hv29, hf⟩ := bd_some hf
        have J22 : ∀ (H : Heap) (locs : List Loc), sInv D (pT cI) (pWd tq ta tn cI) A s H locs (G23) → ∀ (ls : Array Slot), lv_has ls 5 [(0, .ref (tq)), (2, .long r15), (4, .int x5)] → W p l e R s m args below meth c H locs 0 0 Q (F0 m 52 ls []) := by
          intro H_24 lo_24 I_24 ls_25 hl_25
          obtain ⟨x27, ex27⟩ : ∃ y : Int32, y = x5 + (1 : Int32) := ⟨_, rfl⟩
          replace hf := nm_some ex27 hf
          refine lv_iinc (v := x27) (lv' := [(4, .int x27), (0, .ref (tq)), (2, .long r15)]) hx hb dX4_exchangeSamples_52 hl_25 (k := 2) rfl (by rw [ex27]; rfl) (by decide) rfl (fun ls_28 hl_28 => ?_)
          refine lv_goto (tgt := 6) hx hb dX4_exchangeSamples_55 (by decide) ?_
          cases hf
          exact ih1 _ _ _ hK1 H_24 lo_24 I_24 ls_28 (lv_sub hl_28 [1, 2, 0] rfl)
        replace hf := hv29
        refine lv_icmp_ne (tgt := 52) hx hb dX4_exchangeSamples_27 (by decide) (fun c42 => ?_) (fun c42 => ?_)
        · replace hf := (if_neg c42).symm.trans hf
          cases hf
          exact J22 H_21 lo_21 I_21 ls_18 (lv_sub hl_18 [1, 0, 2] rfl)
        · replace hf := (if_pos c42).symm.trans hf
          refine lv_aload_n hx hb dX4_exchangeSamples_30 rfl (lv_at hl_18 1 rfl) ?_
          refine pgtX4_13_0 F I_21 dX4_exchangeSamples_31 ?_
          refine lv_iload hx hb dX4_exchangeSamples_34 (lv_at hl_18 2 rfl) ?_
          refine lv_aload_n hx hb dX4_exchangeSamples_36 rfl (lv_at hl_18 1 rfl) ?_
          refine lv_iload hx hb dX4_exchangeSamples_37 (lv_at hl_18 2 rfl) ?_
          obtain ⟨r30, h31, hf⟩ := bd_some hf
          refine s_callVi (As := [.int x5]) (rest := [.int x5, .ref (ta)]) F I_21 (cP_secondAt G6 x5 r30 h31) kX4_43 ⟨rfl, rfl⟩ ⟨Nat.le_trans (Nat.le_of_ble_eq_true rfl) hRf, Nat.le_trans (Nat.le_of_ble_eq_true rfl) hRl⟩ (0) 4 rfl rfl rfl rfl rfl hl_18.1 (Nat.le_of_ble_eq_true rfl) ⟨Nat.zero_le _, Nat.zero_le _⟩ dX4_exchangeSamples_39 ?_
          intro H_32 lo_32 I_32
          refine lv_aload_n hx hb dX4_exchangeSamples_42 rfl (lv_at hl_18 1 rfl) ?_
          refine lv_iload hx hb dX4_exchangeSamples_43 (lv_at hl_18 2 rfl) ?_
          obtain ⟨r33, h34, hf⟩ := bd_some hf
          refine s_callVi (As := [.int x5]) (rest := [.int r30, .int x5, .ref (ta)]) F I_32 (cP_firstAt G6 x5 r33 h34) kX4_47 ⟨rfl, rfl⟩ ⟨Nat.le_trans (Nat.le_of_ble_eq_true rfl) hRf, Nat.le_trans (Nat.le_of_ble_eq_true rfl) hRl⟩ (0) 4 rfl rfl rfl rfl rfl hl_18.1 (Nat.le_of_ble_eq_true rfl) ⟨Nat.zero_le _, Nat.zero_le _⟩ dX4_exchangeSamples_45 ?_
          intro H_35 lo_35 I_35
          obtain ⟨r36, h37⟩ : ∃ z, z = P_cell tn r30 r33 := ⟨_, rfl⟩
          replace hf := nm_some h37 hf
          refine s_callSNi (As := [.int r30, .int r33]) (rest := [.int x5, .ref (ta)]) F I_35 (cP_cell G6 r30 r33 r36 h37) kX4_29 ⟨rfl, rfl⟩ ⟨Nat.le_trans (Nat.le_of_ble_eq_true rfl) hRf, Nat.le_trans (Nat.le_of_ble_eq_true rfl) hRl⟩ rfl rfl hl_18.1 (Nat.le_of_ble_eq_true rfl) ⟨Nat.zero_le _, Nat.zero_le _⟩ dX4_exchangeSamples_48 ?_
          intro H_38 lo_38 I_38
          obtain ⟨g39, hf⟩ := ri_some hf
          refine pas1 F I_38 g39 dX4_exchangeSamples_51 ?_
          intro H_41 lo_41 G40 eG40 I_41
          replace hf := nm_some eG40 hf
          cases hf
          exact J22 H_41 lo_41 I_41 ls_18 (lv_sub hl_18 [1, 0, 2] rfl)
  exact L1 FU _ _ _ hq1 H lo I ls_3 (lv_sub hl_3 [2, 1, 0] rfl)
def P_shuffle_s1 (tn : Nat) (x4 : Int64) (x5 : Int32) (G6 : Nat → Nat → Int32) : Option ((Int64 × Int32 × (Nat → Nat → Int32)) ⊕ ((Nat → Nat → Int32))) :=
if x5 < (1 : Int32) then
(some (.inr G6))
else
(nm (P_nextRandom tn x4) fun r14 =>
bd (P_drawn tn r14 (x5 + (1 : Int32))) fun r18 =>
ri tn x5 <|
nm (G6 1 x5.toNatClampNeg : Int32) fun x23 =>
ri tn r18 <|
ri tn x5 <|
nm (wr G6 1 x5 (G6 1 r18.toNatClampNeg)) fun G27 =>
ri tn r18 <|
nm (wr G27 1 r18 x23) fun G30 =>
nm (x5 + (-1 : Int32) : Int32) fun x32 =>
some (.inl (r14, x32, G30)))
def P_shuffle (tn : Nat) (G : Nat → Nat → Int32) (a0 : Int64) : Option ((Nat → Nat → Int32)) :=
nm ((nI tn) - (1 : Int32) : Int32) fun x2 =>
bd (lp (fun q => P_shuffle_s1 tn q.1 q.2.1 q.2.2) FU (a0, x2, G)) fun G7 =>
some G7
set_option maxRecDepth 100000 in
set_option maxHeartbeats 4000000 in
theorem cP_shuffle (G : Nat → Nat → Int32) (a0 : Int64)  (newG : Nat → Nat → Int32) (hf : P_shuffle tn G a0 = some newG) : sMv D (pT cI) (pWd tq ta tn cI) l yX4_shuffle (ws1 yX4_shuffle cX4_shuffle 8 none) ({ frames := 1, cells := 0, slots := 0, locals := 22 }) [.ref (tq), .long a0] (G) (newG) := by
  unfold P_shuffle at hf
  refine sMv_of (by decide) (Nat.le_of_ble_eq_true rfl) ?_
  intro p e R s m args below meth c A Q ls H lo F hRf hRl I hl ret
  obtain ⟨hx, hb, hml, hown, hG⟩ := id F
  replace hl : lv_has ls 8 [(0, .ref (tq)), (1, .long a0)] := hl
  refine lv_lload_n hx hb dX4_shuffle_0 rfl (lv_at hl 1 rfl) ?_
  refine lv_lstore_n (lv' := [(3, .long a0), (0, .ref (tq)), (1, .long a0)]) hx hb dX4_shuffle_1 rfl hl (by decide) rfl (fun ls_1 hl_1 => ?_)
  refine lv_aload_n hx hb dX4_shuffle_2 rfl (lv_at hl_1 1 rfl) ?_
  refine pgtX4_13_0 F I dX4_shuffle_3 ?_
  refine pln1 F I dX4_shuffle_6 ?_
  refine lv_iconst (v := (1 : Int32)) hx hb dX4_shuffle_7 (by decide) ?_
  refine lv_isub hx hb dX4_shuffle_8 ?_
  refine lv_topi (fun x2 ex2 => ?_)
  replace hf := nm_some ex2 hf
  refine lv_istore (lv' := [(5, .int x2), (3, .long a0), (0, .ref (tq)), (1, .long a0)]) hx hb dX4_shuffle_9 hl_1 (by decide) rfl (fun ls_3 hl_3 => ?_)
  obtain ⟨G7, hq1, hf⟩ := bd_some hf
  have K1 : ∀ (H : Heap) (locs : List Loc), sInv D (pT cI) (pWd tq ta tn cI) A s H locs (G7) → ∀ (ls : Array Slot), lv_has ls 8 [] → W p l e R s m args below meth c H locs 0 0 Q (F0 m 70 ls []) := by
    intro H_8 lo_8 I_8 ls_9 hl_9
    cases hf
    exact ret H_8 lo_8 _ ls_9 I_8 dX4_shuffle_70
  have L1 : ∀ (n : Nat) (x4 : Int64) (x5 : Int32) (G6 : Nat → Nat → Int32), lp (fun q => P_shuffle_s1 tn q.1 q.2.1 q.2.2) n (x4, x5, G6) = some G7 → ∀ (H : Heap) (locs : List Loc), sInv D (pT cI) (pWd tq ta tn cI) A s H locs (G6) → ∀ (ls : Array Slot), lv_has ls 8 [(0, .ref (tq)), (3, .long x4), (5, .int x5)] → W p l e R s m args below meth c H locs 0 0 Q (F0 m 11 ls []) := by
    intro n
    induction n with
    | zero => intro x4 x5 G6 hq; exact (lp_0 hq).elim
    | succ n ih1 =>
      intro x4 x5 G6 hq H_11 lo_11 I_11 ls_12 hl_12
      obtain ⟨y1, hf, hK1⟩ := lp_go hq
      replace hf : P_shuffle_s1 tn x4 x5 G6 = some y1 := hf
      unfold P_shuffle_s1 at hf
      refine lv_iload hx hb dX4_shuffle_11 (lv_at hl_12 2 rfl) ?_
      refine lv_iconst (v := (1 : Int32)) hx hb dX4_shuffle_13 (by decide) ?_
      refine lv_icmp_lt (tgt := 70) hx hb dX4_shuffle_14 (by decide) (fun c34 => ?_) (fun c34 => ?_)
      · replace hf := (if_pos c34).symm.trans hf
        cases hf
        cases (show G6 = G7 from hK1)
        exact K1 H_11 lo_11 I_11 ls_12 (lv_sub hl_12 [] rfl)
      · replace hf := (if_neg c34).symm.trans hf
        refine lv_lload_n hx hb dX4_shuffle_17 rfl (lv_at hl_12 1 rfl) ?_
        obtain ⟨r14, h15⟩ : ∃ z, z = P_nextRandom tn x4 := ⟨_, rfl⟩
        replace hf := nm_some h15 hf
        refine s_callSl (As := [.long x4]) (rest := []) F I_11 (cP_nextRandom G6 x4 r14 h15) kX4_35 ⟨rfl, rfl⟩ ⟨Nat.le_trans (Nat.le_of_ble_eq_true rfl) hRf, Nat.le_trans (Nat.le_of_ble_eq_true rfl) hRl⟩ rfl rfl hl_12.1 (Nat.le_of_ble_eq_true rfl) ⟨Nat.zero_le _, Nat.zero_le _⟩ dX4_shuffle_18 ?_
        intro H_16 lo_16 I_16
        refine lv_lstore_n (lv' := [(3, .long r14), (0, .ref (tq)), (5, .int x5)]) hx hb dX4_shuffle_21 rfl hl_12 (by decide) rfl (fun ls_17 hl_17 => ?_)
        refine lv_lload_n hx hb dX4_shuffle_22 rfl (lv_at hl_17 0 rfl) ?_
        refine lv_iload hx hb dX4_shuffle_23 (lv_at hl_17 2 rfl) ?_
        refine lv_iconst (v := (1 : Int32)) hx hb dX4_shuffle_25 (by decide) ?_
        refine lv_iadd hx hb dX4_shuffle_26 ?_
        obtain ⟨r18, h19, hf⟩ := bd_some hf
        refine s_callSi (As := [.long r14, .int (x5 + (1 : Int32))]) (rest := []) F I_16 (cP_drawn G6 r14 (x5 + (1 : Int32)) r18 h19) kX4_39 ⟨rfl, rfl⟩ ⟨Nat.le_trans (Nat.le_of_ble_eq_true rfl) hRf, Nat.le_trans (Nat.le_of_ble_eq_true rfl) hRl⟩ rfl rfl hl_17.1 (Nat.le_of_ble_eq_true rfl) ⟨Nat.zero_le _, Nat.zero_le _⟩ dX4_shuffle_27 ?_
        intro H_20 lo_20 I_20
        refine lv_istore (lv' := [(6, .int r18), (3, .long r14), (0, .ref (tq)), (5, .int x5)]) hx hb dX4_shuffle_30 hl_17 (by decide) rfl (fun ls_21 hl_21 => ?_)
        refine lv_aload_n hx hb dX4_shuffle_32 rfl (lv_at hl_21 2 rfl) ?_
        refine pgtX4_13_0 F I_20 dX4_shuffle_33 ?_
        refine lv_iload hx hb dX4_shuffle_36 (lv_at hl_21 3 rfl) ?_
        obtain ⟨g22, hf⟩ := ri_some hf
        refine pal1 F I_20 g22 dX4_shuffle_38 ?_
        refine lv_topi (fun x23 ex23 => ?_)
        replace hf := nm_some ex23 hf
        refine lv_istore (lv' := [(7, .int x23), (6, .int r18), (3, .long r14), (0, .ref (tq)), (5, .int x5)]) hx hb dX4_shuffle_39 hl_21 (by decide) rfl (fun ls_24 hl_24 => ?_)
        refine lv_aload_n hx hb dX4_shuffle_41 rfl (lv_at hl_24 3 rfl) ?_
        refine pgtX4_13_0 F I_20 dX4_shuffle_42 ?_
        refine lv_iload hx hb dX4_shuffle_45 (lv_at hl_24 4 rfl) ?_
        refine lv_aload_n hx hb dX4_shuffle_47 rfl (lv_at hl_24 3 rfl) ?_
        refine pgtX4_13_0 F I_20 dX4_shuffle_48 ?_
        refine lv_iload hx hb dX4_shuffle_51 (lv_at hl_24 1 rfl) ?_
        obtain ⟨g25, hf⟩ := ri_some hf
        refine pal1 F I_20 g25 dX4_shuffle_53 ?_
        obtain ⟨g26, hf⟩ := ri_some hf
        refine pas1 F I_20 g26 dX4_shuffle_54 ?_
        intro H_28 lo_28 G27 eG27 I_28
        replace hf := nm_some eG27 hf
        refine lv_aload_n hx hb dX4_shuffle_55 rfl (lv_at hl_24 3 rfl) ?_
        refine pgtX4_13_0 F I_28 dX4_shuffle_56 ?_
        refine lv_iload hx hb dX4_shuffle_59 (lv_at hl_24 1 rfl) ?_
        refine lv_iload hx hb dX4_shuffle_61 (lv_at hl_24 0 rfl) ?_
        obtain ⟨g29, hf⟩ := ri_some hf
        refine pas1 F I_28 g29 dX4_shuffle_63 ?_
        intro H_31 lo_31 G30 eG30 I_31
        replace hf := nm_some eG30 hf
        obtain ⟨x32, ex32⟩ : ∃ y : Int32, y = x5 + (-1 : Int32) := ⟨_, rfl⟩
        replace hf := nm_some ex32 hf
        refine lv_iinc (v := x32) (lv' := [(5, .int x32), (7, .int x23), (6, .int r18), (3, .long r14), (0, .ref (tq))]) hx hb dX4_shuffle_64 hl_24 (k := 4) rfl (by rw [ex32]; rfl) (by decide) rfl (fun ls_33 hl_33 => ?_)
        refine lv_goto (tgt := 11) hx hb dX4_shuffle_67 (by decide) ?_
        cases hf
        exact ih1 _ _ _ hK1 H_31 lo_31 I_31 ls_33 (lv_sub hl_33 [4, 3, 0] rfl)
  exact L1 FU _ _ _ hq1 H lo I ls_3 (lv_sub hl_3 [2, 1, 0] rfl)
end Meth
