section Meth
variable {D : va_G} {l : Launch} {ad : Nat → Nat} {cI cJ cD : ClassId}
def M_thrown (G : Nat → Nat → Int32) : Int32 :=
(G 0 0)
set_option maxRecDepth 100000 in
set_option maxHeartbeats 4000000 in
theorem cM_thrown (G : Nat → Nat → Int32) (E : Nat → Nat → Int64) (Dd : Nat → Nat → UInt64)  (rv : Int32)  (hv : rv = M_thrown G) : sMi D (mT cI cJ cD) (mW ad cI cJ cD) l yX12_thrown (ws1 yX12_thrown cX12_thrown 1 (some .int)) ({ frames := 0, cells := 0, slots := 0, locals := 0 }) [.ref (ad 0)] (G, E, Dd) (rv, (G, E, Dd)) := by
  have hf : (some (G 0 0)) = some rv := by rw [hv]; rfl
  refine sMi_of (by decide) (Nat.le_of_ble_eq_true rfl) ?_
  intro p e R s m args below meth c A Q ls H lo F hRf hRl I hl ret
  obtain ⟨hx, hb, hml, hown, hG⟩ := id F
  replace hl : lv_has ls 1 [(0, .ref (ad 0))] := hl
  refine lv_aload_n hx hb dX12_thrown_0 rfl (lv_at hl 0 rfl) ?_
  refine mgtX12_89_0 F I dX12_thrown_1 ?_
  cases hf
  exact ret H lo _ ls I dX12_thrown_4
def M_within (a0 : Int32) (a1 : Int32) (a2 : Int32) : Option (Int32) :=
if a0 < a1 then
(some (0 : Int32))
else
(if a2 < a0 then
(some (0 : Int32))
else
(some (1 : Int32)))
set_option maxRecDepth 100000 in
set_option maxHeartbeats 4000000 in
theorem cM_within (G : Nat → Nat → Int32) (E : Nat → Nat → Int64) (Dd : Nat → Nat → UInt64) (a0 : Int32) (a1 : Int32) (a2 : Int32) (rv : Int32)  (hf : M_within a0 a1 a2 = some rv) : sMi D (mT cI cJ cD) (mW ad cI cJ cD) l yX12_within (ws1 yX12_within cX12_within 3 (some .boolean)) ({ frames := 0, cells := 0, slots := 0, locals := 0 }) [.int a0, .int a1, .int a2] (G, E, Dd) (rv, (G, E, Dd)) := by
  unfold M_within at hf
  refine sMz_of (by decide) (Nat.le_of_ble_eq_true rfl) ?_
  intro p e R s m args below meth c A Q ls H lo F hRf hRl I hl ret
  obtain ⟨hx, hb, hml, hown, hG⟩ := id F
  replace hl : lv_has ls 3 [(0, .int a0), (1, .int a1), (2, .int a2)] := hl
  refine lv_iload_n hx hb dX12_within_0 rfl (lv_at hl 0 rfl) ?_
  refine lv_iload_n hx hb dX12_within_1 rfl (lv_at hl 1 rfl) ?_
  refine lv_icmp_lt (tgt := 14) hx hb dX12_within_2 (by decide) (fun c2 => ?_) (fun c2 => ?_)
  · replace hf := (if_pos c2).symm.trans hf
    refine lv_iconst (v := (0 : Int32)) hx hb dX12_within_14 (by decide) ?_
    cases hf
    exact ret H lo _ ls I (Or.inl rfl) dX12_within_15
  · replace hf := (if_neg c2).symm.trans hf
    refine lv_iload_n hx hb dX12_within_5 rfl (lv_at hl 0 rfl) ?_
    refine lv_iload_n hx hb dX12_within_6 rfl (lv_at hl 2 rfl) ?_
    refine lv_icmp_gt (tgt := 14) hx hb dX12_within_7 (by decide) (fun c1 => ?_) (fun c1 => ?_)
    · replace hf := (if_pos c1).symm.trans hf
      refine lv_iconst (v := (0 : Int32)) hx hb dX12_within_14 (by decide) ?_
      cases hf
      exact ret H lo _ ls I (Or.inl rfl) dX12_within_15
    · replace hf := (if_neg c1).symm.trans hf
      refine lv_iconst (v := (1 : Int32)) hx hb dX12_within_10 (by decide) ?_
      refine lv_goto (tgt := 15) hx hb dX12_within_11 (by decide) ?_
      cases hf
      exact ret H lo _ ls I (Or.inr rfl) dX12_within_15
def M_isSample (G : Nat → Nat → Int32) (a0 : Int32) : Option (Int32) :=
bd (M_within a0 (0 : Int32) ((G 1 0) - (1 : Int32))) fun r1 =>
gd (r1 = 0 ∨ r1 = 1) <|
some r1
set_option maxRecDepth 100000 in
set_option maxHeartbeats 4000000 in
theorem cM_isSample (G : Nat → Nat → Int32) (E : Nat → Nat → Int64) (Dd : Nat → Nat → UInt64) (a0 : Int32) (rv : Int32)  (hf : M_isSample G a0 = some rv) : sMi D (mT cI cJ cD) (mW ad cI cJ cD) l yX12_isSample (ws1 yX12_isSample cX12_isSample 2 (some .boolean)) ({ frames := 1, cells := 0, slots := 0, locals := 22 }) [.ref (ad 0), .int a0] (G, E, Dd) (rv, (G, E, Dd)) := by
  unfold M_isSample at hf
  refine sMz_of (by decide) (Nat.le_of_ble_eq_true rfl) ?_
  intro p e R s m args below meth c A Q ls H lo F hRf hRl I hl ret
  obtain ⟨hx, hb, hml, hown, hG⟩ := id F
  replace hl : lv_has ls 2 [(0, .ref (ad 0)), (1, .int a0)] := hl
  refine lv_iload_n hx hb dX12_isSample_0 rfl (lv_at hl 1 rfl) ?_
  refine lv_iconst (v := (0 : Int32)) hx hb dX12_isSample_1 (by decide) ?_
  refine lv_aload_n hx hb dX12_isSample_2 rfl (lv_at hl 0 rfl) ?_
  refine mgtX12_92_0 F I dX12_isSample_3 ?_
  refine lv_iconst (v := (1 : Int32)) hx hb dX12_isSample_6 (by decide) ?_
  refine lv_isub hx hb dX12_isSample_7 ?_
  obtain ⟨r1, h2, hf⟩ := bd_some hf
  refine s_callSi (As := [.int a0, .int (0 : Int32), .int ((G 1 0) - (1 : Int32))]) (rest := []) F I (cM_within G E Dd a0 (0 : Int32) ((G 1 0) - (1 : Int32)) r1 h2) kX12_95 ⟨rfl, rfl⟩ ⟨Nat.le_trans (Nat.le_of_ble_eq_true rfl) hRf, Nat.le_trans (Nat.le_of_ble_eq_true rfl) hRl⟩ rfl rfl hl.1 (Nat.le_of_ble_eq_true rfl) ⟨Nat.zero_le _, Nat.zero_le _⟩ dX12_isSample_8 ?_
  intro H_3 lo_3 I_3
  obtain ⟨g4, hf⟩ := gd_some hf
  cases hf
  exact ret H_3 lo_3 _ ls I_3 g4 dX12_isSample_11
def M_isListener (G : Nat → Nat → Int32) (a0 : Int32) : Option (Int32) :=
bd (M_within a0 (0 : Int32) ((G 2 0) - (1 : Int32))) fun r1 =>
gd (r1 = 0 ∨ r1 = 1) <|
some r1
set_option maxRecDepth 100000 in
set_option maxHeartbeats 4000000 in
theorem cM_isListener (G : Nat → Nat → Int32) (E : Nat → Nat → Int64) (Dd : Nat → Nat → UInt64) (a0 : Int32) (rv : Int32)  (hf : M_isListener G a0 = some rv) : sMi D (mT cI cJ cD) (mW ad cI cJ cD) l yX12_isListener (ws1 yX12_isListener cX12_isListener 2 (some .boolean)) ({ frames := 1, cells := 0, slots := 0, locals := 22 }) [.ref (ad 0), .int a0] (G, E, Dd) (rv, (G, E, Dd)) := by
  unfold M_isListener at hf
  refine sMz_of (by decide) (Nat.le_of_ble_eq_true rfl) ?_
  intro p e R s m args below meth c A Q ls H lo F hRf hRl I hl ret
  obtain ⟨hx, hb, hml, hown, hG⟩ := id F
  replace hl : lv_has ls 2 [(0, .ref (ad 0)), (1, .int a0)] := hl
  refine lv_iload_n hx hb dX12_isListener_0 rfl (lv_at hl 1 rfl) ?_
  refine lv_iconst (v := (0 : Int32)) hx hb dX12_isListener_1 (by decide) ?_
  refine lv_aload_n hx hb dX12_isListener_2 rfl (lv_at hl 0 rfl) ?_
  refine mgtX12_99_0 F I dX12_isListener_3 ?_
  refine lv_iconst (v := (1 : Int32)) hx hb dX12_isListener_6 (by decide) ?_
  refine lv_isub hx hb dX12_isListener_7 ?_
  obtain ⟨r1, h2, hf⟩ := bd_some hf
  refine s_callSi (As := [.int a0, .int (0 : Int32), .int ((G 2 0) - (1 : Int32))]) (rest := []) F I (cM_within G E Dd a0 (0 : Int32) ((G 2 0) - (1 : Int32)) r1 h2) kX12_95 ⟨rfl, rfl⟩ ⟨Nat.le_trans (Nat.le_of_ble_eq_true rfl) hRf, Nat.le_trans (Nat.le_of_ble_eq_true rfl) hRl⟩ rfl rfl hl.1 (Nat.le_of_ble_eq_true rfl) ⟨Nat.zero_le _, Nat.zero_le _⟩ dX12_isListener_8 ?_
  intro H_3 lo_3 I_3
  obtain ⟨g4, hf⟩ := gd_some hf
  cases hf
  exact ret H_3 lo_3 _ ls I_3 g4 dX12_isListener_11
def M_start_s1  (x16 : Int32) (G17 : Nat → Nat → Int32) : Option ((Int32 × (Nat → Nat → Int32)) ⊕ ((Nat → Nat → Int32))) :=
if (8 : Int32) ≤ x16 then
(some (.inr G17))
else
(ri 8 x16 <|
nm (wr G17 3 x16 (1 : Int32)) fun G26 =>
nm (x16 + (1 : Int32) : Int32) fun x28 =>
some (.inl (x28, G26)))
def M_start (G : Nat → Nat → Int32) (a0 : Int32) (a1 : Int32) : Option ((Nat → Nat → Int32)) :=
nm (wf G 1 a0) fun G1 =>
nm (wf G1 2 a1) fun G3 =>
nm (wf G3 4 (0 : Int32)) fun G5 =>
nm (wf G5 9 (-1 : Int32)) fun G7 =>
nm (wf G7 10 (0 : Int32)) fun G9 =>
nm (wf G9 11 (0 : Int32)) fun G11 =>
nm (wf G11 13 (0 : Int32)) fun G13 =>
bd (lp (fun q => M_start_s1 q.1 q.2) FU ((0 : Int32), G13)) fun G18 =>
some G18
set_option maxRecDepth 100000 in
set_option maxHeartbeats 4000000 in
theorem cM_start (G : Nat → Nat → Int32) (E : Nat → Nat → Int64) (Dd : Nat → Nat → UInt64) (a0 : Int32) (a1 : Int32)  (newG : Nat → Nat → Int32) (hf : M_start G a0 a1 = some newG) : sMv D (mT cI cJ cD) (mW ad cI cJ cD) l yX12_start (ws1 yX12_start cX12_start 4 none) ({ frames := 0, cells := 0, slots := 0, locals := 0 }) [.ref (ad 0), .int a0, .int a1] (G, E, Dd) (newG, E, Dd) := by
  unfold M_start at hf
  refine sMv_of (by decide) (Nat.le_of_ble_eq_true rfl) ?_
  intro p e R s m args below meth c A Q ls H lo F hRf hRl I hl ret
  obtain ⟨hx, hb, hml, hown, hG⟩ := id F
  replace hl : lv_has ls 4 [(0, .ref (ad 0)), (1, .int a0), (2, .int a1)] := hl
  refine lv_aload_n hx hb dX12_start_0 rfl (lv_at hl 0 rfl) ?_
  refine lv_iload_n hx hb dX12_start_1 rfl (lv_at hl 1 rfl) ?_
  refine mptX12_92_0 F I dX12_start_2 ?_
  intro H_2 lo_2 G1 eG1 I_2
  replace hf := nm_some eG1 hf
  refine lv_aload_n hx hb dX12_start_5 rfl (lv_at hl 0 rfl) ?_
  refine lv_iload_n hx hb dX12_start_6 rfl (lv_at hl 2 rfl) ?_
  refine mptX12_99_0 F I_2 dX12_start_7 ?_
  intro H_4 lo_4 G3 eG3 I_4
  replace hf := nm_some eG3 hf
  refine lv_aload_n hx hb dX12_start_10 rfl (lv_at hl 0 rfl) ?_
  refine lv_iconst (v := (0 : Int32)) hx hb dX12_start_11 (by decide) ?_
  refine mptX12_102_0 F I_4 dX12_start_12 ?_
  intro H_6 lo_6 G5 eG5 I_6
  replace hf := nm_some eG5 hf
  refine lv_aload_n hx hb dX12_start_15 rfl (lv_at hl 0 rfl) ?_
  refine lv_iconst (v := (-1 : Int32)) hx hb dX12_start_16 (by decide) ?_
  refine mptX12_25_0 F I_6 dX12_start_17 ?_
  intro H_8 lo_8 G7 eG7 I_8
  replace hf := nm_some eG7 hf
  refine lv_aload_n hx hb dX12_start_20 rfl (lv_at hl 0 rfl) ?_
  refine lv_iconst (v := (0 : Int32)) hx hb dX12_start_21 (by decide) ?_
  refine mptX12_105_0 F I_8 dX12_start_22 ?_
  intro H_10 lo_10 G9 eG9 I_10
  replace hf := nm_some eG9 hf
  refine lv_aload_n hx hb dX12_start_25 rfl (lv_at hl 0 rfl) ?_
  refine lv_iconst (v := (0 : Int32)) hx hb dX12_start_26 (by decide) ?_
  refine mptX12_108_0 F I_10 dX12_start_27 ?_
  intro H_12 lo_12 G11 eG11 I_12
  replace hf := nm_some eG11 hf
  refine lv_aload_n hx hb dX12_start_30 rfl (lv_at hl 0 rfl) ?_
  refine lv_iconst (v := (0 : Int32)) hx hb dX12_start_31 (by decide) ?_
  refine mptX12_111_0 F I_12 dX12_start_32 ?_
  intro H_14 lo_14 G13 eG13 I_14
  replace hf := nm_some eG13 hf
  refine lv_iconst (v := (0 : Int32)) hx hb dX12_start_35 (by decide) ?_
  refine lv_istore_n (lv' := [(3, .int (0 : Int32)), (0, .ref (ad 0)), (1, .int a0), (2, .int a1)]) hx hb dX12_start_36 rfl hl (by decide) rfl (fun ls_15 hl_15 => ?_)
  obtain ⟨G18, hq1, hf⟩ := bd_some hf
  have K1 : ∀ (H : Heap) (locs : List Loc), sInv D (mT cI cJ cD) (mW ad cI cJ cD) A s H locs (G18, E, Dd) → ∀ (ls : Array Slot), lv_has ls 4 [] → W p l e R s m args below meth c H locs 0 0 Q (F0 m 56 ls []) := by
    intro H_19 lo_19 I_19 ls_20 hl_20
    cases hf
    exact ret H_19 lo_19 _ ls_20 I_19 dX12_start_56
  have L1 : ∀ (n : Nat) (x16 : Int32) (G17 : Nat → Nat → Int32), lp (fun q => M_start_s1 q.1 q.2) n (x16, G17) = some G18 → ∀ (H : Heap) (locs : List Loc), sInv D (mT cI cJ cD) (mW ad cI cJ cD) A s H locs (G17, E, Dd) → ∀ (ls : Array Slot), lv_has ls 4 [(0, .ref (ad 0)), (3, .int x16)] → W p l e R s m args below meth c H locs 0 0 Q (F0 m 37 ls []) := by
    intro n
    induction n with
    | zero => intro x16 G17 hq; exact (lp_0 hq).elim
    | succ n ih1 =>
      intro x16 G17 hq H_22 lo_22 I_22 ls_23 hl_23
      obtain ⟨y1, hf, hK1⟩ := lp_go hq
      replace hf : M_start_s1 x16 G17 = some y1 := hf
      unfold M_start_s1 at hf
      refine lv_iload_n hx hb dX12_start_37 rfl (lv_at hl_23 1 rfl) ?_
      refine lv_bipush (v := (8 : Int32)) hx hb dX12_start_38 (by decide) ?_
      refine lv_icmp_ge (tgt := 56) hx hb dX12_start_40 (by decide) (fun c30 => ?_) (fun c30 => ?_)
      · replace hf := (if_pos c30).symm.trans hf
        cases hf
        cases (show G17 = G18 from hK1)
        exact K1 H_22 lo_22 I_22 ls_23 (lv_sub hl_23 [] rfl)
      · replace hf := (if_neg c30).symm.trans hf
        refine lv_aload_n hx hb dX12_start_43 rfl (lv_at hl_23 0 rfl) ?_
        refine mgtX12_7_0 F I_22 dX12_start_44 ?_
        refine lv_iload_n hx hb dX12_start_47 rfl (lv_at hl_23 1 rfl) ?_
        refine lv_iconst (v := (1 : Int32)) hx hb dX12_start_48 (by decide) ?_
        obtain ⟨g25, hf⟩ := ri_some hf
        refine mas1 F I_22 g25 dX12_start_49 ?_
        intro H_27 lo_27 G26 eG26 I_27
        replace hf := nm_some eG26 hf
        obtain ⟨x28, ex28⟩ : ∃ y : Int32, y = x16 + (1 : Int32) := ⟨_, rfl⟩
        replace hf := nm_some ex28 hf
        refine lv_iinc (v := x28) (lv' := [(3, .int x28), (0, .ref (ad 0))]) hx hb dX12_start_50 hl_23 (k := 1) rfl (by rw [ex28]; rfl) (by decide) rfl (fun ls_29 hl_29 => ?_)
        refine lv_goto (tgt := 37) hx hb dX12_start_53 (by decide) ?_
        cases hf
        exact ih1 _ _ hK1 H_27 lo_27 I_27 ls_29 (lv_sub hl_29 [1, 0] rfl)
  exact L1 FU _ _ hq1 H_14 lo_14 I_14 ls_15 (lv_sub hl_15 [1, 0] rfl)
def M_begin (G : Nat → Nat → Int32) (a0 : Int32) (a1 : Int32) : Option (Int32 × (Nat → Nat → Int32)) :=
bd (M_within a0 (2 : Int32) (8 : Int32)) fun r1 =>
bd (if r1 = 0 then
(some (1 : Int32))
else
(bd (M_within a1 (1 : Int32) (8 : Int32)) fun r16 =>
if r16 = 0 then
(some (1 : Int32))
else
(some (0 : Int32)))) fun x5 =>
nm (wf G 0 x5) fun G9 =>
if G9 0 0 ≤ 0 then
(bd (M_start G9 a0 a1) fun G11 =>
some ((a0 * (a0 - (1 : Int32))) / (2 : Int32), G11))
else
(some ((0 : Int32), G9))
set_option maxRecDepth 100000 in
set_option maxHeartbeats 4000000 in
theorem cM_begin (G : Nat → Nat → Int32) (E : Nat → Nat → Int64) (Dd : Nat → Nat → UInt64) (a0 : Int32) (a1 : Int32) (rv : Int32) (newG : Nat → Nat → Int32) (hf : M_begin G a0 a1 = some (rv, newG)) : sMi D (mT cI cJ cD) (mW ad cI cJ cD) l yX12_begin (ws1 yX12_begin cX12_begin 3 (some .int)) ({ frames := 1, cells := 0, slots := 0, locals := 23 }) [.ref (ad 0), .int a0, .int a1] (G, E, Dd) (rv, (newG, E, Dd)) := by
  unfold M_begin at hf
  refine sMi_of (by decide) (Nat.le_of_ble_eq_true rfl) ?_
  intro p e R s m args below meth c A Q ls H lo F hRf hRl I hl ret
  obtain ⟨hx, hb, hml, hown, hG⟩ := id F
  replace hl : lv_has ls 3 [(0, .ref (ad 0)), (1, .int a0), (2, .int a1)] := hl
  refine lv_aload_n hx hb dX12_begin_0 rfl (lv_at hl 0 rfl) ?_
  refine lv_iload_n hx hb dX12_begin_1 rfl (lv_at hl 1 rfl) ?_
  refine lv_iconst (v := (2 : Int32)) hx hb dX12_begin_2 (by decide) ?_
  refine lv_bipush (v := (8 : Int32)) hx hb dX12_begin_3 (by decide) ?_
  obtain ⟨r1, h2, hf⟩ := bd_some hf
  refine s_callSi (As := [.int a0, .int (2 : Int32), .int (8 : Int32)]) (rest := [.ref (ad 0)]) F I (cM_within G E Dd a0 (2 : Int32) (8 : Int32) r1 h2) kX12_95 ⟨rfl, rfl⟩ ⟨Nat.le_trans (Nat.le_of_ble_eq_true rfl) hRf, Nat.le_trans (Nat.le_of_ble_eq_true rfl) hRl⟩ rfl rfl hl.1 (Nat.le_of_ble_eq_true rfl) ⟨Nat.zero_le _, Nat.zero_le _⟩ dX12_begin_5 ?_
  intro H_3 lo_3 I_3
  obtain ⟨x5, hv15, hf⟩ := bd_some hf
  have J4 : ∀ (H : Heap) (locs : List Loc), sInv D (mT cI cJ cD) (mW ad cI cJ cD) A s H locs (G, E, Dd) → ∀ (ls : Array Slot), lv_has ls 3 [(0, .ref (ad 0)), (1, .int a0), (2, .int a1)] → W p l e R s m args below meth c H locs 0 0 Q (F0 m 26 ls [.int x5, .ref (ad 0)]) := by
    intro H_6 lo_6 I_6 ls_7 hl_7
    refine mptX12_89_0 F I_6 dX12_begin_26 ?_
    intro H_10 lo_10 G9 eG9 I_10
    replace hf := nm_some eG9 hf
    refine lv_aload_n hx hb dX12_begin_29 rfl (lv_at hl_7 0 rfl) ?_
    refine mgtX12_89_0 F I_10 dX12_begin_30 ?_
    refine lv_if_le (tgt := 38) hx hb dX12_begin_33 (by decide) (fun c14 => ?_) (fun c14 => ?_)
    · replace hf := (if_pos c14).symm.trans hf
      refine lv_aload_n hx hb dX12_begin_38 rfl (lv_at hl_7 0 rfl) ?_
      refine lv_iload_n hx hb dX12_begin_39 rfl (lv_at hl_7 1 rfl) ?_
      refine lv_iload_n hx hb dX12_begin_40 rfl (lv_at hl_7 2 rfl) ?_
      obtain ⟨G11, h12, hf⟩ := bd_some hf
      refine s_callVv (As := [.int a0, .int a1]) (rest := []) F I_10 (cM_start G9 E Dd a0 a1 G11 h12) kX12_85 ⟨rfl, rfl⟩ ⟨Nat.le_trans (Nat.le_of_ble_eq_true rfl) hRf, Nat.le_trans (Nat.le_of_ble_eq_true rfl) hRl⟩ (0) 12 rfl rfl rfl rfl rfl hl_7.1 (Nat.le_of_ble_eq_true rfl) ⟨Nat.zero_le _, Nat.zero_le _⟩ dX12_begin_41 ?_
      intro H_13 lo_13 I_13
      refine lv_iload_n hx hb dX12_begin_44 rfl (lv_at hl_7 1 rfl) ?_
      refine lv_iload_n hx hb dX12_begin_45 rfl (lv_at hl_7 1 rfl) ?_
      refine lv_iconst (v := (1 : Int32)) hx hb dX12_begin_46 (by decide) ?_
      refine lv_isub hx hb dX12_begin_47 ?_
      refine lv_imul hx hb dX12_begin_48 ?_
      refine lv_iconst (v := (2 : Int32)) hx hb dX12_begin_49 (by decide) ?_
      refine lv_idiv hx hb dX12_begin_50 (by decide) ?_
      cases hf
      exact ret H_13 lo_13 _ ls_7 I_13 dX12_begin_51
    · replace hf := (if_neg c14).symm.trans hf
      refine lv_iconst (v := (0 : Int32)) hx hb dX12_begin_36 (by decide) ?_
      cases hf
      exact ret H_10 lo_10 _ ls_7 I_10 dX12_begin_37
  replace hf := hv15
  refine lv_if_eq (tgt := 25) hx hb dX12_begin_8 (by decide) (fun c20 => ?_) (fun c20 => ?_)
  · replace hf := (if_pos c20).symm.trans hf
    refine lv_iconst (v := (1 : Int32)) hx hb dX12_begin_25 (by decide) ?_
    cases hf
    exact J4 H_3 lo_3 I_3 ls (lv_sub hl [0, 1, 2] rfl)
  · replace hf := (if_neg c20).symm.trans hf
    refine lv_iload_n hx hb dX12_begin_11 rfl (lv_at hl 2 rfl) ?_
    refine lv_iconst (v := (1 : Int32)) hx hb dX12_begin_12 (by decide) ?_
    refine lv_bipush (v := (8 : Int32)) hx hb dX12_begin_13 (by decide) ?_
    obtain ⟨r16, h17, hf⟩ := bd_some hf
    refine s_callSi (As := [.int a1, .int (1 : Int32), .int (8 : Int32)]) (rest := [.ref (ad 0)]) F I_3 (cM_within G E Dd a1 (1 : Int32) (8 : Int32) r16 h17) kX12_95 ⟨rfl, rfl⟩ ⟨Nat.le_trans (Nat.le_of_ble_eq_true rfl) hRf, Nat.le_trans (Nat.le_of_ble_eq_true rfl) hRl⟩ rfl rfl hl.1 (Nat.le_of_ble_eq_true rfl) ⟨Nat.zero_le _, Nat.zero_le _⟩ dX12_begin_15 ?_
    intro H_18 lo_18 I_18
    refine lv_if_eq (tgt := 25) hx hb dX12_begin_18 (by decide) (fun c19 => ?_) (fun c19 => ?_)
    · replace hf := (if_pos c19).symm.trans hf
      refine lv_iconst (v := (1 : Int32)) hx hb dX12_begin_25 (by decide) ?_
      cases hf
      exact J4 H_18 lo_18 I_18 ls (lv_sub hl [0, 1, 2] rfl)
    · replace hf := (if_neg c19).symm.trans hf
      refine lv_iconst (v := (0 : Int32)) hx hb dX12_begin_21 (by decide) ?_
      refine lv_goto (tgt := 26) hx hb dX12_begin_22 (by decide) ?_
      cases hf
      exact J4 H_18 lo_18 I_18 ls (lv_sub hl [0, 1, 2] rfl)
def M_setWeight (G : Nat → Nat → Int32) (a0 : Int32) (a1 : Int32) : Option (Int32 × (Nat → Nat → Int32)) :=
bd (M_isListener G a0) fun r1 =>
bd (if r1 = 0 then
(some (1 : Int32))
else
(bd (M_within a1 (0 : Int32) (9 : Int32)) fun r19 =>
if r19 = 0 then
(some (2 : Int32))
else
(some (0 : Int32)))) fun x5 =>
nm (wf G 0 x5) fun G9 =>
if G9 0 0 ≤ 0 then
(ri 8 a0 <|
nm (G9 3 a0.toNatClampNeg : Int32) fun x12 =>
ri 8 a0 <|
nm (wr G9 3 a0 a1) fun G15 =>
some (x12, G15))
else
(some ((0 : Int32), G9))
set_option maxRecDepth 100000 in
set_option maxHeartbeats 4000000 in
theorem cM_setWeight (G : Nat → Nat → Int32) (E : Nat → Nat → Int64) (Dd : Nat → Nat → UInt64) (a0 : Int32) (a1 : Int32) (rv : Int32) (newG : Nat → Nat → Int32) (hf : M_setWeight G a0 a1 = some (rv, newG)) : sMi D (mT cI cJ cD) (mW ad cI cJ cD) l yX12_setWeight (ws1 yX12_setWeight cX12_setWeight 4 (some .int)) ({ frames := 2, cells := 0, slots := 0, locals := 43 }) [.ref (ad 0), .int a0, .int a1] (G, E, Dd) (rv, (newG, E, Dd)) := by
  unfold M_setWeight at hf
  refine sMi_of (by decide) (Nat.le_of_ble_eq_true rfl) ?_
  intro p e R s m args below meth c A Q ls H lo F hRf hRl I hl ret
  obtain ⟨hx, hb, hml, hown, hG⟩ := id F
  replace hl : lv_has ls 4 [(0, .ref (ad 0)), (1, .int a0), (2, .int a1)] := hl
  refine lv_aload_n hx hb dX12_setWeight_0 rfl (lv_at hl 0 rfl) ?_
  refine lv_aload_n hx hb dX12_setWeight_1 rfl (lv_at hl 0 rfl) ?_
  refine lv_iload_n hx hb dX12_setWeight_2 rfl (lv_at hl 1 rfl) ?_
  obtain ⟨r1, h2, hf⟩ := bd_some hf
  refine s_callVi (As := [.int a0]) (rest := [.ref (ad 0)]) F I (cM_isListener G E Dd a0 r1 h2) kX12_114 ⟨rfl, rfl⟩ ⟨Nat.le_trans (Nat.le_of_ble_eq_true rfl) hRf, Nat.le_trans (Nat.le_of_ble_eq_true rfl) hRl⟩ (0) 12 rfl rfl rfl rfl rfl hl.1 (Nat.le_of_ble_eq_true rfl) ⟨Nat.zero_le _, Nat.zero_le _⟩ dX12_setWeight_3 ?_
  intro H_3 lo_3 I_3
  obtain ⟨x5, hv18, hf⟩ := bd_some hf
  have J4 : ∀ (H : Heap) (locs : List Loc), sInv D (mT cI cJ cD) (mW ad cI cJ cD) A s H locs (G, E, Dd) → ∀ (ls : Array Slot), lv_has ls 4 [(0, .ref (ad 0)), (1, .int a0), (2, .int a1)] → W p l e R s m args below meth c H locs 0 0 Q (F0 m 28 ls [.int x5, .ref (ad 0)]) := by
    intro H_6 lo_6 I_6 ls_7 hl_7
    refine mptX12_89_0 F I_6 dX12_setWeight_28 ?_
    intro H_10 lo_10 G9 eG9 I_10
    replace hf := nm_some eG9 hf
    refine lv_aload_n hx hb dX12_setWeight_31 rfl (lv_at hl_7 0 rfl) ?_
    refine mgtX12_89_0 F I_10 dX12_setWeight_32 ?_
    refine lv_if_le (tgt := 40) hx hb dX12_setWeight_35 (by decide) (fun c17 => ?_) (fun c17 => ?_)
    · replace hf := (if_pos c17).symm.trans hf
      refine lv_aload_n hx hb dX12_setWeight_40 rfl (lv_at hl_7 0 rfl) ?_
      refine mgtX12_7_0 F I_10 dX12_setWeight_41 ?_
      refine lv_iload_n hx hb dX12_setWeight_44 rfl (lv_at hl_7 1 rfl) ?_
      obtain ⟨g11, hf⟩ := ri_some hf
      refine mal1 F I_10 g11 dX12_setWeight_45 ?_
      refine lv_topi (fun x12 ex12 => ?_)
      replace hf := nm_some ex12 hf
      refine lv_istore_n (lv' := [(3, .int x12), (0, .ref (ad 0)), (1, .int a0), (2, .int a1)]) hx hb dX12_setWeight_46 rfl hl_7 (by decide) rfl (fun ls_13 hl_13 => ?_)
      refine lv_aload_n hx hb dX12_setWeight_47 rfl (lv_at hl_13 1 rfl) ?_
      refine mgtX12_7_0 F I_10 dX12_setWeight_48 ?_
      refine lv_iload_n hx hb dX12_setWeight_51 rfl (lv_at hl_13 2 rfl) ?_
      refine lv_iload_n hx hb dX12_setWeight_52 rfl (lv_at hl_13 3 rfl) ?_
      obtain ⟨g14, hf⟩ := ri_some hf
      refine mas1 F I_10 g14 dX12_setWeight_53 ?_
      intro H_16 lo_16 G15 eG15 I_16
      replace hf := nm_some eG15 hf
      refine lv_iload_n hx hb dX12_setWeight_54 rfl (lv_at hl_13 0 rfl) ?_
      cases hf
      exact ret H_16 lo_16 _ ls_13 I_16 dX12_setWeight_55
    · replace hf := (if_neg c17).symm.trans hf
      refine lv_iconst (v := (0 : Int32)) hx hb dX12_setWeight_38 (by decide) ?_
      cases hf
      exact ret H_10 lo_10 _ ls_7 I_10 dX12_setWeight_39
  replace hf := hv18
  refine lv_if_ne (tgt := 13) hx hb dX12_setWeight_6 (by decide) (fun c23 => ?_) (fun c23 => ?_)
  · replace hf := (if_neg c23).symm.trans hf
    refine lv_iload_n hx hb dX12_setWeight_13 rfl (lv_at hl 2 rfl) ?_
    refine lv_iconst (v := (0 : Int32)) hx hb dX12_setWeight_14 (by decide) ?_
    refine lv_bipush (v := (9 : Int32)) hx hb dX12_setWeight_15 (by decide) ?_
    obtain ⟨r19, h20, hf⟩ := bd_some hf
    refine s_callSi (As := [.int a1, .int (0 : Int32), .int (9 : Int32)]) (rest := [.ref (ad 0)]) F I_3 (cM_within G E Dd a1 (0 : Int32) (9 : Int32) r19 h20) kX12_95 ⟨rfl, rfl⟩ ⟨Nat.le_trans (Nat.le_of_ble_eq_true rfl) hRf, Nat.le_trans (Nat.le_of_ble_eq_true rfl) hRl⟩ rfl rfl hl.1 (Nat.le_of_ble_eq_true rfl) ⟨Nat.zero_le _, Nat.zero_le _⟩ dX12_setWeight_17 ?_
    intro H_21 lo_21 I_21
    refine lv_if_eq (tgt := 27) hx hb dX12_setWeight_20 (by decide) (fun c22 => ?_) (fun c22 => ?_)
    · replace hf := (if_pos c22).symm.trans hf
      refine lv_iconst (v := (2 : Int32)) hx hb dX12_setWeight_27 (by decide) ?_
      cases hf
      exact J4 H_21 lo_21 I_21 ls (lv_sub hl [0, 1, 2] rfl)
    · replace hf := (if_neg c22).symm.trans hf
      refine lv_iconst (v := (0 : Int32)) hx hb dX12_setWeight_23 (by decide) ?_
      refine lv_goto (tgt := 28) hx hb dX12_setWeight_24 (by decide) ?_
      cases hf
      exact J4 H_21 lo_21 I_21 ls (lv_sub hl [0, 1, 2] rfl)
  · replace hf := (if_pos c23).symm.trans hf
    refine lv_iconst (v := (1 : Int32)) hx hb dX12_setWeight_9 (by decide) ?_
    refine lv_goto (tgt := 28) hx hb dX12_setWeight_10 (by decide) ?_
    cases hf
    exact J4 H_3 lo_3 I_3 ls (lv_sub hl [0, 1, 2] rfl)
def M_draw (E : Nat → Nat → Int64) (a0 : Int32) : Option (Int32 × (Nat → Nat → Int64)) :=
nm (wf E 22 ((((1103515245 : Int64) * (E 22 0)) + (12345 : Int64)) - (((1103515245 : Int64) * (E 22 0)) + (12345 : Int64)) / (2147483648 : Int64) * (2147483648 : Int64))) fun E1 =>
gd (¬ a0.toInt64 = 0) <|
some ((((E1 22 0) / (65536 : Int64)) - ((E1 22 0) / (65536 : Int64)) / a0.toInt64 * a0.toInt64).toInt32, E1)
set_option maxRecDepth 100000 in
set_option maxHeartbeats 4000000 in
theorem cM_draw (G : Nat → Nat → Int32) (E : Nat → Nat → Int64) (Dd : Nat → Nat → UInt64) (a0 : Int32) (rv : Int32) (newE : Nat → Nat → Int64) (hf : M_draw E a0 = some (rv, newE)) : sMi D (mT cI cJ cD) (mW ad cI cJ cD) l yX12_draw (ws1 yX12_draw cX12_draw 2 (some .int)) ({ frames := 0, cells := 0, slots := 0, locals := 0 }) [.ref (ad 0), .int a0] (G, E, Dd) (rv, (G, newE, Dd)) := by
  unfold M_draw at hf
  refine sMi_of (by decide) (Nat.le_of_ble_eq_true rfl) ?_
  intro p e R s m args below meth c A Q ls H lo F hRf hRl I hl ret
  obtain ⟨hx, hb, hml, hown, hG⟩ := id F
  replace hl : lv_has ls 2 [(0, .ref (ad 0)), (1, .int a0)] := hl
  refine lv_aload_n hx hb dX12_draw_0 rfl (lv_at hl 0 rfl) ?_
  refine lv_ldc2 (v := (1103515245 : Int64)) hx hb hown (hG _ q1359) dX12_draw_1 ?_
  refine lv_aload_n hx hb dX12_draw_4 rfl (lv_at hl 0 rfl) ?_
  refine mgtX12_120_0 F I dX12_draw_5 ?_
  refine lv_lmul hx hb dX12_draw_8 ?_
  refine lv_ldc2 (v := (12345 : Int64)) hx hb hown (hG _ q1360) dX12_draw_9 ?_
  refine lv_ladd hx hb dX12_draw_12 ?_
  refine lv_ldc2 (v := (2147483648 : Int64)) hx hb hown (hG _ q1361) dX12_draw_13 ?_
  refine lv_lrem hx hb dX12_draw_16 (by decide) ?_
  refine mptX12_120_0 F I dX12_draw_17 ?_
  intro H_2 lo_2 E1 eE1 I_2
  replace hf := nm_some eE1 hf
  refine lv_aload_n hx hb dX12_draw_20 rfl (lv_at hl 0 rfl) ?_
  refine mgtX12_120_0 F I_2 dX12_draw_21 ?_
  refine lv_ldc2 (v := (65536 : Int64)) hx hb hown (hG _ q1362) dX12_draw_24 ?_
  refine lv_ldiv hx hb dX12_draw_27 (by decide) ?_
  refine lv_iload_n hx hb dX12_draw_28 rfl (lv_at hl 1 rfl) ?_
  refine lv_i2l hx hb dX12_draw_29 rfl ?_
  obtain ⟨g3, hf⟩ := gd_some hf
  refine lv_lrem hx hb dX12_draw_30 g3 ?_
  refine lv_l2i hx hb dX12_draw_31 rfl ?_
  cases hf
  exact ret H_2 lo_2 _ ls I_2 dX12_draw_32
def M_listTrials_s3 (x14 : Int32) (x27 : Int32) (G28 : Nat → Nat → Int32) : Option ((Int32 × (Nat → Nat → Int32)) ⊕ ((Nat → Nat → Int32))) :=
if G28 1 0 ≤ x27 then
(some (.inr G28))
else
(ri 56 (G28 10 0) <|
nm (wr G28 12 (G28 10 0) (((10 : Int32) * x14) + x27)) fun G39 =>
nm (wf G39 10 ((G39 10 0) + (1 : Int32))) fun G41 =>
nm (x27 + (1 : Int32) : Int32) fun x43 =>
some (.inl (x43, G41)))
def M_listTrials_s2  (x14 : Int32) (G15 : Nat → Nat → Int32) : Option ((Int32 × (Nat → Nat → Int32)) ⊕ ((Nat → Nat → Int32))) :=
if G15 1 0 ≤ x14 then
(some (.inr G15))
else
(nm (x14 + (1 : Int32) : Int32) fun x25 =>
bd (lp (fun q => M_listTrials_s3 x14 q.1 q.2) FU (x25, G15)) fun G29 =>
nm (x14 + (1 : Int32) : Int32) fun x33 =>
some (.inl (x33, G29)))
def M_listTrials_s1 (a0 : Int32) (x4 : Int32) (G5 : Nat → Nat → Int32) : Option ((Int32 × (Nat → Nat → Int32)) ⊕ ((Nat → Nat → Int32))) :=
if a0 ≤ x4 then
(some (.inr G5))
else
(bd (lp (fun q => M_listTrials_s2 q.1 q.2) FU ((0 : Int32), G5)) fun G16 =>
nm (x4 + (1 : Int32) : Int32) fun x20 =>
some (.inl (x20, G16)))
def M_listTrials (G : Nat → Nat → Int32) (a0 : Int32) : Option ((Nat → Nat → Int32)) :=
nm (wf G 10 (0 : Int32)) fun G1 =>
bd (lp (fun q => M_listTrials_s1 a0 q.1 q.2) FU ((0 : Int32), G1)) fun G6 =>
some G6
set_option maxRecDepth 100000 in
set_option maxHeartbeats 4000000 in
theorem cM_listTrials (G : Nat → Nat → Int32) (E : Nat → Nat → Int64) (Dd : Nat → Nat → UInt64) (a0 : Int32)  (newG : Nat → Nat → Int32) (hf : M_listTrials G a0 = some newG) : sMv D (mT cI cJ cD) (mW ad cI cJ cD) l yX12_listTrials (ws1 yX12_listTrials cX12_listTrials 5 none) ({ frames := 0, cells := 0, slots := 0, locals := 0 }) [.ref (ad 0), .int a0] (G, E, Dd) (newG, E, Dd) := by
  unfold M_listTrials at hf
  refine sMv_of (by decide) (Nat.le_of_ble_eq_true rfl) ?_
  intro p e R s m args below meth c A Q ls H lo F hRf hRl I hl ret
  obtain ⟨hx, hb, hml, hown, hG⟩ := id F
  replace hl : lv_has ls 5 [(0, .ref (ad 0)), (1, .int a0)] := hl
  refine lv_aload_n hx hb dX12_listTrials_0 rfl (lv_at hl 0 rfl) ?_
  refine lv_iconst (v := (0 : Int32)) hx hb dX12_listTrials_1 (by decide) ?_
  refine mptX12_105_0 F I dX12_listTrials_2 ?_
  intro H_2 lo_2 G1 eG1 I_2
  replace hf := nm_some eG1 hf
  refine lv_iconst (v := (0 : Int32)) hx hb dX12_listTrials_5 (by decide) ?_
  refine lv_istore_n (lv' := [(2, .int (0 : Int32)), (0, .ref (ad 0)), (1, .int a0)]) hx hb dX12_listTrials_6 rfl hl (by decide) rfl (fun ls_3 hl_3 => ?_)
  obtain ⟨G6, hq1, hf⟩ := bd_some hf
  have K1 : ∀ (H : Heap) (locs : List Loc), sInv D (mT cI cJ cD) (mW ad cI cJ cD) A s H locs (G6, E, Dd) → ∀ (ls : Array Slot), lv_has ls 5 [] → W p l e R s m args below meth c H locs 0 0 Q (F0 m 80 ls []) := by
    intro H_7 lo_7 I_7 ls_8 hl_8
    cases hf
    exact ret H_7 lo_7 _ ls_8 I_7 dX12_listTrials_80
  have L1 : ∀ (n : Nat) (x4 : Int32) (G5 : Nat → Nat → Int32), lp (fun q => M_listTrials_s1 a0 q.1 q.2) n (x4, G5) = some G6 → ∀ (H : Heap) (locs : List Loc), sInv D (mT cI cJ cD) (mW ad cI cJ cD) A s H locs (G5, E, Dd) → ∀ (ls : Array Slot), lv_has ls 5 [(0, .ref (ad 0)), (1, .int a0), (2, .int x4)] → W p l e R s m args below meth c H locs 0 0 Q (F0 m 7 ls []) := by
    intro n
    induction n with
    | zero => intro x4 G5 hq; exact (lp_0 hq).elim
    | succ n ih1 =>
      intro x4 G5 hq H_10 lo_10 I_10 ls_11 hl_11
      obtain ⟨y1, hf, hK1⟩ := lp_go hq
      replace hf : M_listTrials_s1 a0 x4 G5 = some y1 := hf
      unfold M_listTrials_s1 at hf
      refine lv_iload_n hx hb dX12_listTrials_7 rfl (lv_at hl_11 2 rfl) ?_
      refine lv_iload_n hx hb dX12_listTrials_8 rfl (lv_at hl_11 1 rfl) ?_
      refine lv_icmp_ge (tgt := 80) hx hb dX12_listTrials_9 (by decide) (fun c47 => ?_) (fun c47 => ?_)
      · replace hf := (if_pos c47).symm.trans hf
        cases hf
        cases (show G5 = G6 from hK1)
        exact K1 H_10 lo_10 I_10 ls_11 (lv_sub hl_11 [] rfl)
      · replace hf := (if_neg c47).symm.trans hf
        refine lv_iconst (v := (0 : Int32)) hx hb dX12_listTrials_12 (by decide) ?_
        refine lv_istore_n (lv' := [(3, .int (0 : Int32)), (0, .ref (ad 0)), (1, .int a0), (2, .int x4)]) hx hb dX12_listTrials_13 rfl hl_11 (by decide) rfl (fun ls_13 hl_13 => ?_)
        obtain ⟨G16, hq2, hf⟩ := bd_some hf
        have K2 : ∀ (H : Heap) (locs : List Loc), sInv D (mT cI cJ cD) (mW ad cI cJ cD) A s H locs (G16, E, Dd) → ∀ (ls : Array Slot), lv_has ls 5 [(0, .ref (ad 0)), (1, .int a0), (2, .int x4)] → W p l e R s m args below meth c H locs 0 0 Q (F0 m 74 ls []) := by
          intro H_17 lo_17 I_17 ls_18 hl_18
          obtain ⟨x20, ex20⟩ : ∃ y : Int32, y = x4 + (1 : Int32) := ⟨_, rfl⟩
          replace hf := nm_some ex20 hf
          refine lv_iinc (v := x20) (lv' := [(2, .int x20), (0, .ref (ad 0)), (1, .int a0)]) hx hb dX12_listTrials_74 hl_18 (k := 2) rfl (by rw [ex20]; rfl) (by decide) rfl (fun ls_21 hl_21 => ?_)
          refine lv_goto (tgt := 7) hx hb dX12_listTrials_77 (by decide) ?_
          cases hf
          exact ih1 _ _ hK1 H_17 lo_17 I_17 ls_21 (lv_sub hl_21 [1, 2, 0] rfl)
        have L2 : ∀ (n : Nat) (x14 : Int32) (G15 : Nat → Nat → Int32), lp (fun q => M_listTrials_s2 q.1 q.2) n (x14, G15) = some G16 → ∀ (H : Heap) (locs : List Loc), sInv D (mT cI cJ cD) (mW ad cI cJ cD) A s H locs (G15, E, Dd) → ∀ (ls : Array Slot), lv_has ls 5 [(0, .ref (ad 0)), (1, .int a0), (2, .int x4), (3, .int x14)] → W p l e R s m args below meth c H locs 0 0 Q (F0 m 14 ls []) := by
          intro n
          induction n with
          | zero => intro x14 G15 hq; exact (lp_0 hq).elim
          | succ n ih2 =>
            intro x14 G15 hq H_22 lo_22 I_22 ls_23 hl_23
            obtain ⟨y2, hf, hK2⟩ := lp_go hq
            replace hf : M_listTrials_s2 x14 G15 = some y2 := hf
            unfold M_listTrials_s2 at hf
            refine lv_iload_n hx hb dX12_listTrials_14 rfl (lv_at hl_23 3 rfl) ?_
            refine lv_aload_n hx hb dX12_listTrials_15 rfl (lv_at hl_23 0 rfl) ?_
            refine mgtX12_92_0 F I_22 dX12_listTrials_16 ?_
            refine lv_icmp_ge (tgt := 74) hx hb dX12_listTrials_19 (by decide) (fun c46 => ?_) (fun c46 => ?_)
            · replace hf := (if_pos c46).symm.trans hf
              cases hf
              cases (show G15 = G16 from hK2)
              exact K2 H_22 lo_22 I_22 ls_23 (lv_sub hl_23 [0, 1, 2] rfl)
            · replace hf := (if_neg c46).symm.trans hf
              refine lv_iload_n hx hb dX12_listTrials_22 rfl (lv_at hl_23 3 rfl) ?_
              refine lv_iconst (v := (1 : Int32)) hx hb dX12_listTrials_23 (by decide) ?_
              refine lv_iadd hx hb dX12_listTrials_24 ?_
              refine lv_topi (fun x25 ex25 => ?_)
              replace hf := nm_some ex25 hf
              refine lv_istore (lv' := [(4, .int x25), (0, .ref (ad 0)), (1, .int a0), (2, .int x4), (3, .int x14)]) hx hb dX12_listTrials_25 hl_23 (by decide) rfl (fun ls_26 hl_26 => ?_)
              obtain ⟨G29, hq3, hf⟩ := bd_some hf
              have K3 : ∀ (H : Heap) (locs : List Loc), sInv D (mT cI cJ cD) (mW ad cI cJ cD) A s H locs (G29, E, Dd) → ∀ (ls : Array Slot), lv_has ls 5 [(0, .ref (ad 0)), (1, .int a0), (2, .int x4), (3, .int x14)] → W p l e R s m args below meth c H locs 0 0 Q (F0 m 68 ls []) := by
                intro H_30 lo_30 I_30 ls_31 hl_31
                obtain ⟨x33, ex33⟩ : ∃ y : Int32, y = x14 + (1 : Int32) := ⟨_, rfl⟩
                replace hf := nm_some ex33 hf
                refine lv_iinc (v := x33) (lv' := [(3, .int x33), (0, .ref (ad 0)), (1, .int a0), (2, .int x4)]) hx hb dX12_listTrials_68 hl_31 (k := 3) rfl (by rw [ex33]; rfl) (by decide) rfl (fun ls_34 hl_34 => ?_)
                refine lv_goto (tgt := 14) hx hb dX12_listTrials_71 (by decide) ?_
                cases hf
                exact ih2 _ _ hK2 H_30 lo_30 I_30 ls_34 (lv_sub hl_34 [1, 2, 3, 0] rfl)
              have L3 : ∀ (n : Nat) (x27 : Int32) (G28 : Nat → Nat → Int32), lp (fun q => M_listTrials_s3 x14 q.1 q.2) n (x27, G28) = some G29 → ∀ (H : Heap) (locs : List Loc), sInv D (mT cI cJ cD) (mW ad cI cJ cD) A s H locs (G28, E, Dd) → ∀ (ls : Array Slot), lv_has ls 5 [(0, .ref (ad 0)), (1, .int a0), (2, .int x4), (3, .int x14), (4, .int x27)] → W p l e R s m args below meth c H locs 0 0 Q (F0 m 27 ls []) := by
                intro n
                induction n with
                | zero => intro x27 G28 hq; exact (lp_0 hq).elim
                | succ n ih3 =>
                  intro x27 G28 hq H_35 lo_35 I_35 ls_36 hl_36
                  obtain ⟨y3, hf, hK3⟩ := lp_go hq
                  replace hf : M_listTrials_s3 x14 x27 G28 = some y3 := hf
                  unfold M_listTrials_s3 at hf
                  refine lv_iload hx hb dX12_listTrials_27 (lv_at hl_36 4 rfl) ?_
                  refine lv_aload_n hx hb dX12_listTrials_29 rfl (lv_at hl_36 0 rfl) ?_
                  refine mgtX12_92_0 F I_35 dX12_listTrials_30 ?_
                  refine lv_icmp_ge (tgt := 68) hx hb dX12_listTrials_33 (by decide) (fun c45 => ?_) (fun c45 => ?_)
                  · replace hf := (if_pos c45).symm.trans hf
                    cases hf
                    cases (show G28 = G29 from hK3)
                    exact K3 H_35 lo_35 I_35 ls_36 (lv_sub hl_36 [0, 1, 2, 3] rfl)
                  · replace hf := (if_neg c45).symm.trans hf
                    refine lv_aload_n hx hb dX12_listTrials_36 rfl (lv_at hl_36 0 rfl) ?_
                    refine mgtX12_29_0 F I_35 dX12_listTrials_37 ?_
                    refine lv_aload_n hx hb dX12_listTrials_40 rfl (lv_at hl_36 0 rfl) ?_
                    refine mgtX12_105_0 F I_35 dX12_listTrials_41 ?_
                    refine lv_bipush (v := (10 : Int32)) hx hb dX12_listTrials_44 (by decide) ?_
                    refine lv_iload_n hx hb dX12_listTrials_46 rfl (lv_at hl_36 3 rfl) ?_
                    refine lv_imul hx hb dX12_listTrials_47 ?_
                    refine lv_iload hx hb dX12_listTrials_48 (lv_at hl_36 4 rfl) ?_
                    refine lv_iadd hx hb dX12_listTrials_50 ?_
                    obtain ⟨g38, hf⟩ := ri_some hf
                    refine mas6 F I_35 g38 dX12_listTrials_51 ?_
                    intro H_40 lo_40 G39 eG39 I_40
                    replace hf := nm_some eG39 hf
                    refine lv_aload_n hx hb dX12_listTrials_52 rfl (lv_at hl_36 0 rfl) ?_
                    refine lv_dup hx hb dX12_listTrials_53 rfl ?_
                    refine mgtX12_105_0 F I_40 dX12_listTrials_54 ?_
                    refine lv_iconst (v := (1 : Int32)) hx hb dX12_listTrials_57 (by decide) ?_
                    refine lv_iadd hx hb dX12_listTrials_58 ?_
                    refine mptX12_105_0 F I_40 dX12_listTrials_59 ?_
                    intro H_42 lo_42 G41 eG41 I_42
                    replace hf := nm_some eG41 hf
                    obtain ⟨x43, ex43⟩ : ∃ y : Int32, y = x27 + (1 : Int32) := ⟨_, rfl⟩
                    replace hf := nm_some ex43 hf
                    refine lv_iinc (v := x43) (lv' := [(4, .int x43), (0, .ref (ad 0)), (1, .int a0), (2, .int x4), (3, .int x14)]) hx hb dX12_listTrials_62 hl_36 (k := 4) rfl (by rw [ex43]; rfl) (by decide) rfl (fun ls_44 hl_44 => ?_)
                    refine lv_goto (tgt := 27) hx hb dX12_listTrials_65 (by decide) ?_
                    cases hf
                    exact ih3 _ _ hK3 H_42 lo_42 I_42 ls_44 (lv_sub hl_44 [1, 2, 3, 4, 0] rfl)
              exact L3 FU _ _ hq3 H_22 lo_22 I_22 ls_26 (lv_sub hl_26 [1, 2, 3, 4, 0] rfl)
        exact L2 FU _ _ hq2 H_10 lo_10 I_10 ls_13 (lv_sub hl_13 [1, 2, 3, 0] rfl)
  exact L1 FU _ _ hq1 H_2 lo_2 I_2 ls_3 (lv_sub hl_3 [1, 2, 0] rfl)
def M_plan_s2  (x31 : Int32) (G32 : Nat → Nat → Int32) (E33 : Nat → Nat → Int64) : Option ((Int32 × (Nat → Nat → Int32) × (Nat → Nat → Int64)) ⊕ ((Nat → Nat → Int32) × (Nat → Nat → Int64))) :=
if x31 ≤ 0 then
(some (.inr (G32, E33)))
else
(bd2 (M_draw E33 (x31 + (1 : Int32))) fun r42 E43 =>
ri 56 x31 <|
nm (G32 12 x31.toNatClampNeg : Int32) fun x48 =>
ri 56 r42 <|
ri 56 x31 <|
nm (wr G32 12 x31 (G32 12 r42.toNatClampNeg)) fun G52 =>
ri 56 r42 <|
nm (wr G52 12 r42 x48) fun G55 =>
nm (x31 + (-1 : Int32) : Int32) fun x57 =>
some (.inl (x57, G55, E43)))
def M_plan_s1  (x21 : Int32) (G22 : Nat → Nat → Int32) (E23 : Nat → Nat → Int64) : Option ((Int32 × (Nat → Nat → Int32) × (Nat → Nat → Int64)) ⊕ ((Nat → Nat → Int32) × (Nat → Nat → Int64))) :=
if G22 10 0 ≤ x21 then
(some (.inr (G22, E23)))
else
(bd2 (M_draw E23 (2 : Int32)) fun r63 E64 =>
bd (if r63 = (1 : Int32) then
(ri 56 x21 <|
ri 56 x21 <|
some (((10 : Int32) * ((G22 12 x21.toNatClampNeg) - (G22 12 x21.toNatClampNeg) / (10 : Int32) * (10 : Int32))) + ((G22 12 x21.toNatClampNeg) / (10 : Int32))))
else
(ri 56 x21 <|
some (G22 12 x21.toNatClampNeg))) fun x68 =>
ri 56 x21 <|
nm (wr G22 12 x21 x68) fun G73 =>
nm (x21 + (1 : Int32) : Int32) fun x75 =>
some (.inl (x75, G73, E64)))
def M_plan (G : Nat → Nat → Int32) (E : Nat → Nat → Int64) (a0 : Int32) (a1 : Int32) (a2 : Int32) : Option (Int32 × (Nat → Nat → Int32) × (Nat → Nat → Int64)) :=
bd (M_isListener G a0) fun r1 =>
bd (if r1 = 0 then
(some (1 : Int32))
else
(bd (M_within a1 (1 : Int32) (2 : Int32)) fun r85 =>
if r85 = 0 then
(some (2 : Int32))
else
(if a2 < 0 then
(some (2 : Int32))
else
(some (0 : Int32))))) fun x5 =>
nm (wf G 0 x5) fun G9 =>
if G9 0 0 ≤ 0 then
(nm (wf G9 9 a0) fun G11 =>
nm (wf G11 11 (0 : Int32)) fun G13 =>
nm (wf E 22 a2.toInt64) fun E15 =>
bd (M_listTrials G13 a1) fun G17 =>
bd2 (lp (fun q => M_plan_s1 q.1 q.2.1 q.2.2) FU ((0 : Int32), G17, E15)) fun G24 E25 =>
nm ((G24 10 0) - (1 : Int32) : Int32) fun x29 =>
bd2 (lp (fun q => M_plan_s2 q.1 q.2.1 q.2.2) FU (x29, G24, E25)) fun G34 E35 =>
some (G34 10 0, G34, E35))
else
(some ((0 : Int32), G9, E))
set_option maxRecDepth 100000 in
set_option maxHeartbeats 4000000 in
theorem cM_plan (G : Nat → Nat → Int32) (E : Nat → Nat → Int64) (Dd : Nat → Nat → UInt64) (a0 : Int32) (a1 : Int32) (a2 : Int32) (rv : Int32) (newG : Nat → Nat → Int32) (newE : Nat → Nat → Int64) (hf : M_plan G E a0 a1 a2 = some (rv, newG, newE)) : sMi D (mT cI cJ cD) (mW ad cI cJ cD) l yX12_plan (ws1 yX12_plan cX12_plan 7 (some .int)) ({ frames := 2, cells := 0, slots := 0, locals := 43 }) [.ref (ad 0), .int a0, .int a1, .int a2] (G, E, Dd) (rv, (newG, newE, Dd)) := by
  unfold M_plan at hf
  refine sMi_of (by decide) (Nat.le_of_ble_eq_true rfl) ?_
  intro p e R s m args below meth c A Q ls H lo F hRf hRl I hl ret
  obtain ⟨hx, hb, hml, hown, hG⟩ := id F
  replace hl : lv_has ls 7 [(0, .ref (ad 0)), (1, .int a0), (2, .int a1), (3, .int a2)] := hl
  refine lv_aload_n hx hb dX12_plan_0 rfl (lv_at hl 0 rfl) ?_
  refine lv_aload_n hx hb dX12_plan_1 rfl (lv_at hl 0 rfl) ?_
  refine lv_iload_n hx hb dX12_plan_2 rfl (lv_at hl 1 rfl) ?_
  obtain ⟨r1, h2, hf⟩ := bd_some hf
  refine s_callVi (As := [.int a0]) (rest := [.ref (ad 0)]) F I (cM_isListener G E Dd a0 r1 h2) kX12_114 ⟨rfl, rfl⟩ ⟨Nat.le_trans (Nat.le_of_ble_eq_true rfl) hRf, Nat.le_trans (Nat.le_of_ble_eq_true rfl) hRl⟩ (0) 12 rfl rfl rfl rfl rfl hl.1 (Nat.le_of_ble_eq_true rfl) ⟨Nat.zero_le _, Nat.zero_le _⟩ dX12_plan_3 ?_
  intro H_3 lo_3 I_3
  obtain ⟨x5, hv84, hf⟩ := bd_some hf
  have J4 : ∀ (H : Heap) (locs : List Loc), sInv D (mT cI cJ cD) (mW ad cI cJ cD) A s H locs (G, E, Dd) → ∀ (ls : Array Slot), lv_has ls 7 [(0, .ref (ad 0)), (1, .int a0), (2, .int a1), (3, .int a2)] → W p l e R s m args below meth c H locs 0 0 Q (F0 m 31 ls [.int x5, .ref (ad 0)]) := by
    intro H_6 lo_6 I_6 ls_7 hl_7
    refine mptX12_89_0 F I_6 dX12_plan_31 ?_
    intro H_10 lo_10 G9 eG9 I_10
    replace hf := nm_some eG9 hf
    refine lv_aload_n hx hb dX12_plan_34 rfl (lv_at hl_7 0 rfl) ?_
    refine mgtX12_89_0 F I_10 dX12_plan_35 ?_
    refine lv_if_le (tgt := 43) hx hb dX12_plan_38 (by decide) (fun c83 => ?_) (fun c83 => ?_)
    · replace hf := (if_pos c83).symm.trans hf
      refine lv_aload_n hx hb dX12_plan_43 rfl (lv_at hl_7 0 rfl) ?_
      refine lv_iload_n hx hb dX12_plan_44 rfl (lv_at hl_7 1 rfl) ?_
      refine mptX12_25_0 F I_10 dX12_plan_45 ?_
      intro H_12 lo_12 G11 eG11 I_12
      replace hf := nm_some eG11 hf
      refine lv_aload_n hx hb dX12_plan_48 rfl (lv_at hl_7 0 rfl) ?_
      refine lv_iconst (v := (0 : Int32)) hx hb dX12_plan_49 (by decide) ?_
      refine mptX12_108_0 F I_12 dX12_plan_50 ?_
      intro H_14 lo_14 G13 eG13 I_14
      replace hf := nm_some eG13 hf
      refine lv_aload_n hx hb dX12_plan_53 rfl (lv_at hl_7 0 rfl) ?_
      refine lv_iload_n hx hb dX12_plan_54 rfl (lv_at hl_7 3 rfl) ?_
      refine lv_i2l hx hb dX12_plan_55 rfl ?_
      refine mptX12_120_0 F I_14 dX12_plan_56 ?_
      intro H_16 lo_16 E15 eE15 I_16
      replace hf := nm_some eE15 hf
      refine lv_aload_n hx hb dX12_plan_59 rfl (lv_at hl_7 0 rfl) ?_
      refine lv_iload_n hx hb dX12_plan_60 rfl (lv_at hl_7 2 rfl) ?_
      obtain ⟨G17, h18, hf⟩ := bd_some hf
      refine s_callVv (As := [.int a1]) (rest := []) F I_16 (cM_listTrials G13 E15 Dd a1 G17 h18) kX12_130 ⟨rfl, rfl⟩ ⟨Nat.le_trans (Nat.le_of_ble_eq_true rfl) hRf, Nat.le_trans (Nat.le_of_ble_eq_true rfl) hRl⟩ (0) 12 rfl rfl rfl rfl rfl hl_7.1 (Nat.le_of_ble_eq_true rfl) ⟨Nat.zero_le _, Nat.zero_le _⟩ dX12_plan_61 ?_
      intro H_19 lo_19 I_19
      refine lv_iconst (v := (0 : Int32)) hx hb dX12_plan_64 (by decide) ?_
      refine lv_istore (lv' := [(4, .int (0 : Int32)), (0, .ref (ad 0)), (1, .int a0), (2, .int a1), (3, .int a2)]) hx hb dX12_plan_65 hl_7 (by decide) rfl (fun ls_20 hl_20 => ?_)
      obtain ⟨G24, E25, hq1, hf⟩ := bd2_some hf
      have K1 : ∀ (H : Heap) (locs : List Loc), sInv D (mT cI cJ cD) (mW ad cI cJ cD) A s H locs (G24, E25, Dd) → ∀ (ls : Array Slot), lv_has ls 7 [(0, .ref (ad 0))] → W p l e R s m args below meth c H locs 0 0 Q (F0 m 132 ls []) := by
        intro H_26 lo_26 I_26 ls_27 hl_27
        refine lv_aload_n hx hb dX12_plan_132 rfl (lv_at hl_27 0 rfl) ?_
        refine mgtX12_105_0 F I_26 dX12_plan_133 ?_
        refine lv_iconst (v := (1 : Int32)) hx hb dX12_plan_136 (by decide) ?_
        refine lv_isub hx hb dX12_plan_137 ?_
        refine lv_topi (fun x29 ex29 => ?_)
        replace hf := nm_some ex29 hf
        refine lv_istore (lv' := [(4, .int x29), (0, .ref (ad 0))]) hx hb dX12_plan_138 hl_27 (by decide) rfl (fun ls_30 hl_30 => ?_)
        obtain ⟨G34, E35, hq2, hf⟩ := bd2_some hf
        have K2 : ∀ (H : Heap) (locs : List Loc), sInv D (mT cI cJ cD) (mW ad cI cJ cD) A s H locs (G34, E35, Dd) → ∀ (ls : Array Slot), lv_has ls 7 [(0, .ref (ad 0))] → W p l e R s m args below meth c H locs 0 0 Q (F0 m 193 ls []) := by
          intro H_36 lo_36 I_36 ls_37 hl_37
          refine lv_aload_n hx hb dX12_plan_193 rfl (lv_at hl_37 0 rfl) ?_
          refine mgtX12_105_0 F I_36 dX12_plan_194 ?_
          cases hf
          exact ret H_36 lo_36 _ ls_37 I_36 dX12_plan_197
        have L2 : ∀ (n : Nat) (x31 : Int32) (G32 : Nat → Nat → Int32) (E33 : Nat → Nat → Int64), lp (fun q => M_plan_s2 q.1 q.2.1 q.2.2) n (x31, G32, E33) = some (G34, E35) → ∀ (H : Heap) (locs : List Loc), sInv D (mT cI cJ cD) (mW ad cI cJ cD) A s H locs (G32, E33, Dd) → ∀ (ls : Array Slot), lv_has ls 7 [(0, .ref (ad 0)), (4, .int x31)] → W p l e R s m args below meth c H locs 0 0 Q (F0 m 140 ls []) := by
          intro n
          induction n with
          | zero => intro x31 G32 E33 hq; exact (lp_0 hq).elim
          | succ n ih2 =>
            intro x31 G32 E33 hq H_39 lo_39 I_39 ls_40 hl_40
            obtain ⟨y2, hf, hK2⟩ := lp_go hq
            replace hf : M_plan_s2 x31 G32 E33 = some y2 := hf
            unfold M_plan_s2 at hf
            refine lv_iload hx hb dX12_plan_140 (lv_at hl_40 1 rfl) ?_
            refine lv_if_le (tgt := 193) hx hb dX12_plan_142 (by decide) (fun c59 => ?_) (fun c59 => ?_)
            · replace hf := (if_pos c59).symm.trans hf
              cases hf
              cases (show (G32, E33) = (G34, E35) from hK2)
              exact K2 H_39 lo_39 I_39 ls_40 (lv_sub hl_40 [0] rfl)
            · replace hf := (if_neg c59).symm.trans hf
              refine lv_aload_n hx hb dX12_plan_145 rfl (lv_at hl_40 0 rfl) ?_
              refine lv_iload hx hb dX12_plan_146 (lv_at hl_40 1 rfl) ?_
              refine lv_iconst (v := (1 : Int32)) hx hb dX12_plan_148 (by decide) ?_
              refine lv_iadd hx hb dX12_plan_149 ?_
              obtain ⟨r42, E43, h44, hf⟩ := bd2_some hf
              refine s_callVi (As := [.int (x31 + (1 : Int32))]) (rest := []) F I_39 (cM_draw G32 E33 Dd (x31 + (1 : Int32)) r42 E43 h44) kX12_134 ⟨rfl, rfl⟩ ⟨Nat.le_trans (Nat.le_of_ble_eq_true rfl) hRf, Nat.le_trans (Nat.le_of_ble_eq_true rfl) hRl⟩ (0) 12 rfl rfl rfl rfl rfl hl_40.1 (Nat.le_of_ble_eq_true rfl) ⟨Nat.zero_le _, Nat.zero_le _⟩ dX12_plan_150 ?_
              intro H_45 lo_45 I_45
              refine lv_istore (lv' := [(5, .int r42), (0, .ref (ad 0)), (4, .int x31)]) hx hb dX12_plan_153 hl_40 (by decide) rfl (fun ls_46 hl_46 => ?_)
              refine lv_aload_n hx hb dX12_plan_155 rfl (lv_at hl_46 1 rfl) ?_
              refine mgtX12_29_0 F I_45 dX12_plan_156 ?_
              refine lv_iload hx hb dX12_plan_159 (lv_at hl_46 2 rfl) ?_
              obtain ⟨g47, hf⟩ := ri_some hf
              refine mal6 F I_45 g47 dX12_plan_161 ?_
              refine lv_topi (fun x48 ex48 => ?_)
              replace hf := nm_some ex48 hf
              refine lv_istore (lv' := [(6, .int x48), (5, .int r42), (0, .ref (ad 0)), (4, .int x31)]) hx hb dX12_plan_162 hl_46 (by decide) rfl (fun ls_49 hl_49 => ?_)
              refine lv_aload_n hx hb dX12_plan_164 rfl (lv_at hl_49 2 rfl) ?_
              refine mgtX12_29_0 F I_45 dX12_plan_165 ?_
              refine lv_iload hx hb dX12_plan_168 (lv_at hl_49 3 rfl) ?_
              refine lv_aload_n hx hb dX12_plan_170 rfl (lv_at hl_49 2 rfl) ?_
              refine mgtX12_29_0 F I_45 dX12_plan_171 ?_
              refine lv_iload hx hb dX12_plan_174 (lv_at hl_49 1 rfl) ?_
              obtain ⟨g50, hf⟩ := ri_some hf
              refine mal6 F I_45 g50 dX12_plan_176 ?_
              obtain ⟨g51, hf⟩ := ri_some hf
              refine mas6 F I_45 g51 dX12_plan_177 ?_
              intro H_53 lo_53 G52 eG52 I_53
              replace hf := nm_some eG52 hf
              refine lv_aload_n hx hb dX12_plan_178 rfl (lv_at hl_49 2 rfl) ?_
              refine mgtX12_29_0 F I_53 dX12_plan_179 ?_
              refine lv_iload hx hb dX12_plan_182 (lv_at hl_49 1 rfl) ?_
              refine lv_iload hx hb dX12_plan_184 (lv_at hl_49 0 rfl) ?_
              obtain ⟨g54, hf⟩ := ri_some hf
              refine mas6 F I_53 g54 dX12_plan_186 ?_
              intro H_56 lo_56 G55 eG55 I_56
              replace hf := nm_some eG55 hf
              obtain ⟨x57, ex57⟩ : ∃ y : Int32, y = x31 + (-1 : Int32) := ⟨_, rfl⟩
              replace hf := nm_some ex57 hf
              refine lv_iinc (v := x57) (lv' := [(4, .int x57), (6, .int x48), (5, .int r42), (0, .ref (ad 0))]) hx hb dX12_plan_187 hl_49 (k := 3) rfl (by rw [ex57]; rfl) (by decide) rfl (fun ls_58 hl_58 => ?_)
              refine lv_goto (tgt := 140) hx hb dX12_plan_190 (by decide) ?_
              cases hf
              exact ih2 _ _ _ hK2 H_56 lo_56 I_56 ls_58 (lv_sub hl_58 [3, 0] rfl)
        exact L2 FU _ _ _ hq2 H_26 lo_26 I_26 ls_30 (lv_sub hl_30 [1, 0] rfl)
      have L1 : ∀ (n : Nat) (x21 : Int32) (G22 : Nat → Nat → Int32) (E23 : Nat → Nat → Int64), lp (fun q => M_plan_s1 q.1 q.2.1 q.2.2) n (x21, G22, E23) = some (G24, E25) → ∀ (H : Heap) (locs : List Loc), sInv D (mT cI cJ cD) (mW ad cI cJ cD) A s H locs (G22, E23, Dd) → ∀ (ls : Array Slot), lv_has ls 7 [(0, .ref (ad 0)), (4, .int x21)] → W p l e R s m args below meth c H locs 0 0 Q (F0 m 67 ls []) := by
        intro n
        induction n with
        | zero => intro x21 G22 E23 hq; exact (lp_0 hq).elim
        | succ n ih1 =>
          intro x21 G22 E23 hq H_60 lo_60 I_60 ls_61 hl_61
          obtain ⟨y1, hf, hK1⟩ := lp_go hq
          replace hf : M_plan_s1 x21 G22 E23 = some y1 := hf
          unfold M_plan_s1 at hf
          refine lv_iload hx hb dX12_plan_67 (lv_at hl_61 1 rfl) ?_
          refine lv_aload_n hx hb dX12_plan_69 rfl (lv_at hl_61 0 rfl) ?_
          refine mgtX12_105_0 F I_60 dX12_plan_70 ?_
          refine lv_icmp_ge (tgt := 132) hx hb dX12_plan_73 (by decide) (fun c82 => ?_) (fun c82 => ?_)
          · replace hf := (if_pos c82).symm.trans hf
            cases hf
            cases (show (G22, E23) = (G24, E25) from hK1)
            exact K1 H_60 lo_60 I_60 ls_61 (lv_sub hl_61 [0] rfl)
          · replace hf := (if_neg c82).symm.trans hf
            refine lv_aload_n hx hb dX12_plan_76 rfl (lv_at hl_61 0 rfl) ?_
            refine mgtX12_29_0 F I_60 dX12_plan_77 ?_
            refine lv_iload hx hb dX12_plan_80 (lv_at hl_61 1 rfl) ?_
            refine lv_aload_n hx hb dX12_plan_82 rfl (lv_at hl_61 0 rfl) ?_
            refine lv_iconst (v := (2 : Int32)) hx hb dX12_plan_83 (by decide) ?_
            obtain ⟨r63, E64, h65, hf⟩ := bd2_some hf
            refine s_callVi (As := [.int (2 : Int32)]) (rest := [.int x21, .ref (ad 6)]) F I_60 (cM_draw G22 E23 Dd (2 : Int32) r63 E64 h65) kX12_134 ⟨rfl, rfl⟩ ⟨Nat.le_trans (Nat.le_of_ble_eq_true rfl) hRf, Nat.le_trans (Nat.le_of_ble_eq_true rfl) hRl⟩ (0) 12 rfl rfl rfl rfl rfl hl_61.1 (Nat.le_of_ble_eq_true rfl) ⟨Nat.zero_le _, Nat.zero_le _⟩ dX12_plan_84 ?_
            intro H_66 lo_66 I_66
            refine lv_iconst (v := (1 : Int32)) hx hb dX12_plan_87 (by decide) ?_
            obtain ⟨x68, hv77, hf⟩ := bd_some hf
            have J67 : ∀ (H : Heap) (locs : List Loc), sInv D (mT cI cJ cD) (mW ad cI cJ cD) A s H locs (G22, E64, Dd) → ∀ (ls : Array Slot), lv_has ls 7 [(0, .ref (ad 0)), (4, .int x21)] → W p l e R s m args below meth c H locs 0 0 Q (F0 m 125 ls [.int x68, .int x21, .ref (ad 6)]) := by
              intro H_69 lo_69 I_69 ls_70 hl_70
              obtain ⟨g72, hf⟩ := ri_some hf
              refine mas6 F I_69 g72 dX12_plan_125 ?_
              intro H_74 lo_74 G73 eG73 I_74
              replace hf := nm_some eG73 hf
              obtain ⟨x75, ex75⟩ : ∃ y : Int32, y = x21 + (1 : Int32) := ⟨_, rfl⟩
              replace hf := nm_some ex75 hf
              refine lv_iinc (v := x75) (lv' := [(4, .int x75), (0, .ref (ad 0))]) hx hb dX12_plan_126 hl_70 (k := 1) rfl (by rw [ex75]; rfl) (by decide) rfl (fun ls_76 hl_76 => ?_)
              refine lv_goto (tgt := 67) hx hb dX12_plan_129 (by decide) ?_
              cases hf
              exact ih1 _ _ _ hK1 H_74 lo_74 I_74 ls_76 (lv_sub hl_76 [1, 0] rfl)
            replace hf := hv77
            refine lv_icmp_ne (tgt := 118) hx hb dX12_plan_88 (by decide) (fun c81 => ?_) (fun c81 => ?_)
            · replace hf := (if_neg c81).symm.trans hf
              refine lv_aload_n hx hb dX12_plan_118 rfl (lv_at hl_61 0 rfl) ?_
              refine mgtX12_29_0 F I_66 dX12_plan_119 ?_
              refine lv_iload hx hb dX12_plan_122 (lv_at hl_61 1 rfl) ?_
              obtain ⟨g78, hf⟩ := ri_some hf
              refine mal6 F I_66 g78 dX12_plan_124 ?_
              cases hf
              exact J67 H_66 lo_66 I_66 ls_61 (lv_sub hl_61 [0, 1] rfl)
            · replace hf := (if_pos c81).symm.trans hf
              refine lv_bipush (v := (10 : Int32)) hx hb dX12_plan_91 (by decide) ?_
              refine lv_aload_n hx hb dX12_plan_93 rfl (lv_at hl_61 0 rfl) ?_
              refine mgtX12_29_0 F I_66 dX12_plan_94 ?_
              refine lv_iload hx hb dX12_plan_97 (lv_at hl_61 1 rfl) ?_
              obtain ⟨g79, hf⟩ := ri_some hf
              refine mal6 F I_66 g79 dX12_plan_99 ?_
              refine lv_bipush (v := (10 : Int32)) hx hb dX12_plan_100 (by decide) ?_
              refine lv_irem hx hb dX12_plan_102 (by decide) ?_
              refine lv_imul hx hb dX12_plan_103 ?_
              refine lv_aload_n hx hb dX12_plan_104 rfl (lv_at hl_61 0 rfl) ?_
              refine mgtX12_29_0 F I_66 dX12_plan_105 ?_
              refine lv_iload hx hb dX12_plan_108 (lv_at hl_61 1 rfl) ?_
              obtain ⟨g80, hf⟩ := ri_some hf
              refine mal6 F I_66 g80 dX12_plan_110 ?_
              refine lv_bipush (v := (10 : Int32)) hx hb dX12_plan_111 (by decide) ?_
              refine lv_idiv hx hb dX12_plan_113 (by decide) ?_
              refine lv_iadd hx hb dX12_plan_114 ?_
              refine lv_goto (tgt := 125) hx hb dX12_plan_115 (by decide) ?_
              cases hf
              exact J67 H_66 lo_66 I_66 ls_61 (lv_sub hl_61 [0, 1] rfl)
      exact L1 FU _ _ _ hq1 H_19 lo_19 I_19 ls_20 (lv_sub hl_20 [1, 0] rfl)
    · replace hf := (if_neg c83).symm.trans hf
      refine lv_iconst (v := (0 : Int32)) hx hb dX12_plan_41 (by decide) ?_
      cases hf
      exact ret H_10 lo_10 _ ls_7 I_10 dX12_plan_42
  replace hf := hv84
  refine lv_if_ne (tgt := 13) hx hb dX12_plan_6 (by decide) (fun c90 => ?_) (fun c90 => ?_)
  · replace hf := (if_neg c90).symm.trans hf
    refine lv_iload_n hx hb dX12_plan_13 rfl (lv_at hl 2 rfl) ?_
    refine lv_iconst (v := (1 : Int32)) hx hb dX12_plan_14 (by decide) ?_
    refine lv_iconst (v := (2 : Int32)) hx hb dX12_plan_15 (by decide) ?_
    obtain ⟨r85, h86, hf⟩ := bd_some hf
    refine s_callSi (As := [.int a1, .int (1 : Int32), .int (2 : Int32)]) (rest := [.ref (ad 0)]) F I_3 (cM_within G E Dd a1 (1 : Int32) (2 : Int32) r85 h86) kX12_95 ⟨rfl, rfl⟩ ⟨Nat.le_trans (Nat.le_of_ble_eq_true rfl) hRf, Nat.le_trans (Nat.le_of_ble_eq_true rfl) hRl⟩ rfl rfl hl.1 (Nat.le_of_ble_eq_true rfl) ⟨Nat.zero_le _, Nat.zero_le _⟩ dX12_plan_16 ?_
    intro H_87 lo_87 I_87
    refine lv_if_eq (tgt := 30) hx hb dX12_plan_19 (by decide) (fun c89 => ?_) (fun c89 => ?_)
    · replace hf := (if_pos c89).symm.trans hf
      refine lv_iconst (v := (2 : Int32)) hx hb dX12_plan_30 (by decide) ?_
      cases hf
      exact J4 H_87 lo_87 I_87 ls (lv_sub hl [0, 1, 2, 3] rfl)
    · replace hf := (if_neg c89).symm.trans hf
      refine lv_iload_n hx hb dX12_plan_22 rfl (lv_at hl 3 rfl) ?_
      refine lv_if_lt (tgt := 30) hx hb dX12_plan_23 (by decide) (fun c88 => ?_) (fun c88 => ?_)
      · replace hf := (if_pos c88).symm.trans hf
        refine lv_iconst (v := (2 : Int32)) hx hb dX12_plan_30 (by decide) ?_
        cases hf
        exact J4 H_87 lo_87 I_87 ls (lv_sub hl [0, 1, 2, 3] rfl)
      · replace hf := (if_neg c88).symm.trans hf
        refine lv_iconst (v := (0 : Int32)) hx hb dX12_plan_26 (by decide) ?_
        refine lv_goto (tgt := 31) hx hb dX12_plan_27 (by decide) ?_
        cases hf
        exact J4 H_87 lo_87 I_87 ls (lv_sub hl [0, 1, 2, 3] rfl)
  · replace hf := (if_pos c90).symm.trans hf
    refine lv_iconst (v := (1 : Int32)) hx hb dX12_plan_9 (by decide) ?_
    refine lv_goto (tgt := 31) hx hb dX12_plan_10 (by decide) ?_
    cases hf
    exact J4 H_3 lo_3 I_3 ls (lv_sub hl [0, 1, 2, 3] rfl)
def M_trial (G : Nat → Nat → Int32) (a0 : Int32) (a1 : Int32) : Option (Int32 × (Nat → Nat → Int32)) :=
bd (if G 9 0 = (-1 : Int32) then
(some (1 : Int32))
else
(bd (M_within a0 (0 : Int32) ((G 10 0) - (1 : Int32))) fun r13 =>
if r13 = 0 then
(some (2 : Int32))
else
(some (0 : Int32)))) fun x2 =>
nm (wf G 0 x2) fun G6 =>
if G6 0 0 ≤ 0 then
(if a1 = 0 then
(ri 56 a0 <|
some ((G6 12 a0.toNatClampNeg) / (10 : Int32), G6))
else
(ri 56 a0 <|
some ((G6 12 a0.toNatClampNeg) - (G6 12 a0.toNatClampNeg) / (10 : Int32) * (10 : Int32), G6)))
else
(some ((0 : Int32), G6))
set_option maxRecDepth 100000 in
set_option maxHeartbeats 4000000 in
theorem cM_trial (G : Nat → Nat → Int32) (E : Nat → Nat → Int64) (Dd : Nat → Nat → UInt64) (a0 : Int32) (a1 : Int32) (rv : Int32) (newG : Nat → Nat → Int32) (hf : M_trial G a0 a1 = some (rv, newG)) : sMi D (mT cI cJ cD) (mW ad cI cJ cD) l yX12_trial (ws1 yX12_trial cX12_trial 3 (some .int)) ({ frames := 1, cells := 0, slots := 0, locals := 22 }) [.ref (ad 0), .int a0, .int a1] (G, E, Dd) (rv, (newG, E, Dd)) := by
  unfold M_trial at hf
  refine sMi_of (by decide) (Nat.le_of_ble_eq_true rfl) ?_
  intro p e R s m args below meth c A Q ls H lo F hRf hRl I hl ret
  obtain ⟨hx, hb, hml, hown, hG⟩ := id F
  replace hl : lv_has ls 3 [(0, .ref (ad 0)), (1, .int a0), (2, .int a1)] := hl
  refine lv_aload_n hx hb dX12_trial_0 rfl (lv_at hl 0 rfl) ?_
  refine lv_aload_n hx hb dX12_trial_1 rfl (lv_at hl 0 rfl) ?_
  refine mgtX12_25_0 F I dX12_trial_2 ?_
  refine lv_iconst (v := (-1 : Int32)) hx hb dX12_trial_5 (by decide) ?_
  obtain ⟨x2, hv12, hf⟩ := bd_some hf
  have J1 : ∀ (H : Heap) (locs : List Loc), sInv D (mT cI cJ cD) (mW ad cI cJ cD) A s H locs (G, E, Dd) → ∀ (ls : Array Slot), lv_has ls 3 [(0, .ref (ad 0)), (1, .int a0), (2, .int a1)] → W p l e R s m args below meth c H locs 0 0 Q (F0 m 32 ls [.int x2, .ref (ad 0)]) := by
    intro H_3 lo_3 I_3 ls_4 hl_4
    refine mptX12_89_0 F I_3 dX12_trial_32 ?_
    intro H_7 lo_7 G6 eG6 I_7
    replace hf := nm_some eG6 hf
    refine lv_aload_n hx hb dX12_trial_35 rfl (lv_at hl_4 0 rfl) ?_
    refine mgtX12_89_0 F I_7 dX12_trial_36 ?_
    refine lv_if_le (tgt := 46) hx hb dX12_trial_39 (by decide) (fun c11 => ?_) (fun c11 => ?_)
    · replace hf := (if_pos c11).symm.trans hf
      refine lv_iload_n hx hb dX12_trial_46 rfl (lv_at hl_4 2 rfl) ?_
      refine lv_if_eq (tgt := 62) hx hb dX12_trial_47 (by decide) (fun c10 => ?_) (fun c10 => ?_)
      · replace hf := (if_pos c10).symm.trans hf
        refine lv_aload_n hx hb dX12_trial_62 rfl (lv_at hl_4 0 rfl) ?_
        refine mgtX12_29_0 F I_7 dX12_trial_63 ?_
        refine lv_iload_n hx hb dX12_trial_66 rfl (lv_at hl_4 1 rfl) ?_
        obtain ⟨g8, hf⟩ := ri_some hf
        refine mal6 F I_7 g8 dX12_trial_67 ?_
        refine lv_bipush (v := (10 : Int32)) hx hb dX12_trial_68 (by decide) ?_
        refine lv_idiv hx hb dX12_trial_70 (by decide) ?_
        cases hf
        exact ret H_7 lo_7 _ ls_4 I_7 dX12_trial_71
      · replace hf := (if_neg c10).symm.trans hf
        refine lv_aload_n hx hb dX12_trial_50 rfl (lv_at hl_4 0 rfl) ?_
        refine mgtX12_29_0 F I_7 dX12_trial_51 ?_
        refine lv_iload_n hx hb dX12_trial_54 rfl (lv_at hl_4 1 rfl) ?_
        obtain ⟨g9, hf⟩ := ri_some hf
        refine mal6 F I_7 g9 dX12_trial_55 ?_
        refine lv_bipush (v := (10 : Int32)) hx hb dX12_trial_56 (by decide) ?_
        refine lv_irem hx hb dX12_trial_58 (by decide) ?_
        refine lv_goto (tgt := 71) hx hb dX12_trial_59 (by decide) ?_
        cases hf
        exact ret H_7 lo_7 _ ls_4 I_7 dX12_trial_71
    · replace hf := (if_neg c11).symm.trans hf
      refine lv_iconst (v := (0 : Int32)) hx hb dX12_trial_42 (by decide) ?_
      refine lv_goto (tgt := 71) hx hb dX12_trial_43 (by decide) ?_
      cases hf
      exact ret H_7 lo_7 _ ls_4 I_7 dX12_trial_71
  replace hf := hv12
  refine lv_icmp_ne (tgt := 13) hx hb dX12_trial_6 (by decide) (fun c17 => ?_) (fun c17 => ?_)
  · replace hf := (if_neg c17).symm.trans hf
    refine lv_iload_n hx hb dX12_trial_13 rfl (lv_at hl 1 rfl) ?_
    refine lv_iconst (v := (0 : Int32)) hx hb dX12_trial_14 (by decide) ?_
    refine lv_aload_n hx hb dX12_trial_15 rfl (lv_at hl 0 rfl) ?_
    refine mgtX12_105_0 F I dX12_trial_16 ?_
    refine lv_iconst (v := (1 : Int32)) hx hb dX12_trial_19 (by decide) ?_
    refine lv_isub hx hb dX12_trial_20 ?_
    obtain ⟨r13, h14, hf⟩ := bd_some hf
    refine s_callSi (As := [.int a0, .int (0 : Int32), .int ((G 10 0) - (1 : Int32))]) (rest := [.ref (ad 0)]) F I (cM_within G E Dd a0 (0 : Int32) ((G 10 0) - (1 : Int32)) r13 h14) kX12_95 ⟨rfl, rfl⟩ ⟨Nat.le_trans (Nat.le_of_ble_eq_true rfl) hRf, Nat.le_trans (Nat.le_of_ble_eq_true rfl) hRl⟩ rfl rfl hl.1 (Nat.le_of_ble_eq_true rfl) ⟨Nat.zero_le _, Nat.zero_le _⟩ dX12_trial_21 ?_
    intro H_15 lo_15 I_15
    refine lv_if_eq (tgt := 31) hx hb dX12_trial_24 (by decide) (fun c16 => ?_) (fun c16 => ?_)
    · replace hf := (if_pos c16).symm.trans hf
      refine lv_iconst (v := (2 : Int32)) hx hb dX12_trial_31 (by decide) ?_
      cases hf
      exact J1 H_15 lo_15 I_15 ls (lv_sub hl [0, 1, 2] rfl)
    · replace hf := (if_neg c16).symm.trans hf
      refine lv_iconst (v := (0 : Int32)) hx hb dX12_trial_27 (by decide) ?_
      refine lv_goto (tgt := 32) hx hb dX12_trial_28 (by decide) ?_
      cases hf
      exact J1 H_15 lo_15 I_15 ls (lv_sub hl [0, 1, 2] rfl)
  · replace hf := (if_pos c17).symm.trans hf
    refine lv_iconst (v := (1 : Int32)) hx hb dX12_trial_9 (by decide) ?_
    refine lv_goto (tgt := 32) hx hb dX12_trial_10 (by decide) ?_
    cases hf
    exact J1 H lo I ls (lv_sub hl [0, 1, 2] rfl)
def M_packed (G : Nat → Nat → Int32) (a0 : Int32) : Option (Int32) :=
ri 48 a0 <|
ri 48 a0 <|
ri 48 a0 <|
ri 48 a0 <|
some (((((1000 : Int32) * (G 5 a0.toNatClampNeg)) + ((100 : Int32) * (G 6 a0.toNatClampNeg))) + ((10 : Int32) * (G 7 a0.toNatClampNeg))) + (G 8 a0.toNatClampNeg))
set_option maxRecDepth 100000 in
set_option maxHeartbeats 4000000 in
theorem cM_packed (G : Nat → Nat → Int32) (E : Nat → Nat → Int64) (Dd : Nat → Nat → UInt64) (a0 : Int32) (rv : Int32)  (hf : M_packed G a0 = some rv) : sMi D (mT cI cJ cD) (mW ad cI cJ cD) l yX12_packed (ws1 yX12_packed cX12_packed 2 (some .int)) ({ frames := 0, cells := 0, slots := 0, locals := 0 }) [.ref (ad 0), .int a0] (G, E, Dd) (rv, (G, E, Dd)) := by
  unfold M_packed at hf
  refine sMi_of (by decide) (Nat.le_of_ble_eq_true rfl) ?_
  intro p e R s m args below meth c A Q ls H lo F hRf hRl I hl ret
  obtain ⟨hx, hb, hml, hown, hG⟩ := id F
  replace hl : lv_has ls 2 [(0, .ref (ad 0)), (1, .int a0)] := hl
  refine lv_sipush (v := (1000 : Int32)) hx hb dX12_packed_0 (by decide) ?_
  refine lv_aload_n hx hb dX12_packed_3 rfl (lv_at hl 0 rfl) ?_
  refine mgtX12_13_0 F I dX12_packed_4 ?_
  refine lv_iload_n hx hb dX12_packed_7 rfl (lv_at hl 1 rfl) ?_
  obtain ⟨g1, hf⟩ := ri_some hf
  refine mal2 F I g1 dX12_packed_8 ?_
  refine lv_imul hx hb dX12_packed_9 ?_
  refine lv_bipush (v := (100 : Int32)) hx hb dX12_packed_10 (by decide) ?_
  refine lv_aload_n hx hb dX12_packed_12 rfl (lv_at hl 0 rfl) ?_
  refine mgtX12_16_0 F I dX12_packed_13 ?_
  refine lv_iload_n hx hb dX12_packed_16 rfl (lv_at hl 1 rfl) ?_
  obtain ⟨g2, hf⟩ := ri_some hf
  refine mal3 F I g2 dX12_packed_17 ?_
  refine lv_imul hx hb dX12_packed_18 ?_
  refine lv_iadd hx hb dX12_packed_19 ?_
  refine lv_bipush (v := (10 : Int32)) hx hb dX12_packed_20 (by decide) ?_
  refine lv_aload_n hx hb dX12_packed_22 rfl (lv_at hl 0 rfl) ?_
  refine mgtX12_19_0 F I dX12_packed_23 ?_
  refine lv_iload_n hx hb dX12_packed_26 rfl (lv_at hl 1 rfl) ?_
  obtain ⟨g3, hf⟩ := ri_some hf
  refine mal4 F I g3 dX12_packed_27 ?_
  refine lv_imul hx hb dX12_packed_28 ?_
  refine lv_iadd hx hb dX12_packed_29 ?_
  refine lv_aload_n hx hb dX12_packed_30 rfl (lv_at hl 0 rfl) ?_
  refine mgtX12_22_0 F I dX12_packed_31 ?_
  refine lv_iload_n hx hb dX12_packed_34 rfl (lv_at hl 1 rfl) ?_
  obtain ⟨g4, hf⟩ := ri_some hf
  refine mal5 F I g4 dX12_packed_35 ?_
  refine lv_iadd hx hb dX12_packed_36 ?_
  cases hf
  exact ret H lo _ ls I dX12_packed_37
def M_unpack (G : Nat → Nat → Int32) (a0 : Int32) (a1 : Int32) : Option ((Nat → Nat → Int32)) :=
ri 48 a0 <|
nm (wr G 5 a0 (a1 / (1000 : Int32))) fun G2 =>
ri 48 a0 <|
nm (wr G2 6 a0 ((a1 / (100 : Int32)) - (a1 / (100 : Int32)) / (10 : Int32) * (10 : Int32))) fun G5 =>
ri 48 a0 <|
nm (wr G5 7 a0 ((a1 / (10 : Int32)) - (a1 / (10 : Int32)) / (10 : Int32) * (10 : Int32))) fun G8 =>
ri 48 a0 <|
nm (wr G8 8 a0 (a1 - a1 / (10 : Int32) * (10 : Int32))) fun G11 =>
some G11
set_option maxRecDepth 100000 in
set_option maxHeartbeats 4000000 in
theorem cM_unpack (G : Nat → Nat → Int32) (E : Nat → Nat → Int64) (Dd : Nat → Nat → UInt64) (a0 : Int32) (a1 : Int32)  (newG : Nat → Nat → Int32) (hf : M_unpack G a0 a1 = some newG) : sMv D (mT cI cJ cD) (mW ad cI cJ cD) l yX12_unpack (ws1 yX12_unpack cX12_unpack 3 none) ({ frames := 0, cells := 0, slots := 0, locals := 0 }) [.ref (ad 0), .int a0, .int a1] (G, E, Dd) (newG, E, Dd) := by
  unfold M_unpack at hf
  refine sMv_of (by decide) (Nat.le_of_ble_eq_true rfl) ?_
  intro p e R s m args below meth c A Q ls H lo F hRf hRl I hl ret
  obtain ⟨hx, hb, hml, hown, hG⟩ := id F
  replace hl : lv_has ls 3 [(0, .ref (ad 0)), (1, .int a0), (2, .int a1)] := hl
  refine lv_aload_n hx hb dX12_unpack_0 rfl (lv_at hl 0 rfl) ?_
  refine mgtX12_13_0 F I dX12_unpack_1 ?_
  refine lv_iload_n hx hb dX12_unpack_4 rfl (lv_at hl 1 rfl) ?_
  refine lv_iload_n hx hb dX12_unpack_5 rfl (lv_at hl 2 rfl) ?_
  refine lv_sipush (v := (1000 : Int32)) hx hb dX12_unpack_6 (by decide) ?_
  refine lv_idiv hx hb dX12_unpack_9 (by decide) ?_
  obtain ⟨g1, hf⟩ := ri_some hf
  refine mas2 F I g1 dX12_unpack_10 ?_
  intro H_3 lo_3 G2 eG2 I_3
  replace hf := nm_some eG2 hf
  refine lv_aload_n hx hb dX12_unpack_11 rfl (lv_at hl 0 rfl) ?_
  refine mgtX12_16_0 F I_3 dX12_unpack_12 ?_
  refine lv_iload_n hx hb dX12_unpack_15 rfl (lv_at hl 1 rfl) ?_
  refine lv_iload_n hx hb dX12_unpack_16 rfl (lv_at hl 2 rfl) ?_
  refine lv_bipush (v := (100 : Int32)) hx hb dX12_unpack_17 (by decide) ?_
  refine lv_idiv hx hb dX12_unpack_19 (by decide) ?_
  refine lv_bipush (v := (10 : Int32)) hx hb dX12_unpack_20 (by decide) ?_
  refine lv_irem hx hb dX12_unpack_22 (by decide) ?_
  obtain ⟨g4, hf⟩ := ri_some hf
  refine mas3 F I_3 g4 dX12_unpack_23 ?_
  intro H_6 lo_6 G5 eG5 I_6
  replace hf := nm_some eG5 hf
  refine lv_aload_n hx hb dX12_unpack_24 rfl (lv_at hl 0 rfl) ?_
  refine mgtX12_19_0 F I_6 dX12_unpack_25 ?_
  refine lv_iload_n hx hb dX12_unpack_28 rfl (lv_at hl 1 rfl) ?_
  refine lv_iload_n hx hb dX12_unpack_29 rfl (lv_at hl 2 rfl) ?_
  refine lv_bipush (v := (10 : Int32)) hx hb dX12_unpack_30 (by decide) ?_
  refine lv_idiv hx hb dX12_unpack_32 (by decide) ?_
  refine lv_bipush (v := (10 : Int32)) hx hb dX12_unpack_33 (by decide) ?_
  refine lv_irem hx hb dX12_unpack_35 (by decide) ?_
  obtain ⟨g7, hf⟩ := ri_some hf
  refine mas4 F I_6 g7 dX12_unpack_36 ?_
  intro H_9 lo_9 G8 eG8 I_9
  replace hf := nm_some eG8 hf
  refine lv_aload_n hx hb dX12_unpack_37 rfl (lv_at hl 0 rfl) ?_
  refine mgtX12_22_0 F I_9 dX12_unpack_38 ?_
  refine lv_iload_n hx hb dX12_unpack_41 rfl (lv_at hl 1 rfl) ?_
  refine lv_iload_n hx hb dX12_unpack_42 rfl (lv_at hl 2 rfl) ?_
  refine lv_bipush (v := (10 : Int32)) hx hb dX12_unpack_43 (by decide) ?_
  refine lv_irem hx hb dX12_unpack_45 (by decide) ?_
  obtain ⟨g10, hf⟩ := ri_some hf
  refine mas5 F I_9 g10 dX12_unpack_46 ?_
  intro H_12 lo_12 G11 eG11 I_12
  replace hf := nm_some eG11 hf
  cases hf
  exact ret H_12 lo_12 _ ls I_12 dX12_unpack_47
def M_dropOldest_s3  (x16 : Int32) (G17 : Nat → Nat → Int32) : Option ((Int32 × (Nat → Nat → Int32)) ⊕ ((Nat → Nat → Int32))) :=
if (672 : Int32) ≤ x16 then
(some (.inr G17))
else
(ri 672 x16 <|
ri 672 (x16 - (56 : Int32)) <|
nm (wr G17 19 (x16 - (56 : Int32)) (G17 19 x16.toNatClampNeg)) fun G29 =>
nm (x16 + (1 : Int32) : Int32) fun x31 =>
some (.inl (x31, G29)))
def M_dropOldest_s2  (x9 : Int32) (G10 : Nat → Nat → Int32) : Option ((Int32 × (Nat → Nat → Int32)) ⊕ ((Nat → Nat → Int32))) :=
if (576 : Int32) ≤ x9 then
(some (.inr G10))
else
(ri 576 x9 <|
ri 576 (x9 - (48 : Int32)) <|
nm (wr G10 15 (x9 - (48 : Int32)) (G10 15 x9.toNatClampNeg)) fun G39 =>
nm (x9 + (1 : Int32) : Int32) fun x41 =>
some (.inl (x41, G39)))
def M_dropOldest_s1  (x2 : Int32) (G3 : Nat → Nat → Int32) : Option ((Int32 × (Nat → Nat → Int32)) ⊕ ((Nat → Nat → Int32))) :=
if (12 : Int32) ≤ x2 then
(some (.inr G3))
else
(ri 12 x2 <|
ri 12 (x2 - (1 : Int32)) <|
nm (wr G3 14 (x2 - (1 : Int32)) (G3 14 x2.toNatClampNeg)) fun G49 =>
ri 12 x2 <|
ri 12 (x2 - (1 : Int32)) <|
nm (wr G49 16 (x2 - (1 : Int32)) (G49 16 x2.toNatClampNeg)) fun G53 =>
ri 12 x2 <|
ri 12 (x2 - (1 : Int32)) <|
nm (wr G53 17 (x2 - (1 : Int32)) (G53 17 x2.toNatClampNeg)) fun G57 =>
ri 12 x2 <|
ri 12 (x2 - (1 : Int32)) <|
nm (wr G57 18 (x2 - (1 : Int32)) (G57 18 x2.toNatClampNeg)) fun G61 =>
nm (x2 + (1 : Int32) : Int32) fun x63 =>
some (.inl (x63, G61)))
def M_dropOldest (G : Nat → Nat → Int32) : Option ((Nat → Nat → Int32)) :=
bd (lp (fun q => M_dropOldest_s1 q.1 q.2) FU ((1 : Int32), G)) fun G4 =>
bd (lp (fun q => M_dropOldest_s2 q.1 q.2) FU ((48 : Int32), G4)) fun G11 =>
bd (lp (fun q => M_dropOldest_s3 q.1 q.2) FU ((56 : Int32), G11)) fun G18 =>
nm (wf G18 13 ((G18 13 0) - (1 : Int32))) fun G22 =>
some G22
set_option maxRecDepth 100000 in
set_option maxHeartbeats 4000000 in
theorem cM_dropOldest (G : Nat → Nat → Int32) (E : Nat → Nat → Int64) (Dd : Nat → Nat → UInt64)   (newG : Nat → Nat → Int32) (hf : M_dropOldest G = some newG) : sMv D (mT cI cJ cD) (mW ad cI cJ cD) l yX12_dropOldest (ws1 yX12_dropOldest cX12_dropOldest 2 none) ({ frames := 0, cells := 0, slots := 0, locals := 0 }) [.ref (ad 0)] (G, E, Dd) (newG, E, Dd) := by
  unfold M_dropOldest at hf
  refine sMv_of (by decide) (Nat.le_of_ble_eq_true rfl) ?_
  intro p e R s m args below meth c A Q ls H lo F hRf hRl I hl ret
  obtain ⟨hx, hb, hml, hown, hG⟩ := id F
  replace hl : lv_has ls 2 [(0, .ref (ad 0))] := hl
  refine lv_iconst (v := (1 : Int32)) hx hb dX12_dropOldest_0 (by decide) ?_
  refine lv_istore_n (lv' := [(1, .int (1 : Int32)), (0, .ref (ad 0))]) hx hb dX12_dropOldest_1 rfl hl (by decide) rfl (fun ls_1 hl_1 => ?_)
  obtain ⟨G4, hq1, hf⟩ := bd_some hf
  have K1 : ∀ (H : Heap) (locs : List Loc), sInv D (mT cI cJ cD) (mW ad cI cJ cD) A s H locs (G4, E, Dd) → ∀ (ls : Array Slot), lv_has ls 2 [(0, .ref (ad 0))] → W p l e R s m args below meth c H locs 0 0 Q (F0 m 70 ls []) := by
    intro H_5 lo_5 I_5 ls_6 hl_6
    refine lv_bipush (v := (48 : Int32)) hx hb dX12_dropOldest_70 (by decide) ?_
    refine lv_istore_n (lv' := [(1, .int (48 : Int32)), (0, .ref (ad 0))]) hx hb dX12_dropOldest_72 rfl hl_6 (by decide) rfl (fun ls_8 hl_8 => ?_)
    obtain ⟨G11, hq2, hf⟩ := bd_some hf
    have K2 : ∀ (H : Heap) (locs : List Loc), sInv D (mT cI cJ cD) (mW ad cI cJ cD) A s H locs (G11, E, Dd) → ∀ (ls : Array Slot), lv_has ls 2 [(0, .ref (ad 0))] → W p l e R s m args below meth c H locs 0 0 Q (F0 m 101 ls []) := by
      intro H_12 lo_12 I_12 ls_13 hl_13
      refine lv_bipush (v := (56 : Int32)) hx hb dX12_dropOldest_101 (by decide) ?_
      refine lv_istore_n (lv' := [(1, .int (56 : Int32)), (0, .ref (ad 0))]) hx hb dX12_dropOldest_103 rfl hl_13 (by decide) rfl (fun ls_15 hl_15 => ?_)
      obtain ⟨G18, hq3, hf⟩ := bd_some hf
      have K3 : ∀ (H : Heap) (locs : List Loc), sInv D (mT cI cJ cD) (mW ad cI cJ cD) A s H locs (G18, E, Dd) → ∀ (ls : Array Slot), lv_has ls 2 [(0, .ref (ad 0))] → W p l e R s m args below meth c H locs 0 0 Q (F0 m 132 ls []) := by
        intro H_19 lo_19 I_19 ls_20 hl_20
        refine lv_aload_n hx hb dX12_dropOldest_132 rfl (lv_at hl_20 0 rfl) ?_
        refine lv_dup hx hb dX12_dropOldest_133 rfl ?_
        refine mgtX12_111_0 F I_19 dX12_dropOldest_134 ?_
        refine lv_iconst (v := (1 : Int32)) hx hb dX12_dropOldest_137 (by decide) ?_
        refine lv_isub hx hb dX12_dropOldest_138 ?_
        refine mptX12_111_0 F I_19 dX12_dropOldest_139 ?_
        intro H_23 lo_23 G22 eG22 I_23
        replace hf := nm_some eG22 hf
        cases hf
        exact ret H_23 lo_23 _ ls_20 I_23 dX12_dropOldest_142
      have L3 : ∀ (n : Nat) (x16 : Int32) (G17 : Nat → Nat → Int32), lp (fun q => M_dropOldest_s3 q.1 q.2) n (x16, G17) = some G18 → ∀ (H : Heap) (locs : List Loc), sInv D (mT cI cJ cD) (mW ad cI cJ cD) A s H locs (G17, E, Dd) → ∀ (ls : Array Slot), lv_has ls 2 [(0, .ref (ad 0)), (1, .int x16)] → W p l e R s m args below meth c H locs 0 0 Q (F0 m 104 ls []) := by
        intro n
        induction n with
        | zero => intro x16 G17 hq; exact (lp_0 hq).elim
        | succ n ih3 =>
          intro x16 G17 hq H_24 lo_24 I_24 ls_25 hl_25
          obtain ⟨y3, hf, hK3⟩ := lp_go hq
          replace hf : M_dropOldest_s3 x16 G17 = some y3 := hf
          unfold M_dropOldest_s3 at hf
          refine lv_iload_n hx hb dX12_dropOldest_104 rfl (lv_at hl_25 1 rfl) ?_
          refine lv_sipush (v := (672 : Int32)) hx hb dX12_dropOldest_105 (by decide) ?_
          refine lv_icmp_ge (tgt := 132) hx hb dX12_dropOldest_108 (by decide) (fun c33 => ?_) (fun c33 => ?_)
          · replace hf := (if_pos c33).symm.trans hf
            cases hf
            cases (show G17 = G18 from hK3)
            exact K3 H_24 lo_24 I_24 ls_25 (lv_sub hl_25 [0] rfl)
          · replace hf := (if_neg c33).symm.trans hf
            refine lv_aload_n hx hb dX12_dropOldest_111 rfl (lv_at hl_25 0 rfl) ?_
            refine mgtX12_47_0 F I_24 dX12_dropOldest_112 ?_
            refine lv_iload_n hx hb dX12_dropOldest_115 rfl (lv_at hl_25 1 rfl) ?_
            refine lv_bipush (v := (56 : Int32)) hx hb dX12_dropOldest_116 (by decide) ?_
            refine lv_isub hx hb dX12_dropOldest_118 ?_
            refine lv_aload_n hx hb dX12_dropOldest_119 rfl (lv_at hl_25 0 rfl) ?_
            refine mgtX12_47_0 F I_24 dX12_dropOldest_120 ?_
            refine lv_iload_n hx hb dX12_dropOldest_123 rfl (lv_at hl_25 1 rfl) ?_
            obtain ⟨g27, hf⟩ := ri_some hf
            refine mal12 F I_24 g27 dX12_dropOldest_124 ?_
            obtain ⟨g28, hf⟩ := ri_some hf
            refine mas12 F I_24 g28 dX12_dropOldest_125 ?_
            intro H_30 lo_30 G29 eG29 I_30
            replace hf := nm_some eG29 hf
            obtain ⟨x31, ex31⟩ : ∃ y : Int32, y = x16 + (1 : Int32) := ⟨_, rfl⟩
            replace hf := nm_some ex31 hf
            refine lv_iinc (v := x31) (lv' := [(1, .int x31), (0, .ref (ad 0))]) hx hb dX12_dropOldest_126 hl_25 (k := 1) rfl (by rw [ex31]; rfl) (by decide) rfl (fun ls_32 hl_32 => ?_)
            refine lv_goto (tgt := 104) hx hb dX12_dropOldest_129 (by decide) ?_
            cases hf
            exact ih3 _ _ hK3 H_30 lo_30 I_30 ls_32 (lv_sub hl_32 [1, 0] rfl)
      exact L3 FU _ _ hq3 H_12 lo_12 I_12 ls_15 (lv_sub hl_15 [1, 0] rfl)
    have L2 : ∀ (n : Nat) (x9 : Int32) (G10 : Nat → Nat → Int32), lp (fun q => M_dropOldest_s2 q.1 q.2) n (x9, G10) = some G11 → ∀ (H : Heap) (locs : List Loc), sInv D (mT cI cJ cD) (mW ad cI cJ cD) A s H locs (G10, E, Dd) → ∀ (ls : Array Slot), lv_has ls 2 [(0, .ref (ad 0)), (1, .int x9)] → W p l e R s m args below meth c H locs 0 0 Q (F0 m 73 ls []) := by
      intro n
      induction n with
      | zero => intro x9 G10 hq; exact (lp_0 hq).elim
      | succ n ih2 =>
        intro x9 G10 hq H_34 lo_34 I_34 ls_35 hl_35
        obtain ⟨y2, hf, hK2⟩ := lp_go hq
        replace hf : M_dropOldest_s2 x9 G10 = some y2 := hf
        unfold M_dropOldest_s2 at hf
        refine lv_iload_n hx hb dX12_dropOldest_73 rfl (lv_at hl_35 1 rfl) ?_
        refine lv_sipush (v := (576 : Int32)) hx hb dX12_dropOldest_74 (by decide) ?_
        refine lv_icmp_ge (tgt := 101) hx hb dX12_dropOldest_77 (by decide) (fun c43 => ?_) (fun c43 => ?_)
        · replace hf := (if_pos c43).symm.trans hf
          cases hf
          cases (show G10 = G11 from hK2)
          exact K2 H_34 lo_34 I_34 ls_35 (lv_sub hl_35 [0] rfl)
        · replace hf := (if_neg c43).symm.trans hf
          refine lv_aload_n hx hb dX12_dropOldest_80 rfl (lv_at hl_35 0 rfl) ?_
          refine mgtX12_35_0 F I_34 dX12_dropOldest_81 ?_
          refine lv_iload_n hx hb dX12_dropOldest_84 rfl (lv_at hl_35 1 rfl) ?_
          refine lv_bipush (v := (48 : Int32)) hx hb dX12_dropOldest_85 (by decide) ?_
          refine lv_isub hx hb dX12_dropOldest_87 ?_
          refine lv_aload_n hx hb dX12_dropOldest_88 rfl (lv_at hl_35 0 rfl) ?_
          refine mgtX12_35_0 F I_34 dX12_dropOldest_89 ?_
          refine lv_iload_n hx hb dX12_dropOldest_92 rfl (lv_at hl_35 1 rfl) ?_
          obtain ⟨g37, hf⟩ := ri_some hf
          refine mal8 F I_34 g37 dX12_dropOldest_93 ?_
          obtain ⟨g38, hf⟩ := ri_some hf
          refine mas8 F I_34 g38 dX12_dropOldest_94 ?_
          intro H_40 lo_40 G39 eG39 I_40
          replace hf := nm_some eG39 hf
          obtain ⟨x41, ex41⟩ : ∃ y : Int32, y = x9 + (1 : Int32) := ⟨_, rfl⟩
          replace hf := nm_some ex41 hf
          refine lv_iinc (v := x41) (lv' := [(1, .int x41), (0, .ref (ad 0))]) hx hb dX12_dropOldest_95 hl_35 (k := 1) rfl (by rw [ex41]; rfl) (by decide) rfl (fun ls_42 hl_42 => ?_)
          refine lv_goto (tgt := 73) hx hb dX12_dropOldest_98 (by decide) ?_
          cases hf
          exact ih2 _ _ hK2 H_40 lo_40 I_40 ls_42 (lv_sub hl_42 [1, 0] rfl)
    exact L2 FU _ _ hq2 H_5 lo_5 I_5 ls_8 (lv_sub hl_8 [1, 0] rfl)
  have L1 : ∀ (n : Nat) (x2 : Int32) (G3 : Nat → Nat → Int32), lp (fun q => M_dropOldest_s1 q.1 q.2) n (x2, G3) = some G4 → ∀ (H : Heap) (locs : List Loc), sInv D (mT cI cJ cD) (mW ad cI cJ cD) A s H locs (G3, E, Dd) → ∀ (ls : Array Slot), lv_has ls 2 [(0, .ref (ad 0)), (1, .int x2)] → W p l e R s m args below meth c H locs 0 0 Q (F0 m 2 ls []) := by
    intro n
    induction n with
    | zero => intro x2 G3 hq; exact (lp_0 hq).elim
    | succ n ih1 =>
      intro x2 G3 hq H_44 lo_44 I_44 ls_45 hl_45
      obtain ⟨y1, hf, hK1⟩ := lp_go hq
      replace hf : M_dropOldest_s1 x2 G3 = some y1 := hf
      unfold M_dropOldest_s1 at hf
      refine lv_iload_n hx hb dX12_dropOldest_2 rfl (lv_at hl_45 1 rfl) ?_
      refine lv_bipush (v := (12 : Int32)) hx hb dX12_dropOldest_3 (by decide) ?_
      refine lv_icmp_ge (tgt := 70) hx hb dX12_dropOldest_5 (by decide) (fun c65 => ?_) (fun c65 => ?_)
      · replace hf := (if_pos c65).symm.trans hf
        cases hf
        cases (show G3 = G4 from hK1)
        exact K1 H_44 lo_44 I_44 ls_45 (lv_sub hl_45 [0] rfl)
      · replace hf := (if_neg c65).symm.trans hf
        refine lv_aload_n hx hb dX12_dropOldest_8 rfl (lv_at hl_45 0 rfl) ?_
        refine mgtX12_32_0 F I_44 dX12_dropOldest_9 ?_
        refine lv_iload_n hx hb dX12_dropOldest_12 rfl (lv_at hl_45 1 rfl) ?_
        refine lv_iconst (v := (1 : Int32)) hx hb dX12_dropOldest_13 (by decide) ?_
        refine lv_isub hx hb dX12_dropOldest_14 ?_
        refine lv_aload_n hx hb dX12_dropOldest_15 rfl (lv_at hl_45 0 rfl) ?_
        refine mgtX12_32_0 F I_44 dX12_dropOldest_16 ?_
        refine lv_iload_n hx hb dX12_dropOldest_19 rfl (lv_at hl_45 1 rfl) ?_
        obtain ⟨g47, hf⟩ := ri_some hf
        refine mal7 F I_44 g47 dX12_dropOldest_20 ?_
        obtain ⟨g48, hf⟩ := ri_some hf
        refine mas7 F I_44 g48 dX12_dropOldest_21 ?_
        intro H_50 lo_50 G49 eG49 I_50
        replace hf := nm_some eG49 hf
        refine lv_aload_n hx hb dX12_dropOldest_22 rfl (lv_at hl_45 0 rfl) ?_
        refine mgtX12_38_0 F I_50 dX12_dropOldest_23 ?_
        refine lv_iload_n hx hb dX12_dropOldest_26 rfl (lv_at hl_45 1 rfl) ?_
        refine lv_iconst (v := (1 : Int32)) hx hb dX12_dropOldest_27 (by decide) ?_
        refine lv_isub hx hb dX12_dropOldest_28 ?_
        refine lv_aload_n hx hb dX12_dropOldest_29 rfl (lv_at hl_45 0 rfl) ?_
        refine mgtX12_38_0 F I_50 dX12_dropOldest_30 ?_
        refine lv_iload_n hx hb dX12_dropOldest_33 rfl (lv_at hl_45 1 rfl) ?_
        obtain ⟨g51, hf⟩ := ri_some hf
        refine mal9 F I_50 g51 dX12_dropOldest_34 ?_
        obtain ⟨g52, hf⟩ := ri_some hf
        refine mas9 F I_50 g52 dX12_dropOldest_35 ?_
        intro H_54 lo_54 G53 eG53 I_54
        replace hf := nm_some eG53 hf
        refine lv_aload_n hx hb dX12_dropOldest_36 rfl (lv_at hl_45 0 rfl) ?_
        refine mgtX12_41_0 F I_54 dX12_dropOldest_37 ?_
        refine lv_iload_n hx hb dX12_dropOldest_40 rfl (lv_at hl_45 1 rfl) ?_
        refine lv_iconst (v := (1 : Int32)) hx hb dX12_dropOldest_41 (by decide) ?_
        refine lv_isub hx hb dX12_dropOldest_42 ?_
        refine lv_aload_n hx hb dX12_dropOldest_43 rfl (lv_at hl_45 0 rfl) ?_
        refine mgtX12_41_0 F I_54 dX12_dropOldest_44 ?_
        refine lv_iload_n hx hb dX12_dropOldest_47 rfl (lv_at hl_45 1 rfl) ?_
        obtain ⟨g55, hf⟩ := ri_some hf
        refine mal10 F I_54 g55 dX12_dropOldest_48 ?_
        obtain ⟨g56, hf⟩ := ri_some hf
        refine mas10 F I_54 g56 dX12_dropOldest_49 ?_
        intro H_58 lo_58 G57 eG57 I_58
        replace hf := nm_some eG57 hf
        refine lv_aload_n hx hb dX12_dropOldest_50 rfl (lv_at hl_45 0 rfl) ?_
        refine mgtX12_44_0 F I_58 dX12_dropOldest_51 ?_
        refine lv_iload_n hx hb dX12_dropOldest_54 rfl (lv_at hl_45 1 rfl) ?_
        refine lv_iconst (v := (1 : Int32)) hx hb dX12_dropOldest_55 (by decide) ?_
        refine lv_isub hx hb dX12_dropOldest_56 ?_
        refine lv_aload_n hx hb dX12_dropOldest_57 rfl (lv_at hl_45 0 rfl) ?_
        refine mgtX12_44_0 F I_58 dX12_dropOldest_58 ?_
        refine lv_iload_n hx hb dX12_dropOldest_61 rfl (lv_at hl_45 1 rfl) ?_
        obtain ⟨g59, hf⟩ := ri_some hf
        refine mal11 F I_58 g59 dX12_dropOldest_62 ?_
        obtain ⟨g60, hf⟩ := ri_some hf
        refine mas11 F I_58 g60 dX12_dropOldest_63 ?_
        intro H_62 lo_62 G61 eG61 I_62
        replace hf := nm_some eG61 hf
        obtain ⟨x63, ex63⟩ : ∃ y : Int32, y = x2 + (1 : Int32) := ⟨_, rfl⟩
        replace hf := nm_some ex63 hf
        refine lv_iinc (v := x63) (lv' := [(1, .int x63), (0, .ref (ad 0))]) hx hb dX12_dropOldest_64 hl_45 (k := 1) rfl (by rw [ex63]; rfl) (by decide) rfl (fun ls_64 hl_64 => ?_)
        refine lv_goto (tgt := 2) hx hb dX12_dropOldest_67 (by decide) ?_
        cases hf
        exact ih1 _ _ hK1 H_62 lo_62 I_62 ls_64 (lv_sub hl_64 [1, 0] rfl)
  exact L1 FU _ _ hq1 H lo I ls_1 (lv_sub hl_1 [1, 0] rfl)
def M_keep_s2  (x26 : Int32) (G27 : Nat → Nat → Int32) : Option ((Int32 × (Nat → Nat → Int32)) ⊕ ((Nat → Nat → Int32))) :=
if G27 10 0 ≤ x26 then
(some (.inr G27))
else
(ri 56 x26 <|
ri 672 (((56 : Int32) * (G27 13 0)) + x26) <|
nm (wr G27 19 (((56 : Int32) * (G27 13 0)) + x26) (G27 12 x26.toNatClampNeg)) fun G39 =>
nm (x26 + (1 : Int32) : Int32) fun x41 =>
some (.inl (x41, G39)))
def M_keep_s1  (x19 : Int32) (G20 : Nat → Nat → Int32) : Option ((Int32 × (Nat → Nat → Int32)) ⊕ ((Nat → Nat → Int32))) :=
if G20 4 0 ≤ x19 then
(some (.inr G20))
else
(bd (M_packed G20 x19) fun r47 =>
ri 576 (((48 : Int32) * (G20 13 0)) + x19) <|
nm (wr G20 15 (((48 : Int32) * (G20 13 0)) + x19) r47) fun G51 =>
nm (x19 + (1 : Int32) : Int32) fun x53 =>
some (.inl (x53, G51)))
def M_keep (G : Nat → Nat → Int32) : Option ((Nat → Nat → Int32)) :=
bd (if G 13 0 = (12 : Int32) then
(bd (M_dropOldest G) fun G57 =>
some G57)
else
(some G)) fun G2 =>
ri 12 (G2 13 0) <|
nm (wr G2 14 (G2 13 0) (G2 4 0)) fun G7 =>
ri 12 (G7 13 0) <|
nm (wr G7 16 (G7 13 0) (G7 9 0)) fun G10 =>
ri 12 (G10 13 0) <|
nm (wr G10 17 (G10 13 0) (G10 10 0)) fun G13 =>
ri 12 (G13 13 0) <|
nm (wr G13 18 (G13 13 0) (G13 11 0)) fun G16 =>
bd (lp (fun q => M_keep_s1 q.1 q.2) FU ((0 : Int32), G16)) fun G21 =>
bd (lp (fun q => M_keep_s2 q.1 q.2) FU ((0 : Int32), G21)) fun G28 =>
nm (wf G28 13 ((G28 13 0) + (1 : Int32))) fun G32 =>
some G32
set_option maxRecDepth 100000 in
set_option maxHeartbeats 4000000 in
theorem cM_keep (G : Nat → Nat → Int32) (E : Nat → Nat → Int64) (Dd : Nat → Nat → UInt64)   (newG : Nat → Nat → Int32) (hf : M_keep G = some newG) : sMv D (mT cI cJ cD) (mW ad cI cJ cD) l yX12_keep (ws1 yX12_keep cX12_keep 2 none) ({ frames := 1, cells := 0, slots := 0, locals := 21 }) [.ref (ad 0)] (G, E, Dd) (newG, E, Dd) := by
  unfold M_keep at hf
  refine sMv_of (by decide) (Nat.le_of_ble_eq_true rfl) ?_
  intro p e R s m args below meth c A Q ls H lo F hRf hRl I hl ret
  obtain ⟨hx, hb, hml, hown, hG⟩ := id F
  replace hl : lv_has ls 2 [(0, .ref (ad 0))] := hl
  refine lv_aload_n hx hb dX12_keep_0 rfl (lv_at hl 0 rfl) ?_
  refine mgtX12_111_0 F I dX12_keep_1 ?_
  refine lv_bipush (v := (12 : Int32)) hx hb dX12_keep_4 (by decide) ?_
  obtain ⟨G2, hv56, hf⟩ := bd_some hf
  have J1 : ∀ (H : Heap) (locs : List Loc), sInv D (mT cI cJ cD) (mW ad cI cJ cD) A s H locs (G2, E, Dd) → ∀ (ls : Array Slot), lv_has ls 2 [(0, .ref (ad 0))] → W p l e R s m args below meth c H locs 0 0 Q (F0 m 13 ls []) := by
    intro H_3 lo_3 I_3 ls_4 hl_4
    refine lv_aload_n hx hb dX12_keep_13 rfl (lv_at hl_4 0 rfl) ?_
    refine mgtX12_32_0 F I_3 dX12_keep_14 ?_
    refine lv_aload_n hx hb dX12_keep_17 rfl (lv_at hl_4 0 rfl) ?_
    refine mgtX12_111_0 F I_3 dX12_keep_18 ?_
    refine lv_aload_n hx hb dX12_keep_21 rfl (lv_at hl_4 0 rfl) ?_
    refine mgtX12_102_0 F I_3 dX12_keep_22 ?_
    obtain ⟨g6, hf⟩ := ri_some hf
    refine mas7 F I_3 g6 dX12_keep_25 ?_
    intro H_8 lo_8 G7 eG7 I_8
    replace hf := nm_some eG7 hf
    refine lv_aload_n hx hb dX12_keep_26 rfl (lv_at hl_4 0 rfl) ?_
    refine mgtX12_38_0 F I_8 dX12_keep_27 ?_
    refine lv_aload_n hx hb dX12_keep_30 rfl (lv_at hl_4 0 rfl) ?_
    refine mgtX12_111_0 F I_8 dX12_keep_31 ?_
    refine lv_aload_n hx hb dX12_keep_34 rfl (lv_at hl_4 0 rfl) ?_
    refine mgtX12_25_0 F I_8 dX12_keep_35 ?_
    obtain ⟨g9, hf⟩ := ri_some hf
    refine mas9 F I_8 g9 dX12_keep_38 ?_
    intro H_11 lo_11 G10 eG10 I_11
    replace hf := nm_some eG10 hf
    refine lv_aload_n hx hb dX12_keep_39 rfl (lv_at hl_4 0 rfl) ?_
    refine mgtX12_41_0 F I_11 dX12_keep_40 ?_
    refine lv_aload_n hx hb dX12_keep_43 rfl (lv_at hl_4 0 rfl) ?_
    refine mgtX12_111_0 F I_11 dX12_keep_44 ?_
    refine lv_aload_n hx hb dX12_keep_47 rfl (lv_at hl_4 0 rfl) ?_
    refine mgtX12_105_0 F I_11 dX12_keep_48 ?_
    obtain ⟨g12, hf⟩ := ri_some hf
    refine mas10 F I_11 g12 dX12_keep_51 ?_
    intro H_14 lo_14 G13 eG13 I_14
    replace hf := nm_some eG13 hf
    refine lv_aload_n hx hb dX12_keep_52 rfl (lv_at hl_4 0 rfl) ?_
    refine mgtX12_44_0 F I_14 dX12_keep_53 ?_
    refine lv_aload_n hx hb dX12_keep_56 rfl (lv_at hl_4 0 rfl) ?_
    refine mgtX12_111_0 F I_14 dX12_keep_57 ?_
    refine lv_aload_n hx hb dX12_keep_60 rfl (lv_at hl_4 0 rfl) ?_
    refine mgtX12_108_0 F I_14 dX12_keep_61 ?_
    obtain ⟨g15, hf⟩ := ri_some hf
    refine mas11 F I_14 g15 dX12_keep_64 ?_
    intro H_17 lo_17 G16 eG16 I_17
    replace hf := nm_some eG16 hf
    refine lv_iconst (v := (0 : Int32)) hx hb dX12_keep_65 (by decide) ?_
    refine lv_istore_n (lv' := [(1, .int (0 : Int32)), (0, .ref (ad 0))]) hx hb dX12_keep_66 rfl hl_4 (by decide) rfl (fun ls_18 hl_18 => ?_)
    obtain ⟨G21, hq1, hf⟩ := bd_some hf
    have K1 : ∀ (H : Heap) (locs : List Loc), sInv D (mT cI cJ cD) (mW ad cI cJ cD) A s H locs (G21, E, Dd) → ∀ (ls : Array Slot), lv_has ls 2 [(0, .ref (ad 0))] → W p l e R s m args below meth c H locs 0 0 Q (F0 m 100 ls []) := by
      intro H_22 lo_22 I_22 ls_23 hl_23
      refine lv_iconst (v := (0 : Int32)) hx hb dX12_keep_100 (by decide) ?_
      refine lv_istore_n (lv' := [(1, .int (0 : Int32)), (0, .ref (ad 0))]) hx hb dX12_keep_101 rfl hl_23 (by decide) rfl (fun ls_25 hl_25 => ?_)
      obtain ⟨G28, hq2, hf⟩ := bd_some hf
      have K2 : ∀ (H : Heap) (locs : List Loc), sInv D (mT cI cJ cD) (mW ad cI cJ cD) A s H locs (G28, E, Dd) → ∀ (ls : Array Slot), lv_has ls 2 [(0, .ref (ad 0))] → W p l e R s m args below meth c H locs 0 0 Q (F0 m 136 ls []) := by
        intro H_29 lo_29 I_29 ls_30 hl_30
        refine lv_aload_n hx hb dX12_keep_136 rfl (lv_at hl_30 0 rfl) ?_
        refine lv_dup hx hb dX12_keep_137 rfl ?_
        refine mgtX12_111_0 F I_29 dX12_keep_138 ?_
        refine lv_iconst (v := (1 : Int32)) hx hb dX12_keep_141 (by decide) ?_
        refine lv_iadd hx hb dX12_keep_142 ?_
        refine mptX12_111_0 F I_29 dX12_keep_143 ?_
        intro H_33 lo_33 G32 eG32 I_33
        replace hf := nm_some eG32 hf
        cases hf
        exact ret H_33 lo_33 _ ls_30 I_33 dX12_keep_146
      have L2 : ∀ (n : Nat) (x26 : Int32) (G27 : Nat → Nat → Int32), lp (fun q => M_keep_s2 q.1 q.2) n (x26, G27) = some G28 → ∀ (H : Heap) (locs : List Loc), sInv D (mT cI cJ cD) (mW ad cI cJ cD) A s H locs (G27, E, Dd) → ∀ (ls : Array Slot), lv_has ls 2 [(0, .ref (ad 0)), (1, .int x26)] → W p l e R s m args below meth c H locs 0 0 Q (F0 m 102 ls []) := by
        intro n
        induction n with
        | zero => intro x26 G27 hq; exact (lp_0 hq).elim
        | succ n ih2 =>
          intro x26 G27 hq H_34 lo_34 I_34 ls_35 hl_35
          obtain ⟨y2, hf, hK2⟩ := lp_go hq
          replace hf : M_keep_s2 x26 G27 = some y2 := hf
          unfold M_keep_s2 at hf
          refine lv_iload_n hx hb dX12_keep_102 rfl (lv_at hl_35 1 rfl) ?_
          refine lv_aload_n hx hb dX12_keep_103 rfl (lv_at hl_35 0 rfl) ?_
          refine mgtX12_105_0 F I_34 dX12_keep_104 ?_
          refine lv_icmp_ge (tgt := 136) hx hb dX12_keep_107 (by decide) (fun c43 => ?_) (fun c43 => ?_)
          · replace hf := (if_pos c43).symm.trans hf
            cases hf
            cases (show G27 = G28 from hK2)
            exact K2 H_34 lo_34 I_34 ls_35 (lv_sub hl_35 [0] rfl)
          · replace hf := (if_neg c43).symm.trans hf
            refine lv_aload_n hx hb dX12_keep_110 rfl (lv_at hl_35 0 rfl) ?_
            refine mgtX12_47_0 F I_34 dX12_keep_111 ?_
            refine lv_bipush (v := (56 : Int32)) hx hb dX12_keep_114 (by decide) ?_
            refine lv_aload_n hx hb dX12_keep_116 rfl (lv_at hl_35 0 rfl) ?_
            refine mgtX12_111_0 F I_34 dX12_keep_117 ?_
            refine lv_imul hx hb dX12_keep_120 ?_
            refine lv_iload_n hx hb dX12_keep_121 rfl (lv_at hl_35 1 rfl) ?_
            refine lv_iadd hx hb dX12_keep_122 ?_
            refine lv_aload_n hx hb dX12_keep_123 rfl (lv_at hl_35 0 rfl) ?_
            refine mgtX12_29_0 F I_34 dX12_keep_124 ?_
            refine lv_iload_n hx hb dX12_keep_127 rfl (lv_at hl_35 1 rfl) ?_
            obtain ⟨g37, hf⟩ := ri_some hf
            refine mal6 F I_34 g37 dX12_keep_128 ?_
            obtain ⟨g38, hf⟩ := ri_some hf
            refine mas12 F I_34 g38 dX12_keep_129 ?_
            intro H_40 lo_40 G39 eG39 I_40
            replace hf := nm_some eG39 hf
            obtain ⟨x41, ex41⟩ : ∃ y : Int32, y = x26 + (1 : Int32) := ⟨_, rfl⟩
            replace hf := nm_some ex41 hf
            refine lv_iinc (v := x41) (lv' := [(1, .int x41), (0, .ref (ad 0))]) hx hb dX12_keep_130 hl_35 (k := 1) rfl (by rw [ex41]; rfl) (by decide) rfl (fun ls_42 hl_42 => ?_)
            refine lv_goto (tgt := 102) hx hb dX12_keep_133 (by decide) ?_
            cases hf
            exact ih2 _ _ hK2 H_40 lo_40 I_40 ls_42 (lv_sub hl_42 [1, 0] rfl)
      exact L2 FU _ _ hq2 H_22 lo_22 I_22 ls_25 (lv_sub hl_25 [1, 0] rfl)
    have L1 : ∀ (n : Nat) (x19 : Int32) (G20 : Nat → Nat → Int32), lp (fun q => M_keep_s1 q.1 q.2) n (x19, G20) = some G21 → ∀ (H : Heap) (locs : List Loc), sInv D (mT cI cJ cD) (mW ad cI cJ cD) A s H locs (G20, E, Dd) → ∀ (ls : Array Slot), lv_has ls 2 [(0, .ref (ad 0)), (1, .int x19)] → W p l e R s m args below meth c H locs 0 0 Q (F0 m 67 ls []) := by
      intro n
      induction n with
      | zero => intro x19 G20 hq; exact (lp_0 hq).elim
      | succ n ih1 =>
        intro x19 G20 hq H_44 lo_44 I_44 ls_45 hl_45
        obtain ⟨y1, hf, hK1⟩ := lp_go hq
        replace hf : M_keep_s1 x19 G20 = some y1 := hf
        unfold M_keep_s1 at hf
        refine lv_iload_n hx hb dX12_keep_67 rfl (lv_at hl_45 1 rfl) ?_
        refine lv_aload_n hx hb dX12_keep_68 rfl (lv_at hl_45 0 rfl) ?_
        refine mgtX12_102_0 F I_44 dX12_keep_69 ?_
        refine lv_icmp_ge (tgt := 100) hx hb dX12_keep_72 (by decide) (fun c55 => ?_) (fun c55 => ?_)
        · replace hf := (if_pos c55).symm.trans hf
          cases hf
          cases (show G20 = G21 from hK1)
          exact K1 H_44 lo_44 I_44 ls_45 (lv_sub hl_45 [0] rfl)
        · replace hf := (if_neg c55).symm.trans hf
          refine lv_aload_n hx hb dX12_keep_75 rfl (lv_at hl_45 0 rfl) ?_
          refine mgtX12_35_0 F I_44 dX12_keep_76 ?_
          refine lv_bipush (v := (48 : Int32)) hx hb dX12_keep_79 (by decide) ?_
          refine lv_aload_n hx hb dX12_keep_81 rfl (lv_at hl_45 0 rfl) ?_
          refine mgtX12_111_0 F I_44 dX12_keep_82 ?_
          refine lv_imul hx hb dX12_keep_85 ?_
          refine lv_iload_n hx hb dX12_keep_86 rfl (lv_at hl_45 1 rfl) ?_
          refine lv_iadd hx hb dX12_keep_87 ?_
          refine lv_aload_n hx hb dX12_keep_88 rfl (lv_at hl_45 0 rfl) ?_
          refine lv_iload_n hx hb dX12_keep_89 rfl (lv_at hl_45 1 rfl) ?_
          obtain ⟨r47, h48, hf⟩ := bd_some hf
          refine s_callVi (As := [.int x19]) (rest := [.int (((48 : Int32) * (G20 13 0)) + x19), .ref (ad 8)]) F I_44 (cM_packed G20 E Dd x19 r47 h48) kX12_141 ⟨rfl, rfl⟩ ⟨Nat.le_trans (Nat.le_of_ble_eq_true rfl) hRf, Nat.le_trans (Nat.le_of_ble_eq_true rfl) hRl⟩ (0) 12 rfl rfl rfl rfl rfl hl_45.1 (Nat.le_of_ble_eq_true rfl) ⟨Nat.zero_le _, Nat.zero_le _⟩ dX12_keep_90 ?_
          intro H_49 lo_49 I_49
          obtain ⟨g50, hf⟩ := ri_some hf
          refine mas8 F I_49 g50 dX12_keep_93 ?_
          intro H_52 lo_52 G51 eG51 I_52
          replace hf := nm_some eG51 hf
          obtain ⟨x53, ex53⟩ : ∃ y : Int32, y = x19 + (1 : Int32) := ⟨_, rfl⟩
          replace hf := nm_some ex53 hf
          refine lv_iinc (v := x53) (lv' := [(1, .int x53), (0, .ref (ad 0))]) hx hb dX12_keep_94 hl_45 (k := 1) rfl (by rw [ex53]; rfl) (by decide) rfl (fun ls_54 hl_54 => ?_)
          refine lv_goto (tgt := 67) hx hb dX12_keep_97 (by decide) ?_
          cases hf
          exact ih1 _ _ hK1 H_52 lo_52 I_52 ls_54 (lv_sub hl_54 [1, 0] rfl)
    exact L1 FU _ _ hq1 H_17 lo_17 I_17 ls_18 (lv_sub hl_18 [1, 0] rfl)
  replace hf := hv56
  refine lv_icmp_ne (tgt := 13) hx hb dX12_keep_6 (by decide) (fun c60 => ?_) (fun c60 => ?_)
  · replace hf := (if_neg c60).symm.trans hf
    cases hf
    exact J1 H lo I ls (lv_sub hl [0] rfl)
  · replace hf := (if_pos c60).symm.trans hf
    refine lv_aload_n hx hb dX12_keep_9 rfl (lv_at hl 0 rfl) ?_
    obtain ⟨G57, h58, hf⟩ := bd_some hf
    refine s_callVv (As := []) (rest := []) F I (cM_dropOldest G E Dd G57 h58) kX12_138 ⟨rfl, rfl⟩ ⟨Nat.le_trans (Nat.le_of_ble_eq_true rfl) hRf, Nat.le_trans (Nat.le_of_ble_eq_true rfl) hRl⟩ (0) 12 rfl rfl rfl rfl rfl hl.1 (Nat.le_of_ble_eq_true rfl) ⟨Nat.zero_le _, Nat.zero_le _⟩ dX12_keep_10 ?_
    intro H_59 lo_59 I_59
    cases hf
    exact J1 H_59 lo_59 I_59 ls (lv_sub hl [0] rfl)
def M_add (G : Nat → Nat → Int32) (a0 : Int32) (a1 : Int32) (a2 : Int32) (a3 : Int32) : Option ((Nat → Nat → Int32)) :=
ri 48 (G 4 0) <|
nm (wr G 5 (G 4 0) a0) fun G2 =>
ri 48 (G2 4 0) <|
nm (wr G2 6 (G2 4 0) a1) fun G5 =>
ri 48 (G5 4 0) <|
nm (wr G5 7 (G5 4 0) a2) fun G8 =>
ri 48 (G8 4 0) <|
nm (wr G8 8 (G8 4 0) a3) fun G11 =>
nm (wf G11 4 ((G11 4 0) + (1 : Int32))) fun G13 =>
some G13
set_option maxRecDepth 100000 in
set_option maxHeartbeats 4000000 in
theorem cM_add (G : Nat → Nat → Int32) (E : Nat → Nat → Int64) (Dd : Nat → Nat → UInt64) (a0 : Int32) (a1 : Int32) (a2 : Int32) (a3 : Int32)  (newG : Nat → Nat → Int32) (hf : M_add G a0 a1 a2 a3 = some newG) : sMv D (mT cI cJ cD) (mW ad cI cJ cD) l yX12_add (ws1 yX12_add cX12_add 5 none) ({ frames := 0, cells := 0, slots := 0, locals := 0 }) [.ref (ad 0), .int a0, .int a1, .int a2, .int a3] (G, E, Dd) (newG, E, Dd) := by
  unfold M_add at hf
  refine sMv_of (by decide) (Nat.le_of_ble_eq_true rfl) ?_
  intro p e R s m args below meth c A Q ls H lo F hRf hRl I hl ret
  obtain ⟨hx, hb, hml, hown, hG⟩ := id F
  replace hl : lv_has ls 5 [(0, .ref (ad 0)), (1, .int a0), (2, .int a1), (3, .int a2), (4, .int a3)] := hl
  refine lv_aload_n hx hb dX12_add_0 rfl (lv_at hl 0 rfl) ?_
  refine mgtX12_13_0 F I dX12_add_1 ?_
  refine lv_aload_n hx hb dX12_add_4 rfl (lv_at hl 0 rfl) ?_
  refine mgtX12_102_0 F I dX12_add_5 ?_
  refine lv_iload_n hx hb dX12_add_8 rfl (lv_at hl 1 rfl) ?_
  obtain ⟨g1, hf⟩ := ri_some hf
  refine mas2 F I g1 dX12_add_9 ?_
  intro H_3 lo_3 G2 eG2 I_3
  replace hf := nm_some eG2 hf
  refine lv_aload_n hx hb dX12_add_10 rfl (lv_at hl 0 rfl) ?_
  refine mgtX12_16_0 F I_3 dX12_add_11 ?_
  refine lv_aload_n hx hb dX12_add_14 rfl (lv_at hl 0 rfl) ?_
  refine mgtX12_102_0 F I_3 dX12_add_15 ?_
  refine lv_iload_n hx hb dX12_add_18 rfl (lv_at hl 2 rfl) ?_
  obtain ⟨g4, hf⟩ := ri_some hf
  refine mas3 F I_3 g4 dX12_add_19 ?_
  intro H_6 lo_6 G5 eG5 I_6
  replace hf := nm_some eG5 hf
  refine lv_aload_n hx hb dX12_add_20 rfl (lv_at hl 0 rfl) ?_
  refine mgtX12_19_0 F I_6 dX12_add_21 ?_
  refine lv_aload_n hx hb dX12_add_24 rfl (lv_at hl 0 rfl) ?_
  refine mgtX12_102_0 F I_6 dX12_add_25 ?_
  refine lv_iload_n hx hb dX12_add_28 rfl (lv_at hl 3 rfl) ?_
  obtain ⟨g7, hf⟩ := ri_some hf
  refine mas4 F I_6 g7 dX12_add_29 ?_
  intro H_9 lo_9 G8 eG8 I_9
  replace hf := nm_some eG8 hf
  refine lv_aload_n hx hb dX12_add_30 rfl (lv_at hl 0 rfl) ?_
  refine mgtX12_22_0 F I_9 dX12_add_31 ?_
  refine lv_aload_n hx hb dX12_add_34 rfl (lv_at hl 0 rfl) ?_
  refine mgtX12_102_0 F I_9 dX12_add_35 ?_
  refine lv_iload hx hb dX12_add_38 (lv_at hl 4 rfl) ?_
  obtain ⟨g10, hf⟩ := ri_some hf
  refine mas5 F I_9 g10 dX12_add_40 ?_
  intro H_12 lo_12 G11 eG11 I_12
  replace hf := nm_some eG11 hf
  refine lv_aload_n hx hb dX12_add_41 rfl (lv_at hl 0 rfl) ?_
  refine lv_dup hx hb dX12_add_42 rfl ?_
  refine mgtX12_102_0 F I_12 dX12_add_43 ?_
  refine lv_iconst (v := (1 : Int32)) hx hb dX12_add_46 (by decide) ?_
  refine lv_iadd hx hb dX12_add_47 ?_
  refine mptX12_102_0 F I_12 dX12_add_48 ?_
  intro H_14 lo_14 G13 eG13 I_14
  replace hf := nm_some eG13 hf
  cases hf
  exact ret H_14 lo_14 _ ls I_14 dX12_add_51
def M_answer (G : Nat → Nat → Int32) (a0 : Int32) : Option (Int32 × (Nat → Nat → Int32)) :=
bd (if G 9 0 = (-1 : Int32) then
(some (0 : Int32))
else
(if G 10 0 ≤ G 11 0 then
(some (0 : Int32))
else
(if (48 : Int32) ≤ G 4 0 then
(some (0 : Int32))
else
(some (1 : Int32))))) fun x2 =>
bd (if x2 = 0 then
(some (1 : Int32))
else
(bd (M_within a0 (0 : Int32) (2 : Int32)) fun r26 =>
if r26 = 0 then
(some (2 : Int32))
else
(some (0 : Int32)))) fun x8 =>
nm (wf G 0 x8) fun G12 =>
if G12 0 0 ≤ 0 then
(bd (M_keep G12) fun G14 =>
ri 56 (G14 11 0) <|
ri 56 (G14 11 0) <|
bd (M_add G14 (G14 9 0) ((G14 12 (G14 11 0).toNatClampNeg) / (10 : Int32)) ((G14 12 (G14 11 0).toNatClampNeg) - (G14 12 (G14 11 0).toNatClampNeg) / (10 : Int32) * (10 : Int32)) a0) fun G19 =>
nm (wf G19 11 ((G19 11 0) + (1 : Int32))) fun G22 =>
some ((G22 10 0) - (G22 11 0), G22))
else
(some ((0 : Int32), G12))
set_option maxRecDepth 100000 in
set_option maxHeartbeats 4000000 in
theorem cM_answer (G : Nat → Nat → Int32) (E : Nat → Nat → Int64) (Dd : Nat → Nat → UInt64) (a0 : Int32) (rv : Int32) (newG : Nat → Nat → Int32) (hf : M_answer G a0 = some (rv, newG)) : sMi D (mT cI cJ cD) (mW ad cI cJ cD) l yX12_answer (ws1 yX12_answer cX12_answer 3 (some .int)) ({ frames := 2, cells := 0, slots := 0, locals := 42 }) [.ref (ad 0), .int a0] (G, E, Dd) (rv, (newG, E, Dd)) := by
  unfold M_answer at hf
  refine sMi_of (by decide) (Nat.le_of_ble_eq_true rfl) ?_
  intro p e R s m args below meth c A Q ls H lo F hRf hRl I hl ret
  obtain ⟨hx, hb, hml, hown, hG⟩ := id F
  replace hl : lv_has ls 3 [(0, .ref (ad 0)), (1, .int a0)] := hl
  refine lv_aload_n hx hb dX12_answer_0 rfl (lv_at hl 0 rfl) ?_
  refine mgtX12_25_0 F I dX12_answer_1 ?_
  refine lv_iconst (v := (-1 : Int32)) hx hb dX12_answer_4 (by decide) ?_
  obtain ⟨x2, hv31, hf⟩ := bd_some hf
  have J1 : ∀ (H : Heap) (locs : List Loc), sInv D (mT cI cJ cD) (mW ad cI cJ cD) A s H locs (G, E, Dd) → ∀ (ls : Array Slot), lv_has ls 3 [(0, .ref (ad 0)), (1, .int a0)] → W p l e R s m args below meth c H locs 0 0 Q (F0 m 33 ls [.int x2]) := by
    intro H_3 lo_3 I_3 ls_4 hl_4
    refine lv_istore_n (lv' := [(2, .int x2), (0, .ref (ad 0)), (1, .int a0)]) hx hb dX12_answer_33 rfl hl_4 (by decide) rfl (fun ls_6 hl_6 => ?_)
    refine lv_aload_n hx hb dX12_answer_34 rfl (lv_at hl_6 1 rfl) ?_
    refine lv_iload_n hx hb dX12_answer_35 rfl (lv_at hl_6 0 rfl) ?_
    obtain ⟨x8, hv25, hf⟩ := bd_some hf
    have J7 : ∀ (H : Heap) (locs : List Loc), sInv D (mT cI cJ cD) (mW ad cI cJ cD) A s H locs (G, E, Dd) → ∀ (ls : Array Slot), lv_has ls 3 [(0, .ref (ad 0)), (1, .int a0)] → W p l e R s m args below meth c H locs 0 0 Q (F0 m 57 ls [.int x8, .ref (ad 0)]) := by
      intro H_9 lo_9 I_9 ls_10 hl_10
      refine mptX12_89_0 F I_9 dX12_answer_57 ?_
      intro H_13 lo_13 G12 eG12 I_13
      replace hf := nm_some eG12 hf
      refine lv_aload_n hx hb dX12_answer_60 rfl (lv_at hl_10 0 rfl) ?_
      refine mgtX12_89_0 F I_13 dX12_answer_61 ?_
      refine lv_if_le (tgt := 69) hx hb dX12_answer_64 (by decide) (fun c24 => ?_) (fun c24 => ?_)
      · replace hf := (if_pos c24).symm.trans hf
        refine lv_aload_n hx hb dX12_answer_69 rfl (lv_at hl_10 0 rfl) ?_
        obtain ⟨G14, h15, hf⟩ := bd_some hf
        refine s_callVv (As := []) (rest := []) F I_13 (cM_keep G12 E Dd G14 h15) kX12_144 ⟨rfl, rfl⟩ ⟨Nat.le_trans (Nat.le_of_ble_eq_true rfl) hRf, Nat.le_trans (Nat.le_of_ble_eq_true rfl) hRl⟩ (0) 12 rfl rfl rfl rfl rfl hl_10.1 (Nat.le_of_ble_eq_true rfl) ⟨Nat.zero_le _, Nat.zero_le _⟩ dX12_answer_70 ?_
        intro H_16 lo_16 I_16
        refine lv_aload_n hx hb dX12_answer_73 rfl (lv_at hl_10 0 rfl) ?_
        refine lv_aload_n hx hb dX12_answer_74 rfl (lv_at hl_10 0 rfl) ?_
        refine mgtX12_25_0 F I_16 dX12_answer_75 ?_
        refine lv_aload_n hx hb dX12_answer_78 rfl (lv_at hl_10 0 rfl) ?_
        refine mgtX12_29_0 F I_16 dX12_answer_79 ?_
        refine lv_aload_n hx hb dX12_answer_82 rfl (lv_at hl_10 0 rfl) ?_
        refine mgtX12_108_0 F I_16 dX12_answer_83 ?_
        obtain ⟨g17, hf⟩ := ri_some hf
        refine mal6 F I_16 g17 dX12_answer_86 ?_
        refine lv_bipush (v := (10 : Int32)) hx hb dX12_answer_87 (by decide) ?_
        refine lv_idiv hx hb dX12_answer_89 (by decide) ?_
        refine lv_aload_n hx hb dX12_answer_90 rfl (lv_at hl_10 0 rfl) ?_
        refine mgtX12_29_0 F I_16 dX12_answer_91 ?_
        refine lv_aload_n hx hb dX12_answer_94 rfl (lv_at hl_10 0 rfl) ?_
        refine mgtX12_108_0 F I_16 dX12_answer_95 ?_
        obtain ⟨g18, hf⟩ := ri_some hf
        refine mal6 F I_16 g18 dX12_answer_98 ?_
        refine lv_bipush (v := (10 : Int32)) hx hb dX12_answer_99 (by decide) ?_
        refine lv_irem hx hb dX12_answer_101 (by decide) ?_
        refine lv_iload_n hx hb dX12_answer_102 rfl (lv_at hl_10 1 rfl) ?_
        obtain ⟨G19, h20, hf⟩ := bd_some hf
        refine s_callVv (As := [.int (G14 9 0), .int ((G14 12 (G14 11 0).toNatClampNeg) / (10 : Int32)), .int ((G14 12 (G14 11 0).toNatClampNeg) - (G14 12 (G14 11 0).toNatClampNeg) / (10 : Int32) * (10 : Int32)), .int a0]) (rest := []) F I_16 (cM_add G14 E Dd (G14 9 0) ((G14 12 (G14 11 0).toNatClampNeg) / (10 : Int32)) ((G14 12 (G14 11 0).toNatClampNeg) - (G14 12 (G14 11 0).toNatClampNeg) / (10 : Int32) * (10 : Int32)) a0 G19 h20) kX12_147 ⟨rfl, rfl⟩ ⟨Nat.le_trans (Nat.le_of_ble_eq_true rfl) hRf, Nat.le_trans (Nat.le_of_ble_eq_true rfl) hRl⟩ (0) 12 rfl rfl rfl rfl rfl hl_10.1 (Nat.le_of_ble_eq_true rfl) ⟨Nat.zero_le _, Nat.zero_le _⟩ dX12_answer_103 ?_
        intro H_21 lo_21 I_21
        refine lv_aload_n hx hb dX12_answer_106 rfl (lv_at hl_10 0 rfl) ?_
        refine lv_dup hx hb dX12_answer_107 rfl ?_
        refine mgtX12_108_0 F I_21 dX12_answer_108 ?_
        refine lv_iconst (v := (1 : Int32)) hx hb dX12_answer_111 (by decide) ?_
        refine lv_iadd hx hb dX12_answer_112 ?_
        refine mptX12_108_0 F I_21 dX12_answer_113 ?_
        intro H_23 lo_23 G22 eG22 I_23
        replace hf := nm_some eG22 hf
        refine lv_aload_n hx hb dX12_answer_116 rfl (lv_at hl_10 0 rfl) ?_
        refine mgtX12_105_0 F I_23 dX12_answer_117 ?_
        refine lv_aload_n hx hb dX12_answer_120 rfl (lv_at hl_10 0 rfl) ?_
        refine mgtX12_108_0 F I_23 dX12_answer_121 ?_
        refine lv_isub hx hb dX12_answer_124 ?_
        cases hf
        exact ret H_23 lo_23 _ ls_10 I_23 dX12_answer_125
      · replace hf := (if_neg c24).symm.trans hf
        refine lv_iconst (v := (0 : Int32)) hx hb dX12_answer_67 (by decide) ?_
        cases hf
        exact ret H_13 lo_13 _ ls_10 I_13 dX12_answer_68
    replace hf := hv25
    refine lv_if_ne (tgt := 43) hx hb dX12_answer_36 (by decide) (fun c30 => ?_) (fun c30 => ?_)
    · replace hf := (if_neg c30).symm.trans hf
      refine lv_iload_n hx hb dX12_answer_43 rfl (lv_at hl_6 2 rfl) ?_
      refine lv_iconst (v := (0 : Int32)) hx hb dX12_answer_44 (by decide) ?_
      refine lv_iconst (v := (2 : Int32)) hx hb dX12_answer_45 (by decide) ?_
      obtain ⟨r26, h27, hf⟩ := bd_some hf
      refine s_callSi (As := [.int a0, .int (0 : Int32), .int (2 : Int32)]) (rest := [.ref (ad 0)]) F I_3 (cM_within G E Dd a0 (0 : Int32) (2 : Int32) r26 h27) kX12_95 ⟨rfl, rfl⟩ ⟨Nat.le_trans (Nat.le_of_ble_eq_true rfl) hRf, Nat.le_trans (Nat.le_of_ble_eq_true rfl) hRl⟩ rfl rfl hl_6.1 (Nat.le_of_ble_eq_true rfl) ⟨Nat.zero_le _, Nat.zero_le _⟩ dX12_answer_46 ?_
      intro H_28 lo_28 I_28
      refine lv_if_eq (tgt := 56) hx hb dX12_answer_49 (by decide) (fun c29 => ?_) (fun c29 => ?_)
      · replace hf := (if_pos c29).symm.trans hf
        refine lv_iconst (v := (2 : Int32)) hx hb dX12_answer_56 (by decide) ?_
        cases hf
        exact J7 H_28 lo_28 I_28 ls_6 (lv_sub hl_6 [1, 2] rfl)
      · replace hf := (if_neg c29).symm.trans hf
        refine lv_iconst (v := (0 : Int32)) hx hb dX12_answer_52 (by decide) ?_
        refine lv_goto (tgt := 57) hx hb dX12_answer_53 (by decide) ?_
        cases hf
        exact J7 H_28 lo_28 I_28 ls_6 (lv_sub hl_6 [1, 2] rfl)
    · replace hf := (if_pos c30).symm.trans hf
      refine lv_iconst (v := (1 : Int32)) hx hb dX12_answer_39 (by decide) ?_
      refine lv_goto (tgt := 57) hx hb dX12_answer_40 (by decide) ?_
      cases hf
      exact J7 H_3 lo_3 I_3 ls_6 (lv_sub hl_6 [1, 2] rfl)
  replace hf := hv31
  refine lv_icmp_eq (tgt := 32) hx hb dX12_answer_5 (by decide) (fun c34 => ?_) (fun c34 => ?_)
  · replace hf := (if_pos c34).symm.trans hf
    refine lv_iconst (v := (0 : Int32)) hx hb dX12_answer_32 (by decide) ?_
    cases hf
    exact J1 H lo I ls (lv_sub hl [0, 1] rfl)
  · replace hf := (if_neg c34).symm.trans hf
    refine lv_aload_n hx hb dX12_answer_8 rfl (lv_at hl 0 rfl) ?_
    refine mgtX12_108_0 F I dX12_answer_9 ?_
    refine lv_aload_n hx hb dX12_answer_12 rfl (lv_at hl 0 rfl) ?_
    refine mgtX12_105_0 F I dX12_answer_13 ?_
    refine lv_icmp_ge (tgt := 32) hx hb dX12_answer_16 (by decide) (fun c33 => ?_) (fun c33 => ?_)
    · replace hf := (if_pos c33).symm.trans hf
      refine lv_iconst (v := (0 : Int32)) hx hb dX12_answer_32 (by decide) ?_
      cases hf
      exact J1 H lo I ls (lv_sub hl [0, 1] rfl)
    · replace hf := (if_neg c33).symm.trans hf
      refine lv_aload_n hx hb dX12_answer_19 rfl (lv_at hl 0 rfl) ?_
      refine mgtX12_102_0 F I dX12_answer_20 ?_
      refine lv_bipush (v := (48 : Int32)) hx hb dX12_answer_23 (by decide) ?_
      refine lv_icmp_ge (tgt := 32) hx hb dX12_answer_25 (by decide) (fun c32 => ?_) (fun c32 => ?_)
      · replace hf := (if_pos c32).symm.trans hf
        refine lv_iconst (v := (0 : Int32)) hx hb dX12_answer_32 (by decide) ?_
        cases hf
        exact J1 H lo I ls (lv_sub hl [0, 1] rfl)
      · replace hf := (if_neg c32).symm.trans hf
        refine lv_iconst (v := (1 : Int32)) hx hb dX12_answer_28 (by decide) ?_
        refine lv_goto (tgt := 33) hx hb dX12_answer_29 (by decide) ?_
        cases hf
        exact J1 H lo I ls (lv_sub hl [0, 1] rfl)
def M_compare (G : Nat → Nat → Int32) (a0 : Int32) (a1 : Int32) (a2 : Int32) (a3 : Int32) : Option (Int32 × (Nat → Nat → Int32)) :=
bd (M_isListener G a0) fun r1 =>
bd (if r1 = 0 then
(some (1 : Int32))
else
(bd (M_isSample G a1) fun r19 =>
if r19 = 0 then
(some (1 : Int32))
else
(bd (M_isSample G a2) fun r22 =>
if r22 = 0 then
(some (1 : Int32))
else
(if a1 = a2 then
(some (2 : Int32))
else
(bd (M_within a3 (0 : Int32) (2 : Int32)) fun r25 =>
if r25 = 0 then
(some (2 : Int32))
else
(if G 4 0 = (48 : Int32) then
(some (3 : Int32))
else
(some (0 : Int32)))))))) fun x5 =>
nm (wf G 0 x5) fun G9 =>
if G9 0 0 ≤ 0 then
(bd (M_keep G9) fun G11 =>
bd (M_add G11 a0 a1 a2 a3) fun G14 =>
some ((G14 4 0) - (1 : Int32), G14))
else
(some ((0 : Int32), G9))
set_option maxRecDepth 100000 in
set_option maxHeartbeats 4000000 in
theorem cM_compare (G : Nat → Nat → Int32) (E : Nat → Nat → Int64) (Dd : Nat → Nat → UInt64) (a0 : Int32) (a1 : Int32) (a2 : Int32) (a3 : Int32) (rv : Int32) (newG : Nat → Nat → Int32) (hf : M_compare G a0 a1 a2 a3 = some (rv, newG)) : sMi D (mT cI cJ cD) (mW ad cI cJ cD) l yX12_compare (ws1 yX12_compare cX12_compare 5 (some .int)) ({ frames := 2, cells := 0, slots := 0, locals := 43 }) [.ref (ad 0), .int a0, .int a1, .int a2, .int a3] (G, E, Dd) (rv, (newG, E, Dd)) := by
  unfold M_compare at hf
  refine sMi_of (by decide) (Nat.le_of_ble_eq_true rfl) ?_
  intro p e R s m args below meth c A Q ls H lo F hRf hRl I hl ret
  obtain ⟨hx, hb, hml, hown, hG⟩ := id F
  replace hl : lv_has ls 5 [(0, .ref (ad 0)), (1, .int a0), (2, .int a1), (3, .int a2), (4, .int a3)] := hl
  refine lv_aload_n hx hb dX12_compare_0 rfl (lv_at hl 0 rfl) ?_
  refine lv_aload_n hx hb dX12_compare_1 rfl (lv_at hl 0 rfl) ?_
  refine lv_iload_n hx hb dX12_compare_2 rfl (lv_at hl 1 rfl) ?_
  obtain ⟨r1, h2, hf⟩ := bd_some hf
  refine s_callVi (As := [.int a0]) (rest := [.ref (ad 0)]) F I (cM_isListener G E Dd a0 r1 h2) kX12_114 ⟨rfl, rfl⟩ ⟨Nat.le_trans (Nat.le_of_ble_eq_true rfl) hRf, Nat.le_trans (Nat.le_of_ble_eq_true rfl) hRl⟩ (0) 12 rfl rfl rfl rfl rfl hl.1 (Nat.le_of_ble_eq_true rfl) ⟨Nat.zero_le _, Nat.zero_le _⟩ dX12_compare_3 ?_
  intro H_3 lo_3 I_3
  obtain ⟨x5, hv18, hf⟩ := bd_some hf
  have J4 : ∀ (H : Heap) (locs : List Loc), sInv D (mT cI cJ cD) (mW ad cI cJ cD) A s H locs (G, E, Dd) → ∀ (ls : Array Slot), lv_has ls 5 [(0, .ref (ad 0)), (1, .int a0), (2, .int a1), (3, .int a2), (4, .int a3)] → W p l e R s m args below meth c H locs 0 0 Q (F0 m 62 ls [.int x5, .ref (ad 0)]) := by
    intro H_6 lo_6 I_6 ls_7 hl_7
    refine mptX12_89_0 F I_6 dX12_compare_62 ?_
    intro H_10 lo_10 G9 eG9 I_10
    replace hf := nm_some eG9 hf
    refine lv_aload_n hx hb dX12_compare_65 rfl (lv_at hl_7 0 rfl) ?_
    refine mgtX12_89_0 F I_10 dX12_compare_66 ?_
    refine lv_if_le (tgt := 74) hx hb dX12_compare_69 (by decide) (fun c17 => ?_) (fun c17 => ?_)
    · replace hf := (if_pos c17).symm.trans hf
      refine lv_aload_n hx hb dX12_compare_74 rfl (lv_at hl_7 0 rfl) ?_
      obtain ⟨G11, h12, hf⟩ := bd_some hf
      refine s_callVv (As := []) (rest := []) F I_10 (cM_keep G9 E Dd G11 h12) kX12_144 ⟨rfl, rfl⟩ ⟨Nat.le_trans (Nat.le_of_ble_eq_true rfl) hRf, Nat.le_trans (Nat.le_of_ble_eq_true rfl) hRl⟩ (0) 12 rfl rfl rfl rfl rfl hl_7.1 (Nat.le_of_ble_eq_true rfl) ⟨Nat.zero_le _, Nat.zero_le _⟩ dX12_compare_75 ?_
      intro H_13 lo_13 I_13
      refine lv_aload_n hx hb dX12_compare_78 rfl (lv_at hl_7 0 rfl) ?_
      refine lv_iload_n hx hb dX12_compare_79 rfl (lv_at hl_7 1 rfl) ?_
      refine lv_iload_n hx hb dX12_compare_80 rfl (lv_at hl_7 2 rfl) ?_
      refine lv_iload_n hx hb dX12_compare_81 rfl (lv_at hl_7 3 rfl) ?_
      refine lv_iload hx hb dX12_compare_82 (lv_at hl_7 4 rfl) ?_
      obtain ⟨G14, h15, hf⟩ := bd_some hf
      refine s_callVv (As := [.int a0, .int a1, .int a2, .int a3]) (rest := []) F I_13 (cM_add G11 E Dd a0 a1 a2 a3 G14 h15) kX12_147 ⟨rfl, rfl⟩ ⟨Nat.le_trans (Nat.le_of_ble_eq_true rfl) hRf, Nat.le_trans (Nat.le_of_ble_eq_true rfl) hRl⟩ (0) 12 rfl rfl rfl rfl rfl hl_7.1 (Nat.le_of_ble_eq_true rfl) ⟨Nat.zero_le _, Nat.zero_le _⟩ dX12_compare_84 ?_
      intro H_16 lo_16 I_16
      refine lv_aload_n hx hb dX12_compare_87 rfl (lv_at hl_7 0 rfl) ?_
      refine mgtX12_102_0 F I_16 dX12_compare_88 ?_
      refine lv_iconst (v := (1 : Int32)) hx hb dX12_compare_91 (by decide) ?_
      refine lv_isub hx hb dX12_compare_92 ?_
      cases hf
      exact ret H_16 lo_16 _ ls_7 I_16 dX12_compare_93
    · replace hf := (if_neg c17).symm.trans hf
      refine lv_iconst (v := (0 : Int32)) hx hb dX12_compare_72 (by decide) ?_
      cases hf
      exact ret H_10 lo_10 _ ls_7 I_10 dX12_compare_73
  replace hf := hv18
  refine lv_if_eq (tgt := 25) hx hb dX12_compare_6 (by decide) (fun c33 => ?_) (fun c33 => ?_)
  · replace hf := (if_pos c33).symm.trans hf
    refine lv_iconst (v := (1 : Int32)) hx hb dX12_compare_25 (by decide) ?_
    refine lv_goto (tgt := 62) hx hb dX12_compare_26 (by decide) ?_
    cases hf
    exact J4 H_3 lo_3 I_3 ls (lv_sub hl [0, 1, 2, 3, 4] rfl)
  · replace hf := (if_neg c33).symm.trans hf
    refine lv_aload_n hx hb dX12_compare_9 rfl (lv_at hl 0 rfl) ?_
    refine lv_iload_n hx hb dX12_compare_10 rfl (lv_at hl 2 rfl) ?_
    obtain ⟨r19, h20, hf⟩ := bd_some hf
    refine s_callVi (As := [.int a1]) (rest := [.ref (ad 0)]) F I_3 (cM_isSample G E Dd a1 r19 h20) kX12_151 ⟨rfl, rfl⟩ ⟨Nat.le_trans (Nat.le_of_ble_eq_true rfl) hRf, Nat.le_trans (Nat.le_of_ble_eq_true rfl) hRl⟩ (0) 12 rfl rfl rfl rfl rfl hl.1 (Nat.le_of_ble_eq_true rfl) ⟨Nat.zero_le _, Nat.zero_le _⟩ dX12_compare_11 ?_
    intro H_21 lo_21 I_21
    refine lv_if_eq (tgt := 25) hx hb dX12_compare_14 (by decide) (fun c32 => ?_) (fun c32 => ?_)
    · replace hf := (if_pos c32).symm.trans hf
      refine lv_iconst (v := (1 : Int32)) hx hb dX12_compare_25 (by decide) ?_
      refine lv_goto (tgt := 62) hx hb dX12_compare_26 (by decide) ?_
      cases hf
      exact J4 H_21 lo_21 I_21 ls (lv_sub hl [0, 1, 2, 3, 4] rfl)
    · replace hf := (if_neg c32).symm.trans hf
      refine lv_aload_n hx hb dX12_compare_17 rfl (lv_at hl 0 rfl) ?_
      refine lv_iload_n hx hb dX12_compare_18 rfl (lv_at hl 3 rfl) ?_
      obtain ⟨r22, h23, hf⟩ := bd_some hf
      refine s_callVi (As := [.int a2]) (rest := [.ref (ad 0)]) F I_21 (cM_isSample G E Dd a2 r22 h23) kX12_151 ⟨rfl, rfl⟩ ⟨Nat.le_trans (Nat.le_of_ble_eq_true rfl) hRf, Nat.le_trans (Nat.le_of_ble_eq_true rfl) hRl⟩ (0) 12 rfl rfl rfl rfl rfl hl.1 (Nat.le_of_ble_eq_true rfl) ⟨Nat.zero_le _, Nat.zero_le _⟩ dX12_compare_19 ?_
      intro H_24 lo_24 I_24
      refine lv_if_ne (tgt := 29) hx hb dX12_compare_22 (by decide) (fun c31 => ?_) (fun c31 => ?_)
      · replace hf := (if_neg c31).symm.trans hf
        refine lv_iload_n hx hb dX12_compare_29 rfl (lv_at hl 2 rfl) ?_
        refine lv_iload_n hx hb dX12_compare_30 rfl (lv_at hl 3 rfl) ?_
        refine lv_icmp_eq (tgt := 44) hx hb dX12_compare_31 (by decide) (fun c30 => ?_) (fun c30 => ?_)
        · replace hf := (if_pos c30).symm.trans hf
          refine lv_iconst (v := (2 : Int32)) hx hb dX12_compare_44 (by decide) ?_
          refine lv_goto (tgt := 62) hx hb dX12_compare_45 (by decide) ?_
          cases hf
          exact J4 H_24 lo_24 I_24 ls (lv_sub hl [0, 1, 2, 3, 4] rfl)
        · replace hf := (if_neg c30).symm.trans hf
          refine lv_iload hx hb dX12_compare_34 (lv_at hl 4 rfl) ?_
          refine lv_iconst (v := (0 : Int32)) hx hb dX12_compare_36 (by decide) ?_
          refine lv_iconst (v := (2 : Int32)) hx hb dX12_compare_37 (by decide) ?_
          obtain ⟨r25, h26, hf⟩ := bd_some hf
          refine s_callSi (As := [.int a3, .int (0 : Int32), .int (2 : Int32)]) (rest := [.ref (ad 0)]) F I_24 (cM_within G E Dd a3 (0 : Int32) (2 : Int32) r25 h26) kX12_95 ⟨rfl, rfl⟩ ⟨Nat.le_trans (Nat.le_of_ble_eq_true rfl) hRf, Nat.le_trans (Nat.le_of_ble_eq_true rfl) hRl⟩ rfl rfl hl.1 (Nat.le_of_ble_eq_true rfl) ⟨Nat.zero_le _, Nat.zero_le _⟩ dX12_compare_38 ?_
          intro H_27 lo_27 I_27
          refine lv_if_ne (tgt := 48) hx hb dX12_compare_41 (by decide) (fun c29 => ?_) (fun c29 => ?_)
          · replace hf := (if_neg c29).symm.trans hf
            refine lv_aload_n hx hb dX12_compare_48 rfl (lv_at hl 0 rfl) ?_
            refine mgtX12_102_0 F I_27 dX12_compare_49 ?_
            refine lv_bipush (v := (48 : Int32)) hx hb dX12_compare_52 (by decide) ?_
            refine lv_icmp_ne (tgt := 61) hx hb dX12_compare_54 (by decide) (fun c28 => ?_) (fun c28 => ?_)
            · replace hf := (if_neg c28).symm.trans hf
              refine lv_iconst (v := (0 : Int32)) hx hb dX12_compare_61 (by decide) ?_
              cases hf
              exact J4 H_27 lo_27 I_27 ls (lv_sub hl [0, 1, 2, 3, 4] rfl)
            · replace hf := (if_pos c28).symm.trans hf
              refine lv_iconst (v := (3 : Int32)) hx hb dX12_compare_57 (by decide) ?_
              refine lv_goto (tgt := 62) hx hb dX12_compare_58 (by decide) ?_
              cases hf
              exact J4 H_27 lo_27 I_27 ls (lv_sub hl [0, 1, 2, 3, 4] rfl)
          · replace hf := (if_pos c29).symm.trans hf
            refine lv_iconst (v := (2 : Int32)) hx hb dX12_compare_44 (by decide) ?_
            refine lv_goto (tgt := 62) hx hb dX12_compare_45 (by decide) ?_
            cases hf
            exact J4 H_27 lo_27 I_27 ls (lv_sub hl [0, 1, 2, 3, 4] rfl)
      · replace hf := (if_pos c31).symm.trans hf
        refine lv_iconst (v := (1 : Int32)) hx hb dX12_compare_25 (by decide) ?_
        refine lv_goto (tgt := 62) hx hb dX12_compare_26 (by decide) ?_
        cases hf
        exact J4 H_24 lo_24 I_24 ls (lv_sub hl [0, 1, 2, 3, 4] rfl)
def M_isComparison (G : Nat → Nat → Int32) (a0 : Int32) : Option (Int32) :=
bd (M_within a0 (0 : Int32) ((G 4 0) - (1 : Int32))) fun r1 =>
gd (r1 = 0 ∨ r1 = 1) <|
some r1
set_option maxRecDepth 100000 in
set_option maxHeartbeats 4000000 in
theorem cM_isComparison (G : Nat → Nat → Int32) (E : Nat → Nat → Int64) (Dd : Nat → Nat → UInt64) (a0 : Int32) (rv : Int32)  (hf : M_isComparison G a0 = some rv) : sMi D (mT cI cJ cD) (mW ad cI cJ cD) l yX12_isComparison (ws1 yX12_isComparison cX12_isComparison 2 (some .boolean)) ({ frames := 1, cells := 0, slots := 0, locals := 22 }) [.ref (ad 0), .int a0] (G, E, Dd) (rv, (G, E, Dd)) := by
  unfold M_isComparison at hf
  refine sMz_of (by decide) (Nat.le_of_ble_eq_true rfl) ?_
  intro p e R s m args below meth c A Q ls H lo F hRf hRl I hl ret
  obtain ⟨hx, hb, hml, hown, hG⟩ := id F
  replace hl : lv_has ls 2 [(0, .ref (ad 0)), (1, .int a0)] := hl
  refine lv_iload_n hx hb dX12_isComparison_0 rfl (lv_at hl 1 rfl) ?_
  refine lv_iconst (v := (0 : Int32)) hx hb dX12_isComparison_1 (by decide) ?_
  refine lv_aload_n hx hb dX12_isComparison_2 rfl (lv_at hl 0 rfl) ?_
  refine mgtX12_102_0 F I dX12_isComparison_3 ?_
  refine lv_iconst (v := (1 : Int32)) hx hb dX12_isComparison_6 (by decide) ?_
  refine lv_isub hx hb dX12_isComparison_7 ?_
  obtain ⟨r1, h2, hf⟩ := bd_some hf
  refine s_callSi (As := [.int a0, .int (0 : Int32), .int ((G 4 0) - (1 : Int32))]) (rest := []) F I (cM_within G E Dd a0 (0 : Int32) ((G 4 0) - (1 : Int32)) r1 h2) kX12_95 ⟨rfl, rfl⟩ ⟨Nat.le_trans (Nat.le_of_ble_eq_true rfl) hRf, Nat.le_trans (Nat.le_of_ble_eq_true rfl) hRl⟩ rfl rfl hl.1 (Nat.le_of_ble_eq_true rfl) ⟨Nat.zero_le _, Nat.zero_le _⟩ dX12_isComparison_8 ?_
  intro H_3 lo_3 I_3
  obtain ⟨g4, hf⟩ := gd_some hf
  cases hf
  exact ret H_3 lo_3 _ ls I_3 g4 dX12_isComparison_11
def M_remove_s1  (x15 : Int32) (G16 : Nat → Nat → Int32) : Option ((Int32 × (Nat → Nat → Int32)) ⊕ ((Nat → Nat → Int32))) :=
if (G16 4 0) - (1 : Int32) ≤ x15 then
(some (.inr G16))
else
(bd (M_packed G16 (x15 + (1 : Int32))) fun r26 =>
bd (M_unpack G16 x15 r26) fun G29 =>
nm (x15 + (1 : Int32) : Int32) fun x32 =>
some (.inl (x32, G29)))
def M_remove (G : Nat → Nat → Int32) (a0 : Int32) : Option (Int32 × (Nat → Nat → Int32)) :=
bd (M_isComparison G a0) fun r1 =>
bd (if r1 = 0 then
(some (1 : Int32))
else
(some (0 : Int32))) fun x5 =>
nm (wf G 0 x5) fun G9 =>
if G9 0 0 ≤ 0 then
(bd (M_keep G9) fun G11 =>
bd (lp (fun q => M_remove_s1 q.1 q.2) FU (a0, G11)) fun G17 =>
nm (wf G17 4 ((G17 4 0) - (1 : Int32))) fun G21 =>
some (G21 4 0, G21))
else
(some ((0 : Int32), G9))
set_option maxRecDepth 100000 in
set_option maxHeartbeats 4000000 in
theorem cM_remove (G : Nat → Nat → Int32) (E : Nat → Nat → Int64) (Dd : Nat → Nat → UInt64) (a0 : Int32) (rv : Int32) (newG : Nat → Nat → Int32) (hf : M_remove G a0 = some (rv, newG)) : sMi D (mT cI cJ cD) (mW ad cI cJ cD) l yX12_remove (ws1 yX12_remove cX12_remove 3 (some .int)) ({ frames := 2, cells := 0, slots := 0, locals := 43 }) [.ref (ad 0), .int a0] (G, E, Dd) (rv, (newG, E, Dd)) := by
  unfold M_remove at hf
  refine sMi_of (by decide) (Nat.le_of_ble_eq_true rfl) ?_
  intro p e R s m args below meth c A Q ls H lo F hRf hRl I hl ret
  obtain ⟨hx, hb, hml, hown, hG⟩ := id F
  replace hl : lv_has ls 3 [(0, .ref (ad 0)), (1, .int a0)] := hl
  refine lv_aload_n hx hb dX12_remove_0 rfl (lv_at hl 0 rfl) ?_
  refine lv_aload_n hx hb dX12_remove_1 rfl (lv_at hl 0 rfl) ?_
  refine lv_iload_n hx hb dX12_remove_2 rfl (lv_at hl 1 rfl) ?_
  obtain ⟨r1, h2, hf⟩ := bd_some hf
  refine s_callVi (As := [.int a0]) (rest := [.ref (ad 0)]) F I (cM_isComparison G E Dd a0 r1 h2) kX12_154 ⟨rfl, rfl⟩ ⟨Nat.le_trans (Nat.le_of_ble_eq_true rfl) hRf, Nat.le_trans (Nat.le_of_ble_eq_true rfl) hRl⟩ (0) 12 rfl rfl rfl rfl rfl hl.1 (Nat.le_of_ble_eq_true rfl) ⟨Nat.zero_le _, Nat.zero_le _⟩ dX12_remove_3 ?_
  intro H_3 lo_3 I_3
  obtain ⟨x5, hv36, hf⟩ := bd_some hf
  have J4 : ∀ (H : Heap) (locs : List Loc), sInv D (mT cI cJ cD) (mW ad cI cJ cD) A s H locs (G, E, Dd) → ∀ (ls : Array Slot), lv_has ls 3 [(0, .ref (ad 0)), (1, .int a0)] → W p l e R s m args below meth c H locs 0 0 Q (F0 m 14 ls [.int x5, .ref (ad 0)]) := by
    intro H_6 lo_6 I_6 ls_7 hl_7
    refine mptX12_89_0 F I_6 dX12_remove_14 ?_
    intro H_10 lo_10 G9 eG9 I_10
    replace hf := nm_some eG9 hf
    refine lv_aload_n hx hb dX12_remove_17 rfl (lv_at hl_7 0 rfl) ?_
    refine mgtX12_89_0 F I_10 dX12_remove_18 ?_
    refine lv_if_le (tgt := 26) hx hb dX12_remove_21 (by decide) (fun c35 => ?_) (fun c35 => ?_)
    · replace hf := (if_pos c35).symm.trans hf
      refine lv_aload_n hx hb dX12_remove_26 rfl (lv_at hl_7 0 rfl) ?_
      obtain ⟨G11, h12, hf⟩ := bd_some hf
      refine s_callVv (As := []) (rest := []) F I_10 (cM_keep G9 E Dd G11 h12) kX12_144 ⟨rfl, rfl⟩ ⟨Nat.le_trans (Nat.le_of_ble_eq_true rfl) hRf, Nat.le_trans (Nat.le_of_ble_eq_true rfl) hRl⟩ (0) 12 rfl rfl rfl rfl rfl hl_7.1 (Nat.le_of_ble_eq_true rfl) ⟨Nat.zero_le _, Nat.zero_le _⟩ dX12_remove_27 ?_
      intro H_13 lo_13 I_13
      refine lv_iload_n hx hb dX12_remove_30 rfl (lv_at hl_7 1 rfl) ?_
      refine lv_istore_n (lv' := [(2, .int a0), (0, .ref (ad 0)), (1, .int a0)]) hx hb dX12_remove_31 rfl hl_7 (by decide) rfl (fun ls_14 hl_14 => ?_)
      obtain ⟨G17, hq1, hf⟩ := bd_some hf
      have K1 : ∀ (H : Heap) (locs : List Loc), sInv D (mT cI cJ cD) (mW ad cI cJ cD) A s H locs (G17, E, Dd) → ∀ (ls : Array Slot), lv_has ls 3 [(0, .ref (ad 0))] → W p l e R s m args below meth c H locs 0 0 Q (F0 m 60 ls []) := by
        intro H_18 lo_18 I_18 ls_19 hl_19
        refine lv_aload_n hx hb dX12_remove_60 rfl (lv_at hl_19 0 rfl) ?_
        refine lv_dup hx hb dX12_remove_61 rfl ?_
        refine mgtX12_102_0 F I_18 dX12_remove_62 ?_
        refine lv_iconst (v := (1 : Int32)) hx hb dX12_remove_65 (by decide) ?_
        refine lv_isub hx hb dX12_remove_66 ?_
        refine mptX12_102_0 F I_18 dX12_remove_67 ?_
        intro H_22 lo_22 G21 eG21 I_22
        replace hf := nm_some eG21 hf
        refine lv_aload_n hx hb dX12_remove_70 rfl (lv_at hl_19 0 rfl) ?_
        refine mgtX12_102_0 F I_22 dX12_remove_71 ?_
        cases hf
        exact ret H_22 lo_22 _ ls_19 I_22 dX12_remove_74
      have L1 : ∀ (n : Nat) (x15 : Int32) (G16 : Nat → Nat → Int32), lp (fun q => M_remove_s1 q.1 q.2) n (x15, G16) = some G17 → ∀ (H : Heap) (locs : List Loc), sInv D (mT cI cJ cD) (mW ad cI cJ cD) A s H locs (G16, E, Dd) → ∀ (ls : Array Slot), lv_has ls 3 [(0, .ref (ad 0)), (2, .int x15)] → W p l e R s m args below meth c H locs 0 0 Q (F0 m 32 ls []) := by
        intro n
        induction n with
        | zero => intro x15 G16 hq; exact (lp_0 hq).elim
        | succ n ih1 =>
          intro x15 G16 hq H_23 lo_23 I_23 ls_24 hl_24
          obtain ⟨y1, hf, hK1⟩ := lp_go hq
          replace hf : M_remove_s1 x15 G16 = some y1 := hf
          unfold M_remove_s1 at hf
          refine lv_iload_n hx hb dX12_remove_32 rfl (lv_at hl_24 1 rfl) ?_
          refine lv_aload_n hx hb dX12_remove_33 rfl (lv_at hl_24 0 rfl) ?_
          refine mgtX12_102_0 F I_23 dX12_remove_34 ?_
          refine lv_iconst (v := (1 : Int32)) hx hb dX12_remove_37 (by decide) ?_
          refine lv_isub hx hb dX12_remove_38 ?_
          refine lv_icmp_ge (tgt := 60) hx hb dX12_remove_39 (by decide) (fun c34 => ?_) (fun c34 => ?_)
          · replace hf := (if_pos c34).symm.trans hf
            cases hf
            cases (show G16 = G17 from hK1)
            exact K1 H_23 lo_23 I_23 ls_24 (lv_sub hl_24 [0] rfl)
          · replace hf := (if_neg c34).symm.trans hf
            refine lv_aload_n hx hb dX12_remove_42 rfl (lv_at hl_24 0 rfl) ?_
            refine lv_iload_n hx hb dX12_remove_43 rfl (lv_at hl_24 1 rfl) ?_
            refine lv_aload_n hx hb dX12_remove_44 rfl (lv_at hl_24 0 rfl) ?_
            refine lv_iload_n hx hb dX12_remove_45 rfl (lv_at hl_24 1 rfl) ?_
            refine lv_iconst (v := (1 : Int32)) hx hb dX12_remove_46 (by decide) ?_
            refine lv_iadd hx hb dX12_remove_47 ?_
            obtain ⟨r26, h27, hf⟩ := bd_some hf
            refine s_callVi (As := [.int (x15 + (1 : Int32))]) (rest := [.int x15, .ref (ad 0)]) F I_23 (cM_packed G16 E Dd (x15 + (1 : Int32)) r26 h27) kX12_141 ⟨rfl, rfl⟩ ⟨Nat.le_trans (Nat.le_of_ble_eq_true rfl) hRf, Nat.le_trans (Nat.le_of_ble_eq_true rfl) hRl⟩ (0) 12 rfl rfl rfl rfl rfl hl_24.1 (Nat.le_of_ble_eq_true rfl) ⟨Nat.zero_le _, Nat.zero_le _⟩ dX12_remove_48 ?_
            intro H_28 lo_28 I_28
            obtain ⟨G29, h30, hf⟩ := bd_some hf
            refine s_callVv (As := [.int x15, .int r26]) (rest := []) F I_28 (cM_unpack G16 E Dd x15 r26 G29 h30) kX12_157 ⟨rfl, rfl⟩ ⟨Nat.le_trans (Nat.le_of_ble_eq_true rfl) hRf, Nat.le_trans (Nat.le_of_ble_eq_true rfl) hRl⟩ (0) 12 rfl rfl rfl rfl rfl hl_24.1 (Nat.le_of_ble_eq_true rfl) ⟨Nat.zero_le _, Nat.zero_le _⟩ dX12_remove_51 ?_
            intro H_31 lo_31 I_31
            obtain ⟨x32, ex32⟩ : ∃ y : Int32, y = x15 + (1 : Int32) := ⟨_, rfl⟩
            replace hf := nm_some ex32 hf
            refine lv_iinc (v := x32) (lv' := [(2, .int x32), (0, .ref (ad 0))]) hx hb dX12_remove_54 hl_24 (k := 1) rfl (by rw [ex32]; rfl) (by decide) rfl (fun ls_33 hl_33 => ?_)
            refine lv_goto (tgt := 32) hx hb dX12_remove_57 (by decide) ?_
            cases hf
            exact ih1 _ _ hK1 H_31 lo_31 I_31 ls_33 (lv_sub hl_33 [1, 0] rfl)
      exact L1 FU _ _ hq1 H_13 lo_13 I_13 ls_14 (lv_sub hl_14 [1, 0] rfl)
    · replace hf := (if_neg c35).symm.trans hf
      refine lv_iconst (v := (0 : Int32)) hx hb dX12_remove_24 (by decide) ?_
      cases hf
      exact ret H_10 lo_10 _ ls_7 I_10 dX12_remove_25
  replace hf := hv36
  refine lv_if_eq (tgt := 13) hx hb dX12_remove_6 (by decide) (fun c37 => ?_) (fun c37 => ?_)
  · replace hf := (if_pos c37).symm.trans hf
    refine lv_iconst (v := (1 : Int32)) hx hb dX12_remove_13 (by decide) ?_
    cases hf
    exact J4 H_3 lo_3 I_3 ls (lv_sub hl [0, 1] rfl)
  · replace hf := (if_neg c37).symm.trans hf
    refine lv_iconst (v := (0 : Int32)) hx hb dX12_remove_9 (by decide) ?_
    refine lv_goto (tgt := 14) hx hb dX12_remove_10 (by decide) ?_
    cases hf
    exact J4 H_3 lo_3 I_3 ls (lv_sub hl [0, 1] rfl)
def M_undo_s2  (x30 : Int32) (G31 : Nat → Nat → Int32) : Option ((Int32 × (Nat → Nat → Int32)) ⊕ ((Nat → Nat → Int32))) :=
if G31 10 0 ≤ x30 then
(some (.inr G31))
else
(ri 672 (((56 : Int32) * (G31 13 0)) + x30) <|
ri 56 x30 <|
nm (wr G31 12 x30 (G31 19 (((56 : Int32) * (G31 13 0)) + x30).toNatClampNeg)) fun G41 =>
nm (x30 + (1 : Int32) : Int32) fun x43 =>
some (.inl (x43, G41)))
def M_undo_s1  (x23 : Int32) (G24 : Nat → Nat → Int32) : Option ((Int32 × (Nat → Nat → Int32)) ⊕ ((Nat → Nat → Int32))) :=
if G24 4 0 ≤ x23 then
(some (.inr G24))
else
(ri 576 (((48 : Int32) * (G24 13 0)) + x23) <|
bd (M_unpack G24 x23 (G24 15 (((48 : Int32) * (G24 13 0)) + x23).toNatClampNeg)) fun G50 =>
nm (x23 + (1 : Int32) : Int32) fun x53 =>
some (.inl (x53, G50)))
def M_undo (G : Nat → Nat → Int32) : Option (Int32 × (Nat → Nat → Int32)) :=
bd (if G 13 0 ≤ 0 then
(some (1 : Int32))
else
(some (0 : Int32))) fun x2 =>
nm (wf G 0 x2) fun G6 =>
if G6 0 0 ≤ 0 then
(nm (wf G6 13 ((G6 13 0) - (1 : Int32))) fun G8 =>
ri 12 (G8 13 0) <|
nm (wf G8 4 (G8 14 (G8 13 0).toNatClampNeg)) fun G11 =>
ri 12 (G11 13 0) <|
nm (wf G11 9 (G11 16 (G11 13 0).toNatClampNeg)) fun G14 =>
ri 12 (G14 13 0) <|
nm (wf G14 10 (G14 17 (G14 13 0).toNatClampNeg)) fun G17 =>
ri 12 (G17 13 0) <|
nm (wf G17 11 (G17 18 (G17 13 0).toNatClampNeg)) fun G20 =>
bd (lp (fun q => M_undo_s1 q.1 q.2) FU ((0 : Int32), G20)) fun G25 =>
bd (lp (fun q => M_undo_s2 q.1 q.2) FU ((0 : Int32), G25)) fun G32 =>
some (G32 4 0, G32))
else
(some ((0 : Int32), G6))
set_option maxRecDepth 100000 in
set_option maxHeartbeats 4000000 in
theorem cM_undo (G : Nat → Nat → Int32) (E : Nat → Nat → Int64) (Dd : Nat → Nat → UInt64)  (rv : Int32) (newG : Nat → Nat → Int32) (hf : M_undo G = some (rv, newG)) : sMi D (mT cI cJ cD) (mW ad cI cJ cD) l yX12_undo (ws1 yX12_undo cX12_undo 2 (some .int)) ({ frames := 1, cells := 0, slots := 0, locals := 22 }) [.ref (ad 0)] (G, E, Dd) (rv, (newG, E, Dd)) := by
  unfold M_undo at hf
  refine sMi_of (by decide) (Nat.le_of_ble_eq_true rfl) ?_
  intro p e R s m args below meth c A Q ls H lo F hRf hRl I hl ret
  obtain ⟨hx, hb, hml, hown, hG⟩ := id F
  replace hl : lv_has ls 2 [(0, .ref (ad 0))] := hl
  refine lv_aload_n hx hb dX12_undo_0 rfl (lv_at hl 0 rfl) ?_
  refine lv_aload_n hx hb dX12_undo_1 rfl (lv_at hl 0 rfl) ?_
  refine mgtX12_111_0 F I dX12_undo_2 ?_
  obtain ⟨x2, hv57, hf⟩ := bd_some hf
  have J1 : ∀ (H : Heap) (locs : List Loc), sInv D (mT cI cJ cD) (mW ad cI cJ cD) A s H locs (G, E, Dd) → ∀ (ls : Array Slot), lv_has ls 2 [(0, .ref (ad 0))] → W p l e R s m args below meth c H locs 0 0 Q (F0 m 13 ls [.int x2, .ref (ad 0)]) := by
    intro H_3 lo_3 I_3 ls_4 hl_4
    refine mptX12_89_0 F I_3 dX12_undo_13 ?_
    intro H_7 lo_7 G6 eG6 I_7
    replace hf := nm_some eG6 hf
    refine lv_aload_n hx hb dX12_undo_16 rfl (lv_at hl_4 0 rfl) ?_
    refine mgtX12_89_0 F I_7 dX12_undo_17 ?_
    refine lv_if_le (tgt := 25) hx hb dX12_undo_20 (by decide) (fun c56 => ?_) (fun c56 => ?_)
    · replace hf := (if_pos c56).symm.trans hf
      refine lv_aload_n hx hb dX12_undo_25 rfl (lv_at hl_4 0 rfl) ?_
      refine lv_dup hx hb dX12_undo_26 rfl ?_
      refine mgtX12_111_0 F I_7 dX12_undo_27 ?_
      refine lv_iconst (v := (1 : Int32)) hx hb dX12_undo_30 (by decide) ?_
      refine lv_isub hx hb dX12_undo_31 ?_
      refine mptX12_111_0 F I_7 dX12_undo_32 ?_
      intro H_9 lo_9 G8 eG8 I_9
      replace hf := nm_some eG8 hf
      refine lv_aload_n hx hb dX12_undo_35 rfl (lv_at hl_4 0 rfl) ?_
      refine lv_aload_n hx hb dX12_undo_36 rfl (lv_at hl_4 0 rfl) ?_
      refine mgtX12_32_0 F I_9 dX12_undo_37 ?_
      refine lv_aload_n hx hb dX12_undo_40 rfl (lv_at hl_4 0 rfl) ?_
      refine mgtX12_111_0 F I_9 dX12_undo_41 ?_
      obtain ⟨g10, hf⟩ := ri_some hf
      refine mal7 F I_9 g10 dX12_undo_44 ?_
      refine mptX12_102_0 F I_9 dX12_undo_45 ?_
      intro H_12 lo_12 G11 eG11 I_12
      replace hf := nm_some eG11 hf
      refine lv_aload_n hx hb dX12_undo_48 rfl (lv_at hl_4 0 rfl) ?_
      refine lv_aload_n hx hb dX12_undo_49 rfl (lv_at hl_4 0 rfl) ?_
      refine mgtX12_38_0 F I_12 dX12_undo_50 ?_
      refine lv_aload_n hx hb dX12_undo_53 rfl (lv_at hl_4 0 rfl) ?_
      refine mgtX12_111_0 F I_12 dX12_undo_54 ?_
      obtain ⟨g13, hf⟩ := ri_some hf
      refine mal9 F I_12 g13 dX12_undo_57 ?_
      refine mptX12_25_0 F I_12 dX12_undo_58 ?_
      intro H_15 lo_15 G14 eG14 I_15
      replace hf := nm_some eG14 hf
      refine lv_aload_n hx hb dX12_undo_61 rfl (lv_at hl_4 0 rfl) ?_
      refine lv_aload_n hx hb dX12_undo_62 rfl (lv_at hl_4 0 rfl) ?_
      refine mgtX12_41_0 F I_15 dX12_undo_63 ?_
      refine lv_aload_n hx hb dX12_undo_66 rfl (lv_at hl_4 0 rfl) ?_
      refine mgtX12_111_0 F I_15 dX12_undo_67 ?_
      obtain ⟨g16, hf⟩ := ri_some hf
      refine mal10 F I_15 g16 dX12_undo_70 ?_
      refine mptX12_105_0 F I_15 dX12_undo_71 ?_
      intro H_18 lo_18 G17 eG17 I_18
      replace hf := nm_some eG17 hf
      refine lv_aload_n hx hb dX12_undo_74 rfl (lv_at hl_4 0 rfl) ?_
      refine lv_aload_n hx hb dX12_undo_75 rfl (lv_at hl_4 0 rfl) ?_
      refine mgtX12_44_0 F I_18 dX12_undo_76 ?_
      refine lv_aload_n hx hb dX12_undo_79 rfl (lv_at hl_4 0 rfl) ?_
      refine mgtX12_111_0 F I_18 dX12_undo_80 ?_
      obtain ⟨g19, hf⟩ := ri_some hf
      refine mal11 F I_18 g19 dX12_undo_83 ?_
      refine mptX12_108_0 F I_18 dX12_undo_84 ?_
      intro H_21 lo_21 G20 eG20 I_21
      replace hf := nm_some eG20 hf
      refine lv_iconst (v := (0 : Int32)) hx hb dX12_undo_87 (by decide) ?_
      refine lv_istore_n (lv' := [(1, .int (0 : Int32)), (0, .ref (ad 0))]) hx hb dX12_undo_88 rfl hl_4 (by decide) rfl (fun ls_22 hl_22 => ?_)
      obtain ⟨G25, hq1, hf⟩ := bd_some hf
      have K1 : ∀ (H : Heap) (locs : List Loc), sInv D (mT cI cJ cD) (mW ad cI cJ cD) A s H locs (G25, E, Dd) → ∀ (ls : Array Slot), lv_has ls 2 [(0, .ref (ad 0))] → W p l e R s m args below meth c H locs 0 0 Q (F0 m 122 ls []) := by
        intro H_26 lo_26 I_26 ls_27 hl_27
        refine lv_iconst (v := (0 : Int32)) hx hb dX12_undo_122 (by decide) ?_
        refine lv_istore_n (lv' := [(1, .int (0 : Int32)), (0, .ref (ad 0))]) hx hb dX12_undo_123 rfl hl_27 (by decide) rfl (fun ls_29 hl_29 => ?_)
        obtain ⟨G32, hq2, hf⟩ := bd_some hf
        have K2 : ∀ (H : Heap) (locs : List Loc), sInv D (mT cI cJ cD) (mW ad cI cJ cD) A s H locs (G32, E, Dd) → ∀ (ls : Array Slot), lv_has ls 2 [(0, .ref (ad 0))] → W p l e R s m args below meth c H locs 0 0 Q (F0 m 158 ls []) := by
          intro H_33 lo_33 I_33 ls_34 hl_34
          refine lv_aload_n hx hb dX12_undo_158 rfl (lv_at hl_34 0 rfl) ?_
          refine mgtX12_102_0 F I_33 dX12_undo_159 ?_
          cases hf
          exact ret H_33 lo_33 _ ls_34 I_33 dX12_undo_162
        have L2 : ∀ (n : Nat) (x30 : Int32) (G31 : Nat → Nat → Int32), lp (fun q => M_undo_s2 q.1 q.2) n (x30, G31) = some G32 → ∀ (H : Heap) (locs : List Loc), sInv D (mT cI cJ cD) (mW ad cI cJ cD) A s H locs (G31, E, Dd) → ∀ (ls : Array Slot), lv_has ls 2 [(0, .ref (ad 0)), (1, .int x30)] → W p l e R s m args below meth c H locs 0 0 Q (F0 m 124 ls []) := by
          intro n
          induction n with
          | zero => intro x30 G31 hq; exact (lp_0 hq).elim
          | succ n ih2 =>
            intro x30 G31 hq H_36 lo_36 I_36 ls_37 hl_37
            obtain ⟨y2, hf, hK2⟩ := lp_go hq
            replace hf : M_undo_s2 x30 G31 = some y2 := hf
            unfold M_undo_s2 at hf
            refine lv_iload_n hx hb dX12_undo_124 rfl (lv_at hl_37 1 rfl) ?_
            refine lv_aload_n hx hb dX12_undo_125 rfl (lv_at hl_37 0 rfl) ?_
            refine mgtX12_105_0 F I_36 dX12_undo_126 ?_
            refine lv_icmp_ge (tgt := 158) hx hb dX12_undo_129 (by decide) (fun c45 => ?_) (fun c45 => ?_)
            · replace hf := (if_pos c45).symm.trans hf
              cases hf
              cases (show G31 = G32 from hK2)
              exact K2 H_36 lo_36 I_36 ls_37 (lv_sub hl_37 [0] rfl)
            · replace hf := (if_neg c45).symm.trans hf
              refine lv_aload_n hx hb dX12_undo_132 rfl (lv_at hl_37 0 rfl) ?_
              refine mgtX12_29_0 F I_36 dX12_undo_133 ?_
              refine lv_iload_n hx hb dX12_undo_136 rfl (lv_at hl_37 1 rfl) ?_
              refine lv_aload_n hx hb dX12_undo_137 rfl (lv_at hl_37 0 rfl) ?_
              refine mgtX12_47_0 F I_36 dX12_undo_138 ?_
              refine lv_bipush (v := (56 : Int32)) hx hb dX12_undo_141 (by decide) ?_
              refine lv_aload_n hx hb dX12_undo_143 rfl (lv_at hl_37 0 rfl) ?_
              refine mgtX12_111_0 F I_36 dX12_undo_144 ?_
              refine lv_imul hx hb dX12_undo_147 ?_
              refine lv_iload_n hx hb dX12_undo_148 rfl (lv_at hl_37 1 rfl) ?_
              refine lv_iadd hx hb dX12_undo_149 ?_
              obtain ⟨g39, hf⟩ := ri_some hf
              refine mal12 F I_36 g39 dX12_undo_150 ?_
              obtain ⟨g40, hf⟩ := ri_some hf
              refine mas6 F I_36 g40 dX12_undo_151 ?_
              intro H_42 lo_42 G41 eG41 I_42
              replace hf := nm_some eG41 hf
              obtain ⟨x43, ex43⟩ : ∃ y : Int32, y = x30 + (1 : Int32) := ⟨_, rfl⟩
              replace hf := nm_some ex43 hf
              refine lv_iinc (v := x43) (lv' := [(1, .int x43), (0, .ref (ad 0))]) hx hb dX12_undo_152 hl_37 (k := 1) rfl (by rw [ex43]; rfl) (by decide) rfl (fun ls_44 hl_44 => ?_)
              refine lv_goto (tgt := 124) hx hb dX12_undo_155 (by decide) ?_
              cases hf
              exact ih2 _ _ hK2 H_42 lo_42 I_42 ls_44 (lv_sub hl_44 [1, 0] rfl)
        exact L2 FU _ _ hq2 H_26 lo_26 I_26 ls_29 (lv_sub hl_29 [1, 0] rfl)
      have L1 : ∀ (n : Nat) (x23 : Int32) (G24 : Nat → Nat → Int32), lp (fun q => M_undo_s1 q.1 q.2) n (x23, G24) = some G25 → ∀ (H : Heap) (locs : List Loc), sInv D (mT cI cJ cD) (mW ad cI cJ cD) A s H locs (G24, E, Dd) → ∀ (ls : Array Slot), lv_has ls 2 [(0, .ref (ad 0)), (1, .int x23)] → W p l e R s m args below meth c H locs 0 0 Q (F0 m 89 ls []) := by
        intro n
        induction n with
        | zero => intro x23 G24 hq; exact (lp_0 hq).elim
        | succ n ih1 =>
          intro x23 G24 hq H_46 lo_46 I_46 ls_47 hl_47
          obtain ⟨y1, hf, hK1⟩ := lp_go hq
          replace hf : M_undo_s1 x23 G24 = some y1 := hf
          unfold M_undo_s1 at hf
          refine lv_iload_n hx hb dX12_undo_89 rfl (lv_at hl_47 1 rfl) ?_
          refine lv_aload_n hx hb dX12_undo_90 rfl (lv_at hl_47 0 rfl) ?_
          refine mgtX12_102_0 F I_46 dX12_undo_91 ?_
          refine lv_icmp_ge (tgt := 122) hx hb dX12_undo_94 (by decide) (fun c55 => ?_) (fun c55 => ?_)
          · replace hf := (if_pos c55).symm.trans hf
            cases hf
            cases (show G24 = G25 from hK1)
            exact K1 H_46 lo_46 I_46 ls_47 (lv_sub hl_47 [0] rfl)
          · replace hf := (if_neg c55).symm.trans hf
            refine lv_aload_n hx hb dX12_undo_97 rfl (lv_at hl_47 0 rfl) ?_
            refine lv_iload_n hx hb dX12_undo_98 rfl (lv_at hl_47 1 rfl) ?_
            refine lv_aload_n hx hb dX12_undo_99 rfl (lv_at hl_47 0 rfl) ?_
            refine mgtX12_35_0 F I_46 dX12_undo_100 ?_
            refine lv_bipush (v := (48 : Int32)) hx hb dX12_undo_103 (by decide) ?_
            refine lv_aload_n hx hb dX12_undo_105 rfl (lv_at hl_47 0 rfl) ?_
            refine mgtX12_111_0 F I_46 dX12_undo_106 ?_
            refine lv_imul hx hb dX12_undo_109 ?_
            refine lv_iload_n hx hb dX12_undo_110 rfl (lv_at hl_47 1 rfl) ?_
            refine lv_iadd hx hb dX12_undo_111 ?_
            obtain ⟨g49, hf⟩ := ri_some hf
            refine mal8 F I_46 g49 dX12_undo_112 ?_
            obtain ⟨G50, h51, hf⟩ := bd_some hf
            refine s_callVv (As := [.int x23, .int (G24 15 (((48 : Int32) * (G24 13 0)) + x23).toNatClampNeg)]) (rest := []) F I_46 (cM_unpack G24 E Dd x23 (G24 15 (((48 : Int32) * (G24 13 0)) + x23).toNatClampNeg) G50 h51) kX12_157 ⟨rfl, rfl⟩ ⟨Nat.le_trans (Nat.le_of_ble_eq_true rfl) hRf, Nat.le_trans (Nat.le_of_ble_eq_true rfl) hRl⟩ (0) 12 rfl rfl rfl rfl rfl hl_47.1 (Nat.le_of_ble_eq_true rfl) ⟨Nat.zero_le _, Nat.zero_le _⟩ dX12_undo_113 ?_
            intro H_52 lo_52 I_52
            obtain ⟨x53, ex53⟩ : ∃ y : Int32, y = x23 + (1 : Int32) := ⟨_, rfl⟩
            replace hf := nm_some ex53 hf
            refine lv_iinc (v := x53) (lv' := [(1, .int x53), (0, .ref (ad 0))]) hx hb dX12_undo_116 hl_47 (k := 1) rfl (by rw [ex53]; rfl) (by decide) rfl (fun ls_54 hl_54 => ?_)
            refine lv_goto (tgt := 89) hx hb dX12_undo_119 (by decide) ?_
            cases hf
            exact ih1 _ _ hK1 H_52 lo_52 I_52 ls_54 (lv_sub hl_54 [1, 0] rfl)
      exact L1 FU _ _ hq1 H_21 lo_21 I_21 ls_22 (lv_sub hl_22 [1, 0] rfl)
    · replace hf := (if_neg c56).symm.trans hf
      refine lv_iconst (v := (0 : Int32)) hx hb dX12_undo_23 (by decide) ?_
      cases hf
      exact ret H_7 lo_7 _ ls_4 I_7 dX12_undo_24
  replace hf := hv57
  refine lv_if_le (tgt := 12) hx hb dX12_undo_5 (by decide) (fun c58 => ?_) (fun c58 => ?_)
  · replace hf := (if_pos c58).symm.trans hf
    refine lv_iconst (v := (1 : Int32)) hx hb dX12_undo_12 (by decide) ?_
    cases hf
    exact J1 H lo I ls (lv_sub hl [0] rfl)
  · replace hf := (if_neg c58).symm.trans hf
    refine lv_iconst (v := (0 : Int32)) hx hb dX12_undo_8 (by decide) ?_
    refine lv_goto (tgt := 13) hx hb dX12_undo_9 (by decide) ?_
    cases hf
    exact J1 H lo I ls (lv_sub hl [0] rfl)
def M_append (G : Nat → Nat → Int32) (a0 : Int32) : Option (Int32 × (Nat → Nat → Int32)) :=
bd (M_within a0 (33 : Int32) (126 : Int32)) fun r1 =>
bd (if r1 = 0 then
(some (1 : Int32))
else
(if G 20 0 = (60 : Int32) then
(some (2 : Int32))
else
(some (0 : Int32)))) fun x5 =>
nm (wf G 0 x5) fun G9 =>
if G9 0 0 ≤ 0 then
(ri 60 (G9 20 0) <|
nm (wr G9 21 (G9 20 0) a0) fun G12 =>
nm (wf G12 20 ((G12 20 0) + (1 : Int32))) fun G14 =>
some (G14 20 0, G14))
else
(some ((0 : Int32), G9))
set_option maxRecDepth 100000 in
set_option maxHeartbeats 4000000 in
theorem cM_append (G : Nat → Nat → Int32) (E : Nat → Nat → Int64) (Dd : Nat → Nat → UInt64) (a0 : Int32) (rv : Int32) (newG : Nat → Nat → Int32) (hf : M_append G a0 = some (rv, newG)) : sMi D (mT cI cJ cD) (mW ad cI cJ cD) l yX12_append (ws1 yX12_append cX12_append 2 (some .int)) ({ frames := 1, cells := 0, slots := 0, locals := 22 }) [.ref (ad 0), .int a0] (G, E, Dd) (rv, (newG, E, Dd)) := by
  unfold M_append at hf
  refine sMi_of (by decide) (Nat.le_of_ble_eq_true rfl) ?_
  intro p e R s m args below meth c A Q ls H lo F hRf hRl I hl ret
  obtain ⟨hx, hb, hml, hown, hG⟩ := id F
  replace hl : lv_has ls 2 [(0, .ref (ad 0)), (1, .int a0)] := hl
  refine lv_aload_n hx hb dX12_append_0 rfl (lv_at hl 0 rfl) ?_
  refine lv_iload_n hx hb dX12_append_1 rfl (lv_at hl 1 rfl) ?_
  refine lv_bipush (v := (33 : Int32)) hx hb dX12_append_2 (by decide) ?_
  refine lv_bipush (v := (126 : Int32)) hx hb dX12_append_4 (by decide) ?_
  obtain ⟨r1, h2, hf⟩ := bd_some hf
  refine s_callSi (As := [.int a0, .int (33 : Int32), .int (126 : Int32)]) (rest := [.ref (ad 0)]) F I (cM_within G E Dd a0 (33 : Int32) (126 : Int32) r1 h2) kX12_95 ⟨rfl, rfl⟩ ⟨Nat.le_trans (Nat.le_of_ble_eq_true rfl) hRf, Nat.le_trans (Nat.le_of_ble_eq_true rfl) hRl⟩ rfl rfl hl.1 (Nat.le_of_ble_eq_true rfl) ⟨Nat.zero_le _, Nat.zero_le _⟩ dX12_append_6 ?_
  intro H_3 lo_3 I_3
  obtain ⟨x5, hv17, hf⟩ := bd_some hf
  have J4 : ∀ (H : Heap) (locs : List Loc), sInv D (mT cI cJ cD) (mW ad cI cJ cD) A s H locs (G, E, Dd) → ∀ (ls : Array Slot), lv_has ls 2 [(0, .ref (ad 0)), (1, .int a0)] → W p l e R s m args below meth c H locs 0 0 Q (F0 m 30 ls [.int x5, .ref (ad 0)]) := by
    intro H_6 lo_6 I_6 ls_7 hl_7
    refine mptX12_89_0 F I_6 dX12_append_30 ?_
    intro H_10 lo_10 G9 eG9 I_10
    replace hf := nm_some eG9 hf
    refine lv_aload_n hx hb dX12_append_33 rfl (lv_at hl_7 0 rfl) ?_
    refine mgtX12_89_0 F I_10 dX12_append_34 ?_
    refine lv_if_le (tgt := 42) hx hb dX12_append_37 (by decide) (fun c16 => ?_) (fun c16 => ?_)
    · replace hf := (if_pos c16).symm.trans hf
      refine lv_aload_n hx hb dX12_append_42 rfl (lv_at hl_7 0 rfl) ?_
      refine mgtX12_50_0 F I_10 dX12_append_43 ?_
      refine lv_aload_n hx hb dX12_append_46 rfl (lv_at hl_7 0 rfl) ?_
      refine mgtX12_160_0 F I_10 dX12_append_47 ?_
      refine lv_iload_n hx hb dX12_append_50 rfl (lv_at hl_7 1 rfl) ?_
      obtain ⟨g11, hf⟩ := ri_some hf
      refine mas13 F I_10 g11 dX12_append_51 ?_
      intro H_13 lo_13 G12 eG12 I_13
      replace hf := nm_some eG12 hf
      refine lv_aload_n hx hb dX12_append_52 rfl (lv_at hl_7 0 rfl) ?_
      refine lv_dup hx hb dX12_append_53 rfl ?_
      refine mgtX12_160_0 F I_13 dX12_append_54 ?_
      refine lv_iconst (v := (1 : Int32)) hx hb dX12_append_57 (by decide) ?_
      refine lv_iadd hx hb dX12_append_58 ?_
      refine mptX12_160_0 F I_13 dX12_append_59 ?_
      intro H_15 lo_15 G14 eG14 I_15
      replace hf := nm_some eG14 hf
      refine lv_aload_n hx hb dX12_append_62 rfl (lv_at hl_7 0 rfl) ?_
      refine mgtX12_160_0 F I_15 dX12_append_63 ?_
      cases hf
      exact ret H_15 lo_15 _ ls_7 I_15 dX12_append_66
    · replace hf := (if_neg c16).symm.trans hf
      refine lv_iconst (v := (0 : Int32)) hx hb dX12_append_40 (by decide) ?_
      cases hf
      exact ret H_10 lo_10 _ ls_7 I_10 dX12_append_41
  replace hf := hv17
  refine lv_if_ne (tgt := 16) hx hb dX12_append_9 (by decide) (fun c19 => ?_) (fun c19 => ?_)
  · replace hf := (if_neg c19).symm.trans hf
    refine lv_aload_n hx hb dX12_append_16 rfl (lv_at hl 0 rfl) ?_
    refine mgtX12_160_0 F I_3 dX12_append_17 ?_
    refine lv_bipush (v := (60 : Int32)) hx hb dX12_append_20 (by decide) ?_
    refine lv_icmp_ne (tgt := 29) hx hb dX12_append_22 (by decide) (fun c18 => ?_) (fun c18 => ?_)
    · replace hf := (if_neg c18).symm.trans hf
      refine lv_iconst (v := (0 : Int32)) hx hb dX12_append_29 (by decide) ?_
      cases hf
      exact J4 H_3 lo_3 I_3 ls (lv_sub hl [0, 1] rfl)
    · replace hf := (if_pos c18).symm.trans hf
      refine lv_iconst (v := (2 : Int32)) hx hb dX12_append_25 (by decide) ?_
      refine lv_goto (tgt := 30) hx hb dX12_append_26 (by decide) ?_
      cases hf
      exact J4 H_3 lo_3 I_3 ls (lv_sub hl [0, 1] rfl)
  · replace hf := (if_pos c19).symm.trans hf
    refine lv_iconst (v := (1 : Int32)) hx hb dX12_append_12 (by decide) ?_
    refine lv_goto (tgt := 30) hx hb dX12_append_13 (by decide) ?_
    cases hf
    exact J4 H_3 lo_3 I_3 ls (lv_sub hl [0, 1] rfl)
def M_clearBuffer (G : Nat → Nat → Int32) : Option (Int32 × (Nat → Nat → Int32)) :=
nm (wf G 0 (0 : Int32)) fun G1 =>
nm (G1 20 0 : Int32) fun x3 =>
nm (wf G1 20 (0 : Int32)) fun G5 =>
some (x3, G5)
set_option maxRecDepth 100000 in
set_option maxHeartbeats 4000000 in
theorem cM_clearBuffer (G : Nat → Nat → Int32) (E : Nat → Nat → Int64) (Dd : Nat → Nat → UInt64)  (rv : Int32) (newG : Nat → Nat → Int32) (hf : M_clearBuffer G = some (rv, newG)) : sMi D (mT cI cJ cD) (mW ad cI cJ cD) l yX12_clearBuffer (ws1 yX12_clearBuffer cX12_clearBuffer 2 (some .int)) ({ frames := 0, cells := 0, slots := 0, locals := 0 }) [.ref (ad 0)] (G, E, Dd) (rv, (newG, E, Dd)) := by
  unfold M_clearBuffer at hf
  refine sMi_of (by decide) (Nat.le_of_ble_eq_true rfl) ?_
  intro p e R s m args below meth c A Q ls H lo F hRf hRl I hl ret
  obtain ⟨hx, hb, hml, hown, hG⟩ := id F
  replace hl : lv_has ls 2 [(0, .ref (ad 0))] := hl
  refine lv_aload_n hx hb dX12_clearBuffer_0 rfl (lv_at hl 0 rfl) ?_
  refine lv_iconst (v := (0 : Int32)) hx hb dX12_clearBuffer_1 (by decide) ?_
  refine mptX12_89_0 F I dX12_clearBuffer_2 ?_
  intro H_2 lo_2 G1 eG1 I_2
  replace hf := nm_some eG1 hf
  refine lv_aload_n hx hb dX12_clearBuffer_5 rfl (lv_at hl 0 rfl) ?_
  refine mgtX12_160_0 F I_2 dX12_clearBuffer_6 ?_
  refine lv_topi (fun x3 ex3 => ?_)
  replace hf := nm_some ex3 hf
  refine lv_istore_n (lv' := [(1, .int x3), (0, .ref (ad 0))]) hx hb dX12_clearBuffer_9 rfl hl (by decide) rfl (fun ls_4 hl_4 => ?_)
  refine lv_aload_n hx hb dX12_clearBuffer_10 rfl (lv_at hl_4 1 rfl) ?_
  refine lv_iconst (v := (0 : Int32)) hx hb dX12_clearBuffer_11 (by decide) ?_
  refine mptX12_160_0 F I_2 dX12_clearBuffer_12 ?_
  intro H_6 lo_6 G5 eG5 I_6
  replace hf := nm_some eG5 hf
  refine lv_iload_n hx hb dX12_clearBuffer_15 rfl (lv_at hl_4 0 rfl) ?_
  cases hf
  exact ret H_6 lo_6 _ ls_4 I_6 dX12_clearBuffer_16
def M_answerBy (a0 : Int32) : Option (Int32) :=
if a0 = (61 : Int32) then
(some (0 : Int32))
else
(if a0 = (62 : Int32) then
(some (1 : Int32))
else
(if a0 = (60 : Int32) then
(some (2 : Int32))
else
(some (-1 : Int32))))
set_option maxRecDepth 100000 in
set_option maxHeartbeats 4000000 in
theorem cM_answerBy (G : Nat → Nat → Int32) (E : Nat → Nat → Int64) (Dd : Nat → Nat → UInt64) (a0 : Int32) (rv : Int32)  (hf : M_answerBy a0 = some rv) : sMi D (mT cI cJ cD) (mW ad cI cJ cD) l yX12_answerBy (ws1 yX12_answerBy cX12_answerBy 1 (some .int)) ({ frames := 0, cells := 0, slots := 0, locals := 0 }) [.int a0] (G, E, Dd) (rv, (G, E, Dd)) := by
  unfold M_answerBy at hf
  refine sMi_of (by decide) (Nat.le_of_ble_eq_true rfl) ?_
  intro p e R s m args below meth c A Q ls H lo F hRf hRl I hl ret
  obtain ⟨hx, hb, hml, hown, hG⟩ := id F
  replace hl : lv_has ls 1 [(0, .int a0)] := hl
  refine lv_iload_n hx hb dX12_answerBy_0 rfl (lv_at hl 0 rfl) ?_
  refine lv_bipush (v := (61 : Int32)) hx hb dX12_answerBy_1 (by decide) ?_
  refine lv_icmp_ne (tgt := 10) hx hb dX12_answerBy_3 (by decide) (fun c3 => ?_) (fun c3 => ?_)
  · replace hf := (if_neg c3).symm.trans hf
    refine lv_iload_n hx hb dX12_answerBy_10 rfl (lv_at hl 0 rfl) ?_
    refine lv_bipush (v := (62 : Int32)) hx hb dX12_answerBy_11 (by decide) ?_
    refine lv_icmp_ne (tgt := 20) hx hb dX12_answerBy_13 (by decide) (fun c2 => ?_) (fun c2 => ?_)
    · replace hf := (if_neg c2).symm.trans hf
      refine lv_iload_n hx hb dX12_answerBy_20 rfl (lv_at hl 0 rfl) ?_
      refine lv_bipush (v := (60 : Int32)) hx hb dX12_answerBy_21 (by decide) ?_
      refine lv_icmp_ne (tgt := 30) hx hb dX12_answerBy_23 (by decide) (fun c1 => ?_) (fun c1 => ?_)
      · replace hf := (if_neg c1).symm.trans hf
        refine lv_iconst (v := (-1 : Int32)) hx hb dX12_answerBy_30 (by decide) ?_
        cases hf
        exact ret H lo _ ls I dX12_answerBy_31
      · replace hf := (if_pos c1).symm.trans hf
        refine lv_iconst (v := (2 : Int32)) hx hb dX12_answerBy_26 (by decide) ?_
        refine lv_goto (tgt := 31) hx hb dX12_answerBy_27 (by decide) ?_
        cases hf
        exact ret H lo _ ls I dX12_answerBy_31
    · replace hf := (if_pos c2).symm.trans hf
      refine lv_iconst (v := (1 : Int32)) hx hb dX12_answerBy_16 (by decide) ?_
      refine lv_goto (tgt := 31) hx hb dX12_answerBy_17 (by decide) ?_
      cases hf
      exact ret H lo _ ls I dX12_answerBy_31
  · replace hf := (if_pos c3).symm.trans hf
    refine lv_iconst (v := (0 : Int32)) hx hb dX12_answerBy_6 (by decide) ?_
    refine lv_goto (tgt := 31) hx hb dX12_answerBy_7 (by decide) ?_
    cases hf
    exact ret H lo _ ls I dX12_answerBy_31
def M_goes (G : Nat → Nat → Int32) (a0 : Int32) (a1 : Int32) : Option (Int32 × (Nat → Nat → Int32)) :=
bd (if a0 = 0 then
(some (G 23 0))
else
(some a1)) fun x2 =>
nm (wf G 23 x2) fun G6 =>
gd (a0 = 0 ∨ a0 = 1) <|
some (a0, G6)
set_option maxRecDepth 100000 in
set_option maxHeartbeats 4000000 in
theorem cM_goes (G : Nat → Nat → Int32) (E : Nat → Nat → Int64) (Dd : Nat → Nat → UInt64) (a0 : Int32) (a1 : Int32) (rv : Int32) (newG : Nat → Nat → Int32) (hf : M_goes G a0 a1 = some (rv, newG)) : sMi D (mT cI cJ cD) (mW ad cI cJ cD) l yX12_goes (ws1 yX12_goes cX12_goes 3 (some .boolean)) ({ frames := 0, cells := 0, slots := 0, locals := 0 }) [.ref (ad 0), .int a0, .int a1] (G, E, Dd) (rv, (newG, E, Dd)) := by
  unfold M_goes at hf
  refine sMz_of (by decide) (Nat.le_of_ble_eq_true rfl) ?_
  intro p e R s m args below meth c A Q ls H lo F hRf hRl I hl ret
  obtain ⟨hx, hb, hml, hown, hG⟩ := id F
  replace hl : lv_has ls 3 [(0, .ref (ad 0)), (1, .int a0), (2, .int a1)] := hl
  refine lv_aload_n hx hb dX12_goes_0 rfl (lv_at hl 0 rfl) ?_
  refine lv_iload_n hx hb dX12_goes_1 rfl (lv_at hl 1 rfl) ?_
  obtain ⟨x2, hv9, hf⟩ := bd_some hf
  have J1 : ∀ (H : Heap) (locs : List Loc), sInv D (mT cI cJ cD) (mW ad cI cJ cD) A s H locs (G, E, Dd) → ∀ (ls : Array Slot), lv_has ls 3 [(1, .int a0)] → W p l e R s m args below meth c H locs 0 0 Q (F0 m 13 ls [.int x2, .ref (ad 0)]) := by
    intro H_3 lo_3 I_3 ls_4 hl_4
    refine mptX12_163_0 F I_3 dX12_goes_13 ?_
    intro H_7 lo_7 G6 eG6 I_7
    replace hf := nm_some eG6 hf
    refine lv_iload_n hx hb dX12_goes_16 rfl (lv_at hl_4 0 rfl) ?_
    obtain ⟨g8, hf⟩ := gd_some hf
    cases hf
    exact ret H_7 lo_7 _ ls_4 I_7 g8 dX12_goes_17
  replace hf := hv9
  refine lv_if_eq (tgt := 9) hx hb dX12_goes_2 (by decide) (fun c10 => ?_) (fun c10 => ?_)
  · replace hf := (if_pos c10).symm.trans hf
    refine lv_aload_n hx hb dX12_goes_9 rfl (lv_at hl 0 rfl) ?_
    refine mgtX12_163_0 F I dX12_goes_10 ?_
    cases hf
    exact J1 H lo I ls (lv_sub hl [1] rfl)
  · replace hf := (if_neg c10).symm.trans hf
    refine lv_iload_n hx hb dX12_goes_5 rfl (lv_at hl 2 rfl) ?_
    refine lv_goto (tgt := 13) hx hb dX12_goes_6 (by decide) ?_
    cases hf
    exact J1 H lo I ls (lv_sub hl [1] rfl)
def M_takesSample (G : Nat → Nat → Int32) (a0 : Int32) : Option (Int32 × (Nat → Nat → Int32)) :=
nm (wf G 27 (a0 - (97 : Int32))) fun G1 =>
bd (M_isSample G1 (G1 27 0)) fun r3 =>
bd2 (M_goes G1 r3 (3 : Int32)) fun r6 G7 =>
gd (r6 = 0 ∨ r6 = 1) <|
some (r6, G7)
set_option maxRecDepth 100000 in
set_option maxHeartbeats 4000000 in
theorem cM_takesSample (G : Nat → Nat → Int32) (E : Nat → Nat → Int64) (Dd : Nat → Nat → UInt64) (a0 : Int32) (rv : Int32) (newG : Nat → Nat → Int32) (hf : M_takesSample G a0 = some (rv, newG)) : sMi D (mT cI cJ cD) (mW ad cI cJ cD) l yX12_takesSample (ws1 yX12_takesSample cX12_takesSample 2 (some .boolean)) ({ frames := 2, cells := 0, slots := 0, locals := 43 }) [.ref (ad 0), .int a0] (G, E, Dd) (rv, (newG, E, Dd)) := by
  unfold M_takesSample at hf
  refine sMz_of (by decide) (Nat.le_of_ble_eq_true rfl) ?_
  intro p e R s m args below meth c A Q ls H lo F hRf hRl I hl ret
  obtain ⟨hx, hb, hml, hown, hG⟩ := id F
  replace hl : lv_has ls 2 [(0, .ref (ad 0)), (1, .int a0)] := hl
  refine lv_aload_n hx hb dX12_takesSample_0 rfl (lv_at hl 0 rfl) ?_
  refine lv_iload_n hx hb dX12_takesSample_1 rfl (lv_at hl 1 rfl) ?_
  refine lv_bipush (v := (97 : Int32)) hx hb dX12_takesSample_2 (by decide) ?_
  refine lv_isub hx hb dX12_takesSample_4 ?_
  refine mptX12_166_0 F I dX12_takesSample_5 ?_
  intro H_2 lo_2 G1 eG1 I_2
  replace hf := nm_some eG1 hf
  refine lv_aload_n hx hb dX12_takesSample_8 rfl (lv_at hl 0 rfl) ?_
  refine lv_aload_n hx hb dX12_takesSample_9 rfl (lv_at hl 0 rfl) ?_
  refine lv_aload_n hx hb dX12_takesSample_10 rfl (lv_at hl 0 rfl) ?_
  refine mgtX12_166_0 F I_2 dX12_takesSample_11 ?_
  obtain ⟨r3, h4, hf⟩ := bd_some hf
  refine s_callVi (As := [.int (G1 27 0)]) (rest := [.ref (ad 0)]) F I_2 (cM_isSample G1 E Dd (G1 27 0) r3 h4) kX12_151 ⟨rfl, rfl⟩ ⟨Nat.le_trans (Nat.le_of_ble_eq_true rfl) hRf, Nat.le_trans (Nat.le_of_ble_eq_true rfl) hRl⟩ (0) 12 rfl rfl rfl rfl rfl hl.1 (Nat.le_of_ble_eq_true rfl) ⟨Nat.zero_le _, Nat.zero_le _⟩ dX12_takesSample_14 ?_
  intro H_5 lo_5 I_5
  refine lv_iconst (v := (3 : Int32)) hx hb dX12_takesSample_17 (by decide) ?_
  obtain ⟨r6, G7, h8, hf⟩ := bd2_some hf
  refine s_callVi (As := [.int r3, .int (3 : Int32)]) (rest := []) F I_5 (cM_goes G1 E Dd r3 (3 : Int32) r6 G7 h8) kX12_169 ⟨rfl, rfl⟩ ⟨Nat.le_trans (Nat.le_of_ble_eq_true rfl) hRf, Nat.le_trans (Nat.le_of_ble_eq_true rfl) hRl⟩ (0) 12 rfl rfl rfl rfl rfl hl.1 (Nat.le_of_ble_eq_true rfl) ⟨Nat.zero_le _, Nat.zero_le _⟩ dX12_takesSample_18 ?_
  intro H_9 lo_9 I_9
  obtain ⟨g10, hf⟩ := gd_some hf
  cases hf
  exact ret H_9 lo_9 _ ls I_9 g10 dX12_takesSample_21
def M_takesSign (G : Nat → Nat → Int32) (a0 : Int32) : Option (Int32 × (Nat → Nat → Int32)) :=
bd (M_answerBy a0) fun r1 =>
nm (wf G 28 r1) fun G4 =>
bd (if G4 28 0 = (-1 : Int32) then
(some (0 : Int32))
else
(some (1 : Int32))) fun x7 =>
bd2 (M_goes G4 x7 (4 : Int32)) fun r11 G12 =>
gd (r11 = 0 ∨ r11 = 1) <|
some (r11, G12)
set_option maxRecDepth 100000 in
set_option maxHeartbeats 4000000 in
theorem cM_takesSign (G : Nat → Nat → Int32) (E : Nat → Nat → Int64) (Dd : Nat → Nat → UInt64) (a0 : Int32) (rv : Int32) (newG : Nat → Nat → Int32) (hf : M_takesSign G a0 = some (rv, newG)) : sMi D (mT cI cJ cD) (mW ad cI cJ cD) l yX12_takesSign (ws1 yX12_takesSign cX12_takesSign 2 (some .boolean)) ({ frames := 1, cells := 0, slots := 0, locals := 22 }) [.ref (ad 0), .int a0] (G, E, Dd) (rv, (newG, E, Dd)) := by
  unfold M_takesSign at hf
  refine sMz_of (by decide) (Nat.le_of_ble_eq_true rfl) ?_
  intro p e R s m args below meth c A Q ls H lo F hRf hRl I hl ret
  obtain ⟨hx, hb, hml, hown, hG⟩ := id F
  replace hl : lv_has ls 2 [(0, .ref (ad 0)), (1, .int a0)] := hl
  refine lv_aload_n hx hb dX12_takesSign_0 rfl (lv_at hl 0 rfl) ?_
  refine lv_iload_n hx hb dX12_takesSign_1 rfl (lv_at hl 1 rfl) ?_
  obtain ⟨r1, h2, hf⟩ := bd_some hf
  refine s_callSi (As := [.int a0]) (rest := [.ref (ad 0)]) F I (cM_answerBy G E Dd a0 r1 h2) kX12_173 ⟨rfl, rfl⟩ ⟨Nat.le_trans (Nat.le_of_ble_eq_true rfl) hRf, Nat.le_trans (Nat.le_of_ble_eq_true rfl) hRl⟩ rfl rfl hl.1 (Nat.le_of_ble_eq_true rfl) ⟨Nat.zero_le _, Nat.zero_le _⟩ dX12_takesSign_2 ?_
  intro H_3 lo_3 I_3
  refine mptX12_176_0 F I_3 dX12_takesSign_5 ?_
  intro H_5 lo_5 G4 eG4 I_5
  replace hf := nm_some eG4 hf
  refine lv_aload_n hx hb dX12_takesSign_8 rfl (lv_at hl 0 rfl) ?_
  refine lv_aload_n hx hb dX12_takesSign_9 rfl (lv_at hl 0 rfl) ?_
  refine mgtX12_176_0 F I_5 dX12_takesSign_10 ?_
  refine lv_iconst (v := (-1 : Int32)) hx hb dX12_takesSign_13 (by decide) ?_
  obtain ⟨x7, hv16, hf⟩ := bd_some hf
  have J6 : ∀ (H : Heap) (locs : List Loc), sInv D (mT cI cJ cD) (mW ad cI cJ cD) A s H locs (G4, E, Dd) → ∀ (ls : Array Slot), lv_has ls 2 [] → W p l e R s m args below meth c H locs 0 0 Q (F0 m 22 ls [.int x7, .ref (ad 0)]) := by
    intro H_8 lo_8 I_8 ls_9 hl_9
    refine lv_iconst (v := (4 : Int32)) hx hb dX12_takesSign_22 (by decide) ?_
    obtain ⟨r11, G12, h13, hf⟩ := bd2_some hf
    refine s_callVi (As := [.int x7, .int (4 : Int32)]) (rest := []) F I_8 (cM_goes G4 E Dd x7 (4 : Int32) r11 G12 h13) kX12_169 ⟨rfl, rfl⟩ ⟨Nat.le_trans (Nat.le_of_ble_eq_true rfl) hRf, Nat.le_trans (Nat.le_of_ble_eq_true rfl) hRl⟩ (0) 12 rfl rfl rfl rfl rfl hl_9.1 (Nat.le_of_ble_eq_true rfl) ⟨Nat.zero_le _, Nat.zero_le _⟩ dX12_takesSign_23 ?_
    intro H_14 lo_14 I_14
    obtain ⟨g15, hf⟩ := gd_some hf
    cases hf
    exact ret H_14 lo_14 _ ls_9 I_14 g15 dX12_takesSign_26
  replace hf := hv16
  refine lv_icmp_eq (tgt := 21) hx hb dX12_takesSign_14 (by decide) (fun c17 => ?_) (fun c17 => ?_)
  · replace hf := (if_pos c17).symm.trans hf
    refine lv_iconst (v := (0 : Int32)) hx hb dX12_takesSign_21 (by decide) ?_
    cases hf
    exact J6 H_5 lo_5 I_5 ls (lv_sub hl [] rfl)
  · replace hf := (if_neg c17).symm.trans hf
    refine lv_iconst (v := (1 : Int32)) hx hb dX12_takesSign_17 (by decide) ?_
    refine lv_goto (tgt := 22) hx hb dX12_takesSign_18 (by decide) ?_
    cases hf
    exact J6 H_5 lo_5 I_5 ls (lv_sub hl [] rfl)
def M_takesOther (G : Nat → Nat → Int32) (a0 : Int32) : Option (Int32 × (Nat → Nat → Int32)) :=
nm (a0 - (97 : Int32) : Int32) fun x1 =>
bd (M_isSample G x1) fun r3 =>
bd (if r3 = 0 then
(some (0 : Int32))
else
(if x1 = G 27 0 then
(some (0 : Int32))
else
(some (1 : Int32)))) fun x7 =>
bd (if x7 = 0 then
(some G)
else
(ri 20 (G 24 0) <|
nm (wr G 25 (G 24 0) (((((1000 : Int32) * (G 26 0)) + ((100 : Int32) * (G 27 0))) + ((10 : Int32) * x1)) + (G 28 0))) fun G24 =>
nm (wf G24 24 ((G24 24 0) + (1 : Int32))) fun G26 =>
some G26)) fun G13 =>
bd2 (M_goes G13 x7 (5 : Int32)) fun r17 G18 =>
gd (r17 = 0 ∨ r17 = 1) <|
some (r17, G18)
set_option maxRecDepth 100000 in
set_option maxHeartbeats 4000000 in
theorem cM_takesOther (G : Nat → Nat → Int32) (E : Nat → Nat → Int64) (Dd : Nat → Nat → UInt64) (a0 : Int32) (rv : Int32) (newG : Nat → Nat → Int32) (hf : M_takesOther G a0 = some (rv, newG)) : sMi D (mT cI cJ cD) (mW ad cI cJ cD) l yX12_takesOther (ws1 yX12_takesOther cX12_takesOther 4 (some .boolean)) ({ frames := 2, cells := 0, slots := 0, locals := 43 }) [.ref (ad 0), .int a0] (G, E, Dd) (rv, (newG, E, Dd)) := by
  unfold M_takesOther at hf
  refine sMz_of (by decide) (Nat.le_of_ble_eq_true rfl) ?_
  intro p e R s m args below meth c A Q ls H lo F hRf hRl I hl ret
  obtain ⟨hx, hb, hml, hown, hG⟩ := id F
  replace hl : lv_has ls 4 [(0, .ref (ad 0)), (1, .int a0)] := hl
  refine lv_iload_n hx hb dX12_takesOther_0 rfl (lv_at hl 1 rfl) ?_
  refine lv_bipush (v := (97 : Int32)) hx hb dX12_takesOther_1 (by decide) ?_
  refine lv_isub hx hb dX12_takesOther_3 ?_
  refine lv_topi (fun x1 ex1 => ?_)
  replace hf := nm_some ex1 hf
  refine lv_istore_n (lv' := [(2, .int x1), (0, .ref (ad 0)), (1, .int a0)]) hx hb dX12_takesOther_4 rfl hl (by decide) rfl (fun ls_2 hl_2 => ?_)
  refine lv_aload_n hx hb dX12_takesOther_5 rfl (lv_at hl_2 1 rfl) ?_
  refine lv_iload_n hx hb dX12_takesOther_6 rfl (lv_at hl_2 0 rfl) ?_
  obtain ⟨r3, h4, hf⟩ := bd_some hf
  refine s_callVi (As := [.int x1]) (rest := []) F I (cM_isSample G E Dd x1 r3 h4) kX12_151 ⟨rfl, rfl⟩ ⟨Nat.le_trans (Nat.le_of_ble_eq_true rfl) hRf, Nat.le_trans (Nat.le_of_ble_eq_true rfl) hRl⟩ (0) 12 rfl rfl rfl rfl rfl hl_2.1 (Nat.le_of_ble_eq_true rfl) ⟨Nat.zero_le _, Nat.zero_le _⟩ dX12_takesOther_7 ?_
  intro H_5 lo_5 I_5
  obtain ⟨x7, hv29, hf⟩ := bd_some hf
  have J6 : ∀ (H : Heap) (locs : List Loc), sInv D (mT cI cJ cD) (mW ad cI cJ cD) A s H locs (G, E, Dd) → ∀ (ls : Array Slot), lv_has ls 4 [(0, .ref (ad 0)), (2, .int x1)] → W p l e R s m args below meth c H locs 0 0 Q (F0 m 26 ls [.int x7]) := by
    intro H_8 lo_8 I_8 ls_9 hl_9
    refine lv_istore_n (lv' := [(3, .int x7), (0, .ref (ad 0)), (2, .int x1)]) hx hb dX12_takesOther_26 rfl hl_9 (by decide) rfl (fun ls_11 hl_11 => ?_)
    refine lv_iload_n hx hb dX12_takesOther_27 rfl (lv_at hl_11 0 rfl) ?_
    obtain ⟨G13, hv22, hf⟩ := bd_some hf
    have J12 : ∀ (H : Heap) (locs : List Loc), sInv D (mT cI cJ cD) (mW ad cI cJ cD) A s H locs (G13, E, Dd) → ∀ (ls : Array Slot), lv_has ls 4 [(0, .ref (ad 0)), (3, .int x7)] → W p l e R s m args below meth c H locs 0 0 Q (F0 m 76 ls []) := by
      intro H_14 lo_14 I_14 ls_15 hl_15
      refine lv_aload_n hx hb dX12_takesOther_76 rfl (lv_at hl_15 0 rfl) ?_
      refine lv_iload_n hx hb dX12_takesOther_77 rfl (lv_at hl_15 1 rfl) ?_
      refine lv_iconst (v := (5 : Int32)) hx hb dX12_takesOther_78 (by decide) ?_
      obtain ⟨r17, G18, h19, hf⟩ := bd2_some hf
      refine s_callVi (As := [.int x7, .int (5 : Int32)]) (rest := []) F I_14 (cM_goes G13 E Dd x7 (5 : Int32) r17 G18 h19) kX12_169 ⟨rfl, rfl⟩ ⟨Nat.le_trans (Nat.le_of_ble_eq_true rfl) hRf, Nat.le_trans (Nat.le_of_ble_eq_true rfl) hRl⟩ (0) 12 rfl rfl rfl rfl rfl hl_15.1 (Nat.le_of_ble_eq_true rfl) ⟨Nat.zero_le _, Nat.zero_le _⟩ dX12_takesOther_79 ?_
      intro H_20 lo_20 I_20
      obtain ⟨g21, hf⟩ := gd_some hf
      cases hf
      exact ret H_20 lo_20 _ ls_15 I_20 g21 dX12_takesOther_82
    replace hf := hv22
    refine lv_if_eq (tgt := 76) hx hb dX12_takesOther_28 (by decide) (fun c28 => ?_) (fun c28 => ?_)
    · replace hf := (if_pos c28).symm.trans hf
      cases hf
      exact J12 H_8 lo_8 I_8 ls_11 (lv_sub hl_11 [1, 0] rfl)
    · replace hf := (if_neg c28).symm.trans hf
      refine lv_aload_n hx hb dX12_takesOther_31 rfl (lv_at hl_11 1 rfl) ?_
      refine mgtX12_53_0 F I_8 dX12_takesOther_32 ?_
      refine lv_aload_n hx hb dX12_takesOther_35 rfl (lv_at hl_11 1 rfl) ?_
      refine mgtX12_179_0 F I_8 dX12_takesOther_36 ?_
      refine lv_sipush (v := (1000 : Int32)) hx hb dX12_takesOther_39 (by decide) ?_
      refine lv_aload_n hx hb dX12_takesOther_42 rfl (lv_at hl_11 1 rfl) ?_
      refine mgtX12_182_0 F I_8 dX12_takesOther_43 ?_
      refine lv_imul hx hb dX12_takesOther_46 ?_
      refine lv_bipush (v := (100 : Int32)) hx hb dX12_takesOther_47 (by decide) ?_
      refine lv_aload_n hx hb dX12_takesOther_49 rfl (lv_at hl_11 1 rfl) ?_
      refine mgtX12_166_0 F I_8 dX12_takesOther_50 ?_
      refine lv_imul hx hb dX12_takesOther_53 ?_
      refine lv_iadd hx hb dX12_takesOther_54 ?_
      refine lv_bipush (v := (10 : Int32)) hx hb dX12_takesOther_55 (by decide) ?_
      refine lv_iload_n hx hb dX12_takesOther_57 rfl (lv_at hl_11 2 rfl) ?_
      refine lv_imul hx hb dX12_takesOther_58 ?_
      refine lv_iadd hx hb dX12_takesOther_59 ?_
      refine lv_aload_n hx hb dX12_takesOther_60 rfl (lv_at hl_11 1 rfl) ?_
      refine mgtX12_176_0 F I_8 dX12_takesOther_61 ?_
      refine lv_iadd hx hb dX12_takesOther_64 ?_
      obtain ⟨g23, hf⟩ := ri_some hf
      refine mas14 F I_8 g23 dX12_takesOther_65 ?_
      intro H_25 lo_25 G24 eG24 I_25
      replace hf := nm_some eG24 hf
      refine lv_aload_n hx hb dX12_takesOther_66 rfl (lv_at hl_11 1 rfl) ?_
      refine lv_dup hx hb dX12_takesOther_67 rfl ?_
      refine mgtX12_179_0 F I_25 dX12_takesOther_68 ?_
      refine lv_iconst (v := (1 : Int32)) hx hb dX12_takesOther_71 (by decide) ?_
      refine lv_iadd hx hb dX12_takesOther_72 ?_
      refine mptX12_179_0 F I_25 dX12_takesOther_73 ?_
      intro H_27 lo_27 G26 eG26 I_27
      replace hf := nm_some eG26 hf
      cases hf
      exact J12 H_27 lo_27 I_27 ls_11 (lv_sub hl_11 [1, 0] rfl)
  replace hf := hv29
  refine lv_if_eq (tgt := 25) hx hb dX12_takesOther_10 (by decide) (fun c31 => ?_) (fun c31 => ?_)
  · replace hf := (if_pos c31).symm.trans hf
    refine lv_iconst (v := (0 : Int32)) hx hb dX12_takesOther_25 (by decide) ?_
    cases hf
    exact J6 H_5 lo_5 I_5 ls_2 (lv_sub hl_2 [1, 0] rfl)
  · replace hf := (if_neg c31).symm.trans hf
    refine lv_iload_n hx hb dX12_takesOther_13 rfl (lv_at hl_2 0 rfl) ?_
    refine lv_aload_n hx hb dX12_takesOther_14 rfl (lv_at hl_2 1 rfl) ?_
    refine mgtX12_166_0 F I_5 dX12_takesOther_15 ?_
    refine lv_icmp_eq (tgt := 25) hx hb dX12_takesOther_18 (by decide) (fun c30 => ?_) (fun c30 => ?_)
    · replace hf := (if_pos c30).symm.trans hf
      refine lv_iconst (v := (0 : Int32)) hx hb dX12_takesOther_25 (by decide) ?_
      cases hf
      exact J6 H_5 lo_5 I_5 ls_2 (lv_sub hl_2 [1, 0] rfl)
    · replace hf := (if_neg c30).symm.trans hf
      refine lv_iconst (v := (1 : Int32)) hx hb dX12_takesOther_21 (by decide) ?_
      refine lv_goto (tgt := 26) hx hb dX12_takesOther_22 (by decide) ?_
      cases hf
      exact J6 H_5 lo_5 I_5 ls_2 (lv_sub hl_2 [1, 0] rfl)
def M_takes (G : Nat → Nat → Int32) (a0 : Int32) : Option (Int32 × (Nat → Nat → Int32)) :=
nm (G 23 0 : Int32) fun x1 =>
if x1 = (0 : Int32) then
(nm (wf G 26 (a0 - (48 : Int32))) fun G3 =>
bd (M_isListener G3 (G3 26 0)) fun r5 =>
bd2 (M_goes G3 r5 (1 : Int32)) fun r8 G9 =>
gd (r8 = 0 ∨ r8 = 1) <|
some (r8, G9))
else if x1 = (1 : Int32) then
(bd (if a0 = (58 : Int32) then
(some (1 : Int32))
else
(some (0 : Int32))) fun x15 =>
bd2 (M_goes G x15 (2 : Int32)) fun r19 G20 =>
gd (r19 = 0 ∨ r19 = 1) <|
some (r19, G20))
else if x1 = (2 : Int32) then
(bd2 (M_takesSample G a0) fun r27 G28 =>
gd (r27 = 0 ∨ r27 = 1) <|
some (r27, G28))
else if x1 = (3 : Int32) then
(bd2 (M_takesSign G a0) fun r33 G34 =>
gd (r33 = 0 ∨ r33 = 1) <|
some (r33, G34))
else if x1 = (4 : Int32) then
(bd2 (M_takesOther G a0) fun r39 G40 =>
gd (r39 = 0 ∨ r39 = 1) <|
some (r39, G40))
else (if a0 = (44 : Int32) then
(bd2 (M_goes G (1 : Int32) (2 : Int32)) fun r56 G57 =>
gd (r56 = 0 ∨ r56 = 1) <|
some (r56, G57))
else
(bd (if a0 = (59 : Int32) then
(some (1 : Int32))
else
(some (0 : Int32))) fun x45 =>
bd2 (M_goes G x45 (0 : Int32)) fun r49 G50 =>
gd (r49 = 0 ∨ r49 = 1) <|
some (r49, G50)))
set_option maxRecDepth 100000 in
set_option maxHeartbeats 4000000 in
theorem cM_takes (G : Nat → Nat → Int32) (E : Nat → Nat → Int64) (Dd : Nat → Nat → UInt64) (a0 : Int32) (rv : Int32) (newG : Nat → Nat → Int32) (hf : M_takes G a0 = some (rv, newG)) : sMi D (mT cI cJ cD) (mW ad cI cJ cD) l yX12_takes (ws1 yX12_takes cX12_takes 2 (some .boolean)) ({ frames := 3, cells := 0, slots := 0, locals := 66 }) [.ref (ad 0), .int a0] (G, E, Dd) (rv, (newG, E, Dd)) := by
  unfold M_takes at hf
  refine sMz_of (by decide) (Nat.le_of_ble_eq_true rfl) ?_
  intro p e R s m args below meth c A Q ls H lo F hRf hRl I hl ret
  obtain ⟨hx, hb, hml, hown, hG⟩ := id F
  replace hl : lv_has ls 2 [(0, .ref (ad 0)), (1, .int a0)] := hl
  refine lv_aload_n hx hb dX12_takes_0 rfl (lv_at hl 0 rfl) ?_
  refine mgtX12_163_0 F I dX12_takes_1 ?_
  refine lv_topi (fun x1 ex1 => ?_)
  replace hf := nm_some ex1 hf
  by_cases c2 : x1 = (0 : Int32)
  · replace hf := (if_pos c2).symm.trans hf
    refine lv_tableIn (off := 36) (tgt := 40) hx hb dX12_takes_4 (by rw [c2]; decide) (by rw [c2]; decide) (by rw [c2]; rfl) (by decide) ?_
    refine lv_aload_n hx hb dX12_takes_40 rfl (lv_at hl 0 rfl) ?_
    refine lv_iload_n hx hb dX12_takes_41 rfl (lv_at hl 1 rfl) ?_
    refine lv_bipush (v := (48 : Int32)) hx hb dX12_takes_42 (by decide) ?_
    refine lv_isub hx hb dX12_takes_44 ?_
    refine mptX12_182_0 F I dX12_takes_45 ?_
    intro H_4 lo_4 G3 eG3 I_4
    replace hf := nm_some eG3 hf
    refine lv_aload_n hx hb dX12_takes_48 rfl (lv_at hl 0 rfl) ?_
    refine lv_aload_n hx hb dX12_takes_49 rfl (lv_at hl 0 rfl) ?_
    refine lv_aload_n hx hb dX12_takes_50 rfl (lv_at hl 0 rfl) ?_
    refine mgtX12_182_0 F I_4 dX12_takes_51 ?_
    obtain ⟨r5, h6, hf⟩ := bd_some hf
    refine s_callVi (As := [.int (G3 26 0)]) (rest := [.ref (ad 0)]) F I_4 (cM_isListener G3 E Dd (G3 26 0) r5 h6) kX12_114 ⟨rfl, rfl⟩ ⟨Nat.le_trans (Nat.le_of_ble_eq_true rfl) hRf, Nat.le_trans (Nat.le_of_ble_eq_true rfl) hRl⟩ (0) 12 rfl rfl rfl rfl rfl hl.1 (Nat.le_of_ble_eq_true rfl) ⟨Nat.zero_le _, Nat.zero_le _⟩ dX12_takes_54 ?_
    intro H_7 lo_7 I_7
    refine lv_iconst (v := (1 : Int32)) hx hb dX12_takes_57 (by decide) ?_
    obtain ⟨r8, G9, h10, hf⟩ := bd2_some hf
    refine s_callVi (As := [.int r5, .int (1 : Int32)]) (rest := []) F I_7 (cM_goes G3 E Dd r5 (1 : Int32) r8 G9 h10) kX12_169 ⟨rfl, rfl⟩ ⟨Nat.le_trans (Nat.le_of_ble_eq_true rfl) hRf, Nat.le_trans (Nat.le_of_ble_eq_true rfl) hRl⟩ (0) 12 rfl rfl rfl rfl rfl hl.1 (Nat.le_of_ble_eq_true rfl) ⟨Nat.zero_le _, Nat.zero_le _⟩ dX12_takes_58 ?_
    intro H_11 lo_11 I_11
    obtain ⟨g12, hf⟩ := gd_some hf
    cases hf
    exact ret H_11 lo_11 _ ls I_11 g12 dX12_takes_61
  replace hf := (if_neg c2).symm.trans hf
  by_cases c13 : x1 = (1 : Int32)
  · replace hf := (if_pos c13).symm.trans hf
    refine lv_tableIn (off := 58) (tgt := 62) hx hb dX12_takes_4 (by rw [c13]; decide) (by rw [c13]; decide) (by rw [c13]; rfl) (by decide) ?_
    refine lv_aload_n hx hb dX12_takes_62 rfl (lv_at hl 0 rfl) ?_
    refine lv_iload_n hx hb dX12_takes_63 rfl (lv_at hl 1 rfl) ?_
    refine lv_bipush (v := (58 : Int32)) hx hb dX12_takes_64 (by decide) ?_
    obtain ⟨x15, hv24, hf⟩ := bd_some hf
    have J14 : ∀ (H : Heap) (locs : List Loc), sInv D (mT cI cJ cD) (mW ad cI cJ cD) A s H locs (G, E, Dd) → ∀ (ls : Array Slot), lv_has ls 2 [] → W p l e R s m args below meth c H locs 0 0 Q (F0 m 74 ls [.int x15, .ref (ad 0)]) := by
      intro H_16 lo_16 I_16 ls_17 hl_17
      refine lv_iconst (v := (2 : Int32)) hx hb dX12_takes_74 (by decide) ?_
      obtain ⟨r19, G20, h21, hf⟩ := bd2_some hf
      refine s_callVi (As := [.int x15, .int (2 : Int32)]) (rest := []) F I_16 (cM_goes G E Dd x15 (2 : Int32) r19 G20 h21) kX12_169 ⟨rfl, rfl⟩ ⟨Nat.le_trans (Nat.le_of_ble_eq_true rfl) hRf, Nat.le_trans (Nat.le_of_ble_eq_true rfl) hRl⟩ (0) 12 rfl rfl rfl rfl rfl hl_17.1 (Nat.le_of_ble_eq_true rfl) ⟨Nat.zero_le _, Nat.zero_le _⟩ dX12_takes_75 ?_
      intro H_22 lo_22 I_22
      obtain ⟨g23, hf⟩ := gd_some hf
      cases hf
      exact ret H_22 lo_22 _ ls_17 I_22 g23 dX12_takes_78
    replace hf := hv24
    refine lv_icmp_ne (tgt := 73) hx hb dX12_takes_66 (by decide) (fun c25 => ?_) (fun c25 => ?_)
    · replace hf := (if_neg c25).symm.trans hf
      refine lv_iconst (v := (0 : Int32)) hx hb dX12_takes_73 (by decide) ?_
      cases hf
      exact J14 H lo I ls (lv_sub hl [] rfl)
    · replace hf := (if_pos c25).symm.trans hf
      refine lv_iconst (v := (1 : Int32)) hx hb dX12_takes_69 (by decide) ?_
      refine lv_goto (tgt := 74) hx hb dX12_takes_70 (by decide) ?_
      cases hf
      exact J14 H lo I ls (lv_sub hl [] rfl)
  replace hf := (if_neg c13).symm.trans hf
  by_cases c26 : x1 = (2 : Int32)
  · replace hf := (if_pos c26).symm.trans hf
    refine lv_tableIn (off := 75) (tgt := 79) hx hb dX12_takes_4 (by rw [c26]; decide) (by rw [c26]; decide) (by rw [c26]; rfl) (by decide) ?_
    refine lv_aload_n hx hb dX12_takes_79 rfl (lv_at hl 0 rfl) ?_
    refine lv_iload_n hx hb dX12_takes_80 rfl (lv_at hl 1 rfl) ?_
    obtain ⟨r27, G28, h29, hf⟩ := bd2_some hf
    refine s_callVi (As := [.int a0]) (rest := []) F I (cM_takesSample G E Dd a0 r27 G28 h29) kX12_185 ⟨rfl, rfl⟩ ⟨Nat.le_trans (Nat.le_of_ble_eq_true rfl) hRf, Nat.le_trans (Nat.le_of_ble_eq_true rfl) hRl⟩ (0) 12 rfl rfl rfl rfl rfl hl.1 (Nat.le_of_ble_eq_true rfl) ⟨Nat.zero_le _, Nat.zero_le _⟩ dX12_takes_81 ?_
    intro H_30 lo_30 I_30
    obtain ⟨g31, hf⟩ := gd_some hf
    cases hf
    exact ret H_30 lo_30 _ ls I_30 g31 dX12_takes_84
  replace hf := (if_neg c26).symm.trans hf
  by_cases c32 : x1 = (3 : Int32)
  · replace hf := (if_pos c32).symm.trans hf
    refine lv_tableIn (off := 81) (tgt := 85) hx hb dX12_takes_4 (by rw [c32]; decide) (by rw [c32]; decide) (by rw [c32]; rfl) (by decide) ?_
    refine lv_aload_n hx hb dX12_takes_85 rfl (lv_at hl 0 rfl) ?_
    refine lv_iload_n hx hb dX12_takes_86 rfl (lv_at hl 1 rfl) ?_
    obtain ⟨r33, G34, h35, hf⟩ := bd2_some hf
    refine s_callVi (As := [.int a0]) (rest := []) F I (cM_takesSign G E Dd a0 r33 G34 h35) kX12_188 ⟨rfl, rfl⟩ ⟨Nat.le_trans (Nat.le_of_ble_eq_true rfl) hRf, Nat.le_trans (Nat.le_of_ble_eq_true rfl) hRl⟩ (0) 12 rfl rfl rfl rfl rfl hl.1 (Nat.le_of_ble_eq_true rfl) ⟨Nat.zero_le _, Nat.zero_le _⟩ dX12_takes_87 ?_
    intro H_36 lo_36 I_36
    obtain ⟨g37, hf⟩ := gd_some hf
    cases hf
    exact ret H_36 lo_36 _ ls I_36 g37 dX12_takes_90
  replace hf := (if_neg c32).symm.trans hf
  by_cases c38 : x1 = (4 : Int32)
  · replace hf := (if_pos c38).symm.trans hf
    refine lv_tableIn (off := 87) (tgt := 91) hx hb dX12_takes_4 (by rw [c38]; decide) (by rw [c38]; decide) (by rw [c38]; rfl) (by decide) ?_
    refine lv_aload_n hx hb dX12_takes_91 rfl (lv_at hl 0 rfl) ?_
    refine lv_iload_n hx hb dX12_takes_92 rfl (lv_at hl 1 rfl) ?_
    obtain ⟨r39, G40, h41, hf⟩ := bd2_some hf
    refine s_callVi (As := [.int a0]) (rest := []) F I (cM_takesOther G E Dd a0 r39 G40 h41) kX12_191 ⟨rfl, rfl⟩ ⟨Nat.le_trans (Nat.le_of_ble_eq_true rfl) hRf, Nat.le_trans (Nat.le_of_ble_eq_true rfl) hRl⟩ (0) 12 rfl rfl rfl rfl rfl hl.1 (Nat.le_of_ble_eq_true rfl) ⟨Nat.zero_le _, Nat.zero_le _⟩ dX12_takes_93 ?_
    intro H_42 lo_42 I_42
    obtain ⟨g43, hf⟩ := gd_some hf
    cases hf
    exact ret H_42 lo_42 _ ls I_42 g43 dX12_takes_96
  replace hf := (if_neg c38).symm.trans hf
  refine lv_tableOut (tgt := 97) hx hb dX12_takes_4 (tsw4 c2 c13 c26 c32 c38) (by decide) ?_
  refine lv_iload_n hx hb dX12_takes_97 rfl (lv_at hl 1 rfl) ?_
  refine lv_bipush (v := (44 : Int32)) hx hb dX12_takes_98 (by decide) ?_
  refine lv_icmp_ne (tgt := 112) hx hb dX12_takes_100 (by decide) (fun c61 => ?_) (fun c61 => ?_)
  · replace hf := (if_neg c61).symm.trans hf
    refine lv_aload_n hx hb dX12_takes_112 rfl (lv_at hl 0 rfl) ?_
    refine lv_iload_n hx hb dX12_takes_113 rfl (lv_at hl 1 rfl) ?_
    refine lv_bipush (v := (59 : Int32)) hx hb dX12_takes_114 (by decide) ?_
    obtain ⟨x45, hv54, hf⟩ := bd_some hf
    have J44 : ∀ (H : Heap) (locs : List Loc), sInv D (mT cI cJ cD) (mW ad cI cJ cD) A s H locs (G, E, Dd) → ∀ (ls : Array Slot), lv_has ls 2 [] → W p l e R s m args below meth c H locs 0 0 Q (F0 m 124 ls [.int x45, .ref (ad 0)]) := by
      intro H_46 lo_46 I_46 ls_47 hl_47
      refine lv_iconst (v := (0 : Int32)) hx hb dX12_takes_124 (by decide) ?_
      obtain ⟨r49, G50, h51, hf⟩ := bd2_some hf
      refine s_callVi (As := [.int x45, .int (0 : Int32)]) (rest := []) F I_46 (cM_goes G E Dd x45 (0 : Int32) r49 G50 h51) kX12_169 ⟨rfl, rfl⟩ ⟨Nat.le_trans (Nat.le_of_ble_eq_true rfl) hRf, Nat.le_trans (Nat.le_of_ble_eq_true rfl) hRl⟩ (0) 12 rfl rfl rfl rfl rfl hl_47.1 (Nat.le_of_ble_eq_true rfl) ⟨Nat.zero_le _, Nat.zero_le _⟩ dX12_takes_125 ?_
      intro H_52 lo_52 I_52
      obtain ⟨g53, hf⟩ := gd_some hf
      cases hf
      exact ret H_52 lo_52 _ ls_47 I_52 g53 dX12_takes_128
    replace hf := hv54
    refine lv_icmp_ne (tgt := 123) hx hb dX12_takes_116 (by decide) (fun c55 => ?_) (fun c55 => ?_)
    · replace hf := (if_neg c55).symm.trans hf
      refine lv_iconst (v := (0 : Int32)) hx hb dX12_takes_123 (by decide) ?_
      cases hf
      exact J44 H lo I ls (lv_sub hl [] rfl)
    · replace hf := (if_pos c55).symm.trans hf
      refine lv_iconst (v := (1 : Int32)) hx hb dX12_takes_119 (by decide) ?_
      refine lv_goto (tgt := 124) hx hb dX12_takes_120 (by decide) ?_
      cases hf
      exact J44 H lo I ls (lv_sub hl [] rfl)
  · replace hf := (if_pos c61).symm.trans hf
    refine lv_aload_n hx hb dX12_takes_103 rfl (lv_at hl 0 rfl) ?_
    refine lv_iconst (v := (1 : Int32)) hx hb dX12_takes_104 (by decide) ?_
    refine lv_iconst (v := (2 : Int32)) hx hb dX12_takes_105 (by decide) ?_
    obtain ⟨r56, G57, h58, hf⟩ := bd2_some hf
    refine s_callVi (As := [.int (1 : Int32), .int (2 : Int32)]) (rest := []) F I (cM_goes G E Dd (1 : Int32) (2 : Int32) r56 G57 h58) kX12_169 ⟨rfl, rfl⟩ ⟨Nat.le_trans (Nat.le_of_ble_eq_true rfl) hRf, Nat.le_trans (Nat.le_of_ble_eq_true rfl) hRl⟩ (0) 12 rfl rfl rfl rfl rfl hl.1 (Nat.le_of_ble_eq_true rfl) ⟨Nat.zero_le _, Nat.zero_le _⟩ dX12_takes_106 ?_
    intro H_59 lo_59 I_59
    refine lv_goto (tgt := 128) hx hb dX12_takes_109 (by decide) ?_
    obtain ⟨g60, hf⟩ := gd_some hf
    cases hf
    exact ret H_59 lo_59 _ ls I_59 g60 dX12_takes_128
def M_read_s1  (x6 : Int32) (G7 : Nat → Nat → Int32) : Option ((Int32 × (Nat → Nat → Int32)) ⊕ (Int32 × (Nat → Nat → Int32))) :=
if G7 20 0 ≤ x6 then
(some (.inr (x6, G7)))
else
(ri 60 x6 <|
bd2 (M_takes G7 (G7 21 x6.toNatClampNeg)) fun r17 G18 =>
if r17 = 0 then
(some (.inr (x6, G18)))
else
(nm (x6 + (1 : Int32) : Int32) fun x21 =>
some (.inl (x21, G18))))
def M_read (G : Nat → Nat → Int32) : Option (Int32 × (Nat → Nat → Int32)) :=
nm (wf G 23 (0 : Int32)) fun G1 =>
nm (wf G1 24 (0 : Int32)) fun G3 =>
bd2 (lp (fun q => M_read_s1 q.1 q.2) FU ((0 : Int32), G3)) fun x8 G9 =>
some (x8, G9)
set_option maxRecDepth 100000 in
set_option maxHeartbeats 4000000 in
theorem cM_read (G : Nat → Nat → Int32) (E : Nat → Nat → Int64) (Dd : Nat → Nat → UInt64)  (rv : Int32) (newG : Nat → Nat → Int32) (hf : M_read G = some (rv, newG)) : sMi D (mT cI cJ cD) (mW ad cI cJ cD) l yX12_read (ws1 yX12_read cX12_read 2 (some .int)) ({ frames := 4, cells := 0, slots := 0, locals := 87 }) [.ref (ad 0)] (G, E, Dd) (rv, (newG, E, Dd)) := by
  unfold M_read at hf
  refine sMi_of (by decide) (Nat.le_of_ble_eq_true rfl) ?_
  intro p e R s m args below meth c A Q ls H lo F hRf hRl I hl ret
  obtain ⟨hx, hb, hml, hown, hG⟩ := id F
  replace hl : lv_has ls 2 [(0, .ref (ad 0))] := hl
  refine lv_aload_n hx hb dX12_read_0 rfl (lv_at hl 0 rfl) ?_
  refine lv_iconst (v := (0 : Int32)) hx hb dX12_read_1 (by decide) ?_
  refine mptX12_163_0 F I dX12_read_2 ?_
  intro H_2 lo_2 G1 eG1 I_2
  replace hf := nm_some eG1 hf
  refine lv_aload_n hx hb dX12_read_5 rfl (lv_at hl 0 rfl) ?_
  refine lv_iconst (v := (0 : Int32)) hx hb dX12_read_6 (by decide) ?_
  refine mptX12_179_0 F I_2 dX12_read_7 ?_
  intro H_4 lo_4 G3 eG3 I_4
  replace hf := nm_some eG3 hf
  refine lv_iconst (v := (0 : Int32)) hx hb dX12_read_10 (by decide) ?_
  refine lv_istore_n (lv' := [(1, .int (0 : Int32)), (0, .ref (ad 0))]) hx hb dX12_read_11 rfl hl (by decide) rfl (fun ls_5 hl_5 => ?_)
  obtain ⟨x8, G9, hq1, hf⟩ := bd2_some hf
  have K1 : ∀ (H : Heap) (locs : List Loc), sInv D (mT cI cJ cD) (mW ad cI cJ cD) A s H locs (G9, E, Dd) → ∀ (ls : Array Slot), lv_has ls 2 [(1, .int x8)] → W p l e R s m args below meth c H locs 0 0 Q (F0 m 39 ls []) := by
    intro H_10 lo_10 I_10 ls_11 hl_11
    refine lv_iload_n hx hb dX12_read_39 rfl (lv_at hl_11 0 rfl) ?_
    cases hf
    exact ret H_10 lo_10 _ ls_11 I_10 dX12_read_40
  have L1 : ∀ (n : Nat) (x6 : Int32) (G7 : Nat → Nat → Int32), lp (fun q => M_read_s1 q.1 q.2) n (x6, G7) = some (x8, G9) → ∀ (H : Heap) (locs : List Loc), sInv D (mT cI cJ cD) (mW ad cI cJ cD) A s H locs (G7, E, Dd) → ∀ (ls : Array Slot), lv_has ls 2 [(0, .ref (ad 0)), (1, .int x6)] → W p l e R s m args below meth c H locs 0 0 Q (F0 m 12 ls []) := by
    intro n
    induction n with
    | zero => intro x6 G7 hq; exact (lp_0 hq).elim
    | succ n ih1 =>
      intro x6 G7 hq H_13 lo_13 I_13 ls_14 hl_14
      obtain ⟨y1, hf, hK1⟩ := lp_go hq
      replace hf : M_read_s1 x6 G7 = some y1 := hf
      unfold M_read_s1 at hf
      refine lv_iload_n hx hb dX12_read_12 rfl (lv_at hl_14 1 rfl) ?_
      refine lv_aload_n hx hb dX12_read_13 rfl (lv_at hl_14 0 rfl) ?_
      refine mgtX12_160_0 F I_13 dX12_read_14 ?_
      refine lv_icmp_ge (tgt := 39) hx hb dX12_read_17 (by decide) (fun c24 => ?_) (fun c24 => ?_)
      · replace hf := (if_pos c24).symm.trans hf
        cases hf
        cases (show (x6, G7) = (x8, G9) from hK1)
        exact K1 H_13 lo_13 I_13 ls_14 (lv_sub hl_14 [1] rfl)
      · replace hf := (if_neg c24).symm.trans hf
        refine lv_aload_n hx hb dX12_read_20 rfl (lv_at hl_14 0 rfl) ?_
        refine lv_aload_n hx hb dX12_read_21 rfl (lv_at hl_14 0 rfl) ?_
        refine mgtX12_50_0 F I_13 dX12_read_22 ?_
        refine lv_iload_n hx hb dX12_read_25 rfl (lv_at hl_14 1 rfl) ?_
        obtain ⟨g16, hf⟩ := ri_some hf
        refine mal13 F I_13 g16 dX12_read_26 ?_
        obtain ⟨r17, G18, h19, hf⟩ := bd2_some hf
        refine s_callVi (As := [.int (G7 21 x6.toNatClampNeg)]) (rest := []) F I_13 (cM_takes G7 E Dd (G7 21 x6.toNatClampNeg) r17 G18 h19) kX12_194 ⟨rfl, rfl⟩ ⟨Nat.le_trans (Nat.le_of_ble_eq_true rfl) hRf, Nat.le_trans (Nat.le_of_ble_eq_true rfl) hRl⟩ (0) 12 rfl rfl rfl rfl rfl hl_14.1 (Nat.le_of_ble_eq_true rfl) ⟨Nat.zero_le _, Nat.zero_le _⟩ dX12_read_27 ?_
        intro H_20 lo_20 I_20
        refine lv_if_eq (tgt := 39) hx hb dX12_read_30 (by decide) (fun c23 => ?_) (fun c23 => ?_)
        · replace hf := (if_pos c23).symm.trans hf
          cases hf
          cases (show (x6, G18) = (x8, G9) from hK1)
          exact K1 H_20 lo_20 I_20 ls_14 (lv_sub hl_14 [1] rfl)
        · replace hf := (if_neg c23).symm.trans hf
          obtain ⟨x21, ex21⟩ : ∃ y : Int32, y = x6 + (1 : Int32) := ⟨_, rfl⟩
          replace hf := nm_some ex21 hf
          refine lv_iinc (v := x21) (lv' := [(1, .int x21), (0, .ref (ad 0))]) hx hb dX12_read_33 hl_14 (k := 1) rfl (by rw [ex21]; rfl) (by decide) rfl (fun ls_22 hl_22 => ?_)
          refine lv_goto (tgt := 12) hx hb dX12_read_36 (by decide) ?_
          cases hf
          exact ih1 _ _ hK1 H_20 lo_20 I_20 ls_22 (lv_sub hl_22 [1, 0] rfl)
  exact L1 FU _ _ hq1 H_4 lo_4 I_4 ls_5 (lv_sub hl_5 [1, 0] rfl)
def M_firstError (G : Nat → Nat → Int32) : Option (Int32 × (Nat → Nat → Int32)) :=
nm (wf G 0 (0 : Int32)) fun G1 =>
bd2 (M_read G1) fun r3 G4 =>
some (r3, G4)
set_option maxRecDepth 100000 in
set_option maxHeartbeats 4000000 in
theorem cM_firstError (G : Nat → Nat → Int32) (E : Nat → Nat → Int64) (Dd : Nat → Nat → UInt64)  (rv : Int32) (newG : Nat → Nat → Int32) (hf : M_firstError G = some (rv, newG)) : sMi D (mT cI cJ cD) (mW ad cI cJ cD) l yX12_firstError (ws1 yX12_firstError cX12_firstError 1 (some .int)) ({ frames := 5, cells := 0, slots := 0, locals := 108 }) [.ref (ad 0)] (G, E, Dd) (rv, (newG, E, Dd)) := by
  unfold M_firstError at hf
  refine sMi_of (by decide) (Nat.le_of_ble_eq_true rfl) ?_
  intro p e R s m args below meth c A Q ls H lo F hRf hRl I hl ret
  obtain ⟨hx, hb, hml, hown, hG⟩ := id F
  replace hl : lv_has ls 1 [(0, .ref (ad 0))] := hl
  refine lv_aload_n hx hb dX12_firstError_0 rfl (lv_at hl 0 rfl) ?_
  refine lv_iconst (v := (0 : Int32)) hx hb dX12_firstError_1 (by decide) ?_
  refine mptX12_89_0 F I dX12_firstError_2 ?_
  intro H_2 lo_2 G1 eG1 I_2
  replace hf := nm_some eG1 hf
  refine lv_aload_n hx hb dX12_firstError_5 rfl (lv_at hl 0 rfl) ?_
  obtain ⟨r3, G4, h5, hf⟩ := bd2_some hf
  refine s_callVi (As := []) (rest := []) F I_2 (cM_read G1 E Dd r3 G4 h5) kX12_197 ⟨rfl, rfl⟩ ⟨Nat.le_trans (Nat.le_of_ble_eq_true rfl) hRf, Nat.le_trans (Nat.le_of_ble_eq_true rfl) hRl⟩ (0) 12 rfl rfl rfl rfl rfl hl.1 (Nat.le_of_ble_eq_true rfl) ⟨Nat.zero_le _, Nat.zero_le _⟩ dX12_firstError_6 ?_
  intro H_6 lo_6 I_6
  cases hf
  exact ret H_6 lo_6 _ ls I_6 dX12_firstError_9
def M_load_s1  (x22 : Int32) (G23 : Nat → Nat → Int32) : Option ((Int32 × (Nat → Nat → Int32)) ⊕ ((Nat → Nat → Int32))) :=
if G23 24 0 ≤ x22 then
(some (.inr G23))
else
(ri 20 x22 <|
bd (M_unpack G23 (G23 4 0) (G23 25 x22.toNatClampNeg)) fun G34 =>
nm (wf G34 4 ((G34 4 0) + (1 : Int32))) fun G37 =>
nm (x22 + (1 : Int32) : Int32) fun x39 =>
some (.inl (x39, G37)))
def M_load (G : Nat → Nat → Int32) : Option (Int32 × (Nat → Nat → Int32)) :=
bd2 (M_read G) fun r1 G2 =>
bd (if r1 = G2 20 0 then
(if G2 23 0 = (5 : Int32) then
(some (1 : Int32))
else
(some (0 : Int32)))
else
(some (0 : Int32))) fun x6 =>
bd (if x6 = 0 then
(some (1 : Int32))
else
(if (G2 4 0) + (G2 24 0) ≤ (48 : Int32) then
(some (0 : Int32))
else
(some (2 : Int32)))) fun x12 =>
nm (wf G2 0 x12) fun G16 =>
if G16 0 0 ≤ 0 then
(bd (M_keep G16) fun G18 =>
bd (lp (fun q => M_load_s1 q.1 q.2) FU ((0 : Int32), G18)) fun G24 =>
nm (wf G24 20 (0 : Int32)) fun G28 =>
some (G28 24 0, G28))
else
(some ((0 : Int32), G16))
set_option maxRecDepth 100000 in
set_option maxHeartbeats 4000000 in
theorem cM_load (G : Nat → Nat → Int32) (E : Nat → Nat → Int64) (Dd : Nat → Nat → UInt64)  (rv : Int32) (newG : Nat → Nat → Int32) (hf : M_load G = some (rv, newG)) : sMi D (mT cI cJ cD) (mW ad cI cJ cD) l yX12_load (ws1 yX12_load cX12_load 3 (some .int)) ({ frames := 5, cells := 0, slots := 0, locals := 108 }) [.ref (ad 0)] (G, E, Dd) (rv, (newG, E, Dd)) := by
  unfold M_load at hf
  refine sMi_of (by decide) (Nat.le_of_ble_eq_true rfl) ?_
  intro p e R s m args below meth c A Q ls H lo F hRf hRl I hl ret
  obtain ⟨hx, hb, hml, hown, hG⟩ := id F
  replace hl : lv_has ls 3 [(0, .ref (ad 0))] := hl
  refine lv_aload_n hx hb dX12_load_0 rfl (lv_at hl 0 rfl) ?_
  obtain ⟨r1, G2, h3, hf⟩ := bd2_some hf
  refine s_callVi (As := []) (rest := []) F I (cM_read G E Dd r1 G2 h3) kX12_197 ⟨rfl, rfl⟩ ⟨Nat.le_trans (Nat.le_of_ble_eq_true rfl) hRf, Nat.le_trans (Nat.le_of_ble_eq_true rfl) hRl⟩ (0) 12 rfl rfl rfl rfl rfl hl.1 (Nat.le_of_ble_eq_true rfl) ⟨Nat.zero_le _, Nat.zero_le _⟩ dX12_load_1 ?_
  intro H_4 lo_4 I_4
  refine lv_aload_n hx hb dX12_load_4 rfl (lv_at hl 0 rfl) ?_
  refine mgtX12_160_0 F I_4 dX12_load_5 ?_
  obtain ⟨x6, hv46, hf⟩ := bd_some hf
  have J5 : ∀ (H : Heap) (locs : List Loc), sInv D (mT cI cJ cD) (mW ad cI cJ cD) A s H locs (G2, E, Dd) → ∀ (ls : Array Slot), lv_has ls 3 [(0, .ref (ad 0))] → W p l e R s m args below meth c H locs 0 0 Q (F0 m 24 ls [.int x6]) := by
    intro H_7 lo_7 I_7 ls_8 hl_8
    refine lv_istore_n (lv' := [(1, .int x6), (0, .ref (ad 0))]) hx hb dX12_load_24 rfl hl_8 (by decide) rfl (fun ls_10 hl_10 => ?_)
    refine lv_aload_n hx hb dX12_load_25 rfl (lv_at hl_10 1 rfl) ?_
    refine lv_iload_n hx hb dX12_load_26 rfl (lv_at hl_10 0 rfl) ?_
    obtain ⟨x12, hv43, hf⟩ := bd_some hf
    have J11 : ∀ (H : Heap) (locs : List Loc), sInv D (mT cI cJ cD) (mW ad cI cJ cD) A s H locs (G2, E, Dd) → ∀ (ls : Array Slot), lv_has ls 3 [(0, .ref (ad 0))] → W p l e R s m args below meth c H locs 0 0 Q (F0 m 53 ls [.int x12, .ref (ad 0)]) := by
      intro H_13 lo_13 I_13 ls_14 hl_14
      refine mptX12_89_0 F I_13 dX12_load_53 ?_
      intro H_17 lo_17 G16 eG16 I_17
      replace hf := nm_some eG16 hf
      refine lv_aload_n hx hb dX12_load_56 rfl (lv_at hl_14 0 rfl) ?_
      refine mgtX12_89_0 F I_17 dX12_load_57 ?_
      refine lv_if_le (tgt := 65) hx hb dX12_load_60 (by decide) (fun c42 => ?_) (fun c42 => ?_)
      · replace hf := (if_pos c42).symm.trans hf
        refine lv_aload_n hx hb dX12_load_65 rfl (lv_at hl_14 0 rfl) ?_
        obtain ⟨G18, h19, hf⟩ := bd_some hf
        refine s_callVv (As := []) (rest := []) F I_17 (cM_keep G16 E Dd G18 h19) kX12_144 ⟨rfl, rfl⟩ ⟨Nat.le_trans (Nat.le_of_ble_eq_true rfl) hRf, Nat.le_trans (Nat.le_of_ble_eq_true rfl) hRl⟩ (0) 12 rfl rfl rfl rfl rfl hl_14.1 (Nat.le_of_ble_eq_true rfl) ⟨Nat.zero_le _, Nat.zero_le _⟩ dX12_load_66 ?_
        intro H_20 lo_20 I_20
        refine lv_iconst (v := (0 : Int32)) hx hb dX12_load_69 (by decide) ?_
        refine lv_istore_n (lv' := [(2, .int (0 : Int32)), (0, .ref (ad 0))]) hx hb dX12_load_70 rfl hl_14 (by decide) rfl (fun ls_21 hl_21 => ?_)
        obtain ⟨G24, hq1, hf⟩ := bd_some hf
        have K1 : ∀ (H : Heap) (locs : List Loc), sInv D (mT cI cJ cD) (mW ad cI cJ cD) A s H locs (G24, E, Dd) → ∀ (ls : Array Slot), lv_has ls 3 [(0, .ref (ad 0))] → W p l e R s m args below meth c H locs 0 0 Q (F0 m 109 ls []) := by
          intro H_25 lo_25 I_25 ls_26 hl_26
          refine lv_aload_n hx hb dX12_load_109 rfl (lv_at hl_26 0 rfl) ?_
          refine lv_iconst (v := (0 : Int32)) hx hb dX12_load_110 (by decide) ?_
          refine mptX12_160_0 F I_25 dX12_load_111 ?_
          intro H_29 lo_29 G28 eG28 I_29
          replace hf := nm_some eG28 hf
          refine lv_aload_n hx hb dX12_load_114 rfl (lv_at hl_26 0 rfl) ?_
          refine mgtX12_179_0 F I_29 dX12_load_115 ?_
          cases hf
          exact ret H_29 lo_29 _ ls_26 I_29 dX12_load_118
        have L1 : ∀ (n : Nat) (x22 : Int32) (G23 : Nat → Nat → Int32), lp (fun q => M_load_s1 q.1 q.2) n (x22, G23) = some G24 → ∀ (H : Heap) (locs : List Loc), sInv D (mT cI cJ cD) (mW ad cI cJ cD) A s H locs (G23, E, Dd) → ∀ (ls : Array Slot), lv_has ls 3 [(0, .ref (ad 0)), (2, .int x22)] → W p l e R s m args below meth c H locs 0 0 Q (F0 m 71 ls []) := by
          intro n
          induction n with
          | zero => intro x22 G23 hq; exact (lp_0 hq).elim
          | succ n ih1 =>
            intro x22 G23 hq H_30 lo_30 I_30 ls_31 hl_31
            obtain ⟨y1, hf, hK1⟩ := lp_go hq
            replace hf : M_load_s1 x22 G23 = some y1 := hf
            unfold M_load_s1 at hf
            refine lv_iload_n hx hb dX12_load_71 rfl (lv_at hl_31 1 rfl) ?_
            refine lv_aload_n hx hb dX12_load_72 rfl (lv_at hl_31 0 rfl) ?_
            refine mgtX12_179_0 F I_30 dX12_load_73 ?_
            refine lv_icmp_ge (tgt := 109) hx hb dX12_load_76 (by decide) (fun c41 => ?_) (fun c41 => ?_)
            · replace hf := (if_pos c41).symm.trans hf
              cases hf
              cases (show G23 = G24 from hK1)
              exact K1 H_30 lo_30 I_30 ls_31 (lv_sub hl_31 [0] rfl)
            · replace hf := (if_neg c41).symm.trans hf
              refine lv_aload_n hx hb dX12_load_79 rfl (lv_at hl_31 0 rfl) ?_
              refine lv_aload_n hx hb dX12_load_80 rfl (lv_at hl_31 0 rfl) ?_
              refine mgtX12_102_0 F I_30 dX12_load_81 ?_
              refine lv_aload_n hx hb dX12_load_84 rfl (lv_at hl_31 0 rfl) ?_
              refine mgtX12_53_0 F I_30 dX12_load_85 ?_
              refine lv_iload_n hx hb dX12_load_88 rfl (lv_at hl_31 1 rfl) ?_
              obtain ⟨g33, hf⟩ := ri_some hf
              refine mal14 F I_30 g33 dX12_load_89 ?_
              obtain ⟨G34, h35, hf⟩ := bd_some hf
              refine s_callVv (As := [.int (G23 4 0), .int (G23 25 x22.toNatClampNeg)]) (rest := []) F I_30 (cM_unpack G23 E Dd (G23 4 0) (G23 25 x22.toNatClampNeg) G34 h35) kX12_157 ⟨rfl, rfl⟩ ⟨Nat.le_trans (Nat.le_of_ble_eq_true rfl) hRf, Nat.le_trans (Nat.le_of_ble_eq_true rfl) hRl⟩ (0) 12 rfl rfl rfl rfl rfl hl_31.1 (Nat.le_of_ble_eq_true rfl) ⟨Nat.zero_le _, Nat.zero_le _⟩ dX12_load_90 ?_
              intro H_36 lo_36 I_36
              refine lv_aload_n hx hb dX12_load_93 rfl (lv_at hl_31 0 rfl) ?_
              refine lv_dup hx hb dX12_load_94 rfl ?_
              refine mgtX12_102_0 F I_36 dX12_load_95 ?_
              refine lv_iconst (v := (1 : Int32)) hx hb dX12_load_98 (by decide) ?_
              refine lv_iadd hx hb dX12_load_99 ?_
              refine mptX12_102_0 F I_36 dX12_load_100 ?_
              intro H_38 lo_38 G37 eG37 I_38
              replace hf := nm_some eG37 hf
              obtain ⟨x39, ex39⟩ : ∃ y : Int32, y = x22 + (1 : Int32) := ⟨_, rfl⟩
              replace hf := nm_some ex39 hf
              refine lv_iinc (v := x39) (lv' := [(2, .int x39), (0, .ref (ad 0))]) hx hb dX12_load_103 hl_31 (k := 1) rfl (by rw [ex39]; rfl) (by decide) rfl (fun ls_40 hl_40 => ?_)
              refine lv_goto (tgt := 71) hx hb dX12_load_106 (by decide) ?_
              cases hf
              exact ih1 _ _ hK1 H_38 lo_38 I_38 ls_40 (lv_sub hl_40 [1, 0] rfl)
        exact L1 FU _ _ hq1 H_20 lo_20 I_20 ls_21 (lv_sub hl_21 [1, 0] rfl)
      · replace hf := (if_neg c42).symm.trans hf
        refine lv_iconst (v := (0 : Int32)) hx hb dX12_load_63 (by decide) ?_
        cases hf
        exact ret H_17 lo_17 _ ls_14 I_17 dX12_load_64
    replace hf := hv43
    refine lv_if_ne (tgt := 34) hx hb dX12_load_27 (by decide) (fun c45 => ?_) (fun c45 => ?_)
    · replace hf := (if_neg c45).symm.trans hf
      refine lv_aload_n hx hb dX12_load_34 rfl (lv_at hl_10 1 rfl) ?_
      refine mgtX12_102_0 F I_7 dX12_load_35 ?_
      refine lv_aload_n hx hb dX12_load_38 rfl (lv_at hl_10 1 rfl) ?_
      refine mgtX12_179_0 F I_7 dX12_load_39 ?_
      refine lv_iadd hx hb dX12_load_42 ?_
      refine lv_bipush (v := (48 : Int32)) hx hb dX12_load_43 (by decide) ?_
      refine lv_icmp_le (tgt := 52) hx hb dX12_load_45 (by decide) (fun c44 => ?_) (fun c44 => ?_)
      · replace hf := (if_pos c44).symm.trans hf
        refine lv_iconst (v := (0 : Int32)) hx hb dX12_load_52 (by decide) ?_
        cases hf
        exact J11 H_7 lo_7 I_7 ls_10 (lv_sub hl_10 [1] rfl)
      · replace hf := (if_neg c44).symm.trans hf
        refine lv_iconst (v := (2 : Int32)) hx hb dX12_load_48 (by decide) ?_
        refine lv_goto (tgt := 53) hx hb dX12_load_49 (by decide) ?_
        cases hf
        exact J11 H_7 lo_7 I_7 ls_10 (lv_sub hl_10 [1] rfl)
    · replace hf := (if_pos c45).symm.trans hf
      refine lv_iconst (v := (1 : Int32)) hx hb dX12_load_30 (by decide) ?_
      refine lv_goto (tgt := 53) hx hb dX12_load_31 (by decide) ?_
      cases hf
      exact J11 H_7 lo_7 I_7 ls_10 (lv_sub hl_10 [1] rfl)
  replace hf := hv46
  refine lv_icmp_ne (tgt := 23) hx hb dX12_load_8 (by decide) (fun c48 => ?_) (fun c48 => ?_)
  · replace hf := (if_neg c48).symm.trans hf
    refine lv_iconst (v := (0 : Int32)) hx hb dX12_load_23 (by decide) ?_
    cases hf
    exact J5 H_4 lo_4 I_4 ls (lv_sub hl [0] rfl)
  · replace hf := (if_pos c48).symm.trans hf
    refine lv_aload_n hx hb dX12_load_11 rfl (lv_at hl 0 rfl) ?_
    refine mgtX12_163_0 F I_4 dX12_load_12 ?_
    refine lv_iconst (v := (5 : Int32)) hx hb dX12_load_15 (by decide) ?_
    refine lv_icmp_ne (tgt := 23) hx hb dX12_load_16 (by decide) (fun c47 => ?_) (fun c47 => ?_)
    · replace hf := (if_neg c47).symm.trans hf
      refine lv_iconst (v := (0 : Int32)) hx hb dX12_load_23 (by decide) ?_
      cases hf
      exact J5 H_4 lo_4 I_4 ls (lv_sub hl [0] rfl)
    · replace hf := (if_pos c47).symm.trans hf
      refine lv_iconst (v := (1 : Int32)) hx hb dX12_load_19 (by decide) ?_
      refine lv_goto (tgt := 24) hx hb dX12_load_20 (by decide) ?_
      cases hf
      exact J5 H_4 lo_4 I_4 ls (lv_sub hl [0] rfl)
def M_wonBy (G : Nat → Nat → Int32) (a0 : Int32) : Option (Int32) :=
ri 48 a0 <|
if G 8 a0.toNatClampNeg = (1 : Int32) then
(ri 48 a0 <|
some (G 6 a0.toNatClampNeg))
else
(ri 48 a0 <|
if G 8 a0.toNatClampNeg = (2 : Int32) then
(ri 48 a0 <|
some (G 7 a0.toNatClampNeg))
else
(some (-1 : Int32)))
set_option maxRecDepth 100000 in
set_option maxHeartbeats 4000000 in
theorem cM_wonBy (G : Nat → Nat → Int32) (E : Nat → Nat → Int64) (Dd : Nat → Nat → UInt64) (a0 : Int32) (rv : Int32)  (hf : M_wonBy G a0 = some rv) : sMi D (mT cI cJ cD) (mW ad cI cJ cD) l yX12_wonBy (ws1 yX12_wonBy cX12_wonBy 2 (some .int)) ({ frames := 0, cells := 0, slots := 0, locals := 0 }) [.ref (ad 0), .int a0] (G, E, Dd) (rv, (G, E, Dd)) := by
  unfold M_wonBy at hf
  refine sMi_of (by decide) (Nat.le_of_ble_eq_true rfl) ?_
  intro p e R s m args below meth c A Q ls H lo F hRf hRl I hl ret
  obtain ⟨hx, hb, hml, hown, hG⟩ := id F
  replace hl : lv_has ls 2 [(0, .ref (ad 0)), (1, .int a0)] := hl
  refine lv_aload_n hx hb dX12_wonBy_0 rfl (lv_at hl 0 rfl) ?_
  refine mgtX12_22_0 F I dX12_wonBy_1 ?_
  refine lv_iload_n hx hb dX12_wonBy_4 rfl (lv_at hl 1 rfl) ?_
  obtain ⟨g1, hf⟩ := ri_some hf
  refine mal5 F I g1 dX12_wonBy_5 ?_
  refine lv_iconst (v := (1 : Int32)) hx hb dX12_wonBy_6 (by decide) ?_
  refine lv_icmp_ne (tgt := 19) hx hb dX12_wonBy_7 (by decide) (fun c6 => ?_) (fun c6 => ?_)
  · replace hf := (if_neg c6).symm.trans hf
    refine lv_aload_n hx hb dX12_wonBy_19 rfl (lv_at hl 0 rfl) ?_
    refine mgtX12_22_0 F I dX12_wonBy_20 ?_
    refine lv_iload_n hx hb dX12_wonBy_23 rfl (lv_at hl 1 rfl) ?_
    obtain ⟨g2, hf⟩ := ri_some hf
    refine mal5 F I g2 dX12_wonBy_24 ?_
    refine lv_iconst (v := (2 : Int32)) hx hb dX12_wonBy_25 (by decide) ?_
    refine lv_icmp_ne (tgt := 38) hx hb dX12_wonBy_26 (by decide) (fun c4 => ?_) (fun c4 => ?_)
    · replace hf := (if_neg c4).symm.trans hf
      refine lv_iconst (v := (-1 : Int32)) hx hb dX12_wonBy_38 (by decide) ?_
      cases hf
      exact ret H lo _ ls I dX12_wonBy_39
    · replace hf := (if_pos c4).symm.trans hf
      refine lv_aload_n hx hb dX12_wonBy_29 rfl (lv_at hl 0 rfl) ?_
      refine mgtX12_19_0 F I dX12_wonBy_30 ?_
      refine lv_iload_n hx hb dX12_wonBy_33 rfl (lv_at hl 1 rfl) ?_
      obtain ⟨g3, hf⟩ := ri_some hf
      refine mal4 F I g3 dX12_wonBy_34 ?_
      refine lv_goto (tgt := 39) hx hb dX12_wonBy_35 (by decide) ?_
      cases hf
      exact ret H lo _ ls I dX12_wonBy_39
  · replace hf := (if_pos c6).symm.trans hf
    refine lv_aload_n hx hb dX12_wonBy_10 rfl (lv_at hl 0 rfl) ?_
    refine mgtX12_16_0 F I dX12_wonBy_11 ?_
    refine lv_iload_n hx hb dX12_wonBy_14 rfl (lv_at hl 1 rfl) ?_
    obtain ⟨g5, hf⟩ := ri_some hf
    refine mal3 F I g5 dX12_wonBy_15 ?_
    refine lv_goto (tgt := 39) hx hb dX12_wonBy_16 (by decide) ?_
    cases hf
    exact ret H lo _ ls I dX12_wonBy_39
def M_ties_s1 (G : Nat → Nat → Int32) (x3 : Int32) (x4 : Int32) : Option ((Int32 × Int32) ⊕ (Int32)) :=
if G 4 0 ≤ x4 then
(some (.inr x3))
else
(ri 48 x4 <|
bd (if G 8 x4.toNatClampNeg = 0 then
(some (1 : Int32))
else
(some (0 : Int32))) fun x14 =>
nm (x3 + x14 : Int32) fun x18 =>
nm (x4 + (1 : Int32) : Int32) fun x20 =>
some (.inl (x18, x20)))
def M_ties (G : Nat → Nat → Int32) : Option (Int32) :=
bd (lp (fun q => M_ties_s1 G q.1 q.2) FU ((0 : Int32), (0 : Int32))) fun x5 =>
some x5
set_option maxRecDepth 100000 in
set_option maxHeartbeats 4000000 in
theorem cM_ties (G : Nat → Nat → Int32) (E : Nat → Nat → Int64) (Dd : Nat → Nat → UInt64)  (rv : Int32)  (hf : M_ties G = some rv) : sMi D (mT cI cJ cD) (mW ad cI cJ cD) l yX12_ties (ws1 yX12_ties cX12_ties 3 (some .int)) ({ frames := 0, cells := 0, slots := 0, locals := 0 }) [.ref (ad 0)] (G, E, Dd) (rv, (G, E, Dd)) := by
  unfold M_ties at hf
  refine sMi_of (by decide) (Nat.le_of_ble_eq_true rfl) ?_
  intro p e R s m args below meth c A Q ls H lo F hRf hRl I hl ret
  obtain ⟨hx, hb, hml, hown, hG⟩ := id F
  replace hl : lv_has ls 3 [(0, .ref (ad 0))] := hl
  refine lv_iconst (v := (0 : Int32)) hx hb dX12_ties_0 (by decide) ?_
  refine lv_istore_n (lv' := [(1, .int (0 : Int32)), (0, .ref (ad 0))]) hx hb dX12_ties_1 rfl hl (by decide) rfl (fun ls_1 hl_1 => ?_)
  refine lv_iconst (v := (0 : Int32)) hx hb dX12_ties_2 (by decide) ?_
  refine lv_istore_n (lv' := [(2, .int (0 : Int32)), (1, .int (0 : Int32)), (0, .ref (ad 0))]) hx hb dX12_ties_3 rfl hl_1 (by decide) rfl (fun ls_2 hl_2 => ?_)
  obtain ⟨x5, hq1, hf⟩ := bd_some hf
  have K1 : ∀ (H : Heap) (locs : List Loc), sInv D (mT cI cJ cD) (mW ad cI cJ cD) A s H locs (G, E, Dd) → ∀ (ls : Array Slot), lv_has ls 3 [(1, .int x5)] → W p l e R s m args below meth c H locs 0 0 Q (F0 m 35 ls []) := by
    intro H_6 lo_6 I_6 ls_7 hl_7
    refine lv_iload_n hx hb dX12_ties_35 rfl (lv_at hl_7 0 rfl) ?_
    cases hf
    exact ret H_6 lo_6 _ ls_7 I_6 dX12_ties_36
  have L1 : ∀ (n : Nat) (x3 : Int32) (x4 : Int32), lp (fun q => M_ties_s1 G q.1 q.2) n (x3, x4) = some x5 → ∀ (H : Heap) (locs : List Loc), sInv D (mT cI cJ cD) (mW ad cI cJ cD) A s H locs (G, E, Dd) → ∀ (ls : Array Slot), lv_has ls 3 [(0, .ref (ad 0)), (1, .int x3), (2, .int x4)] → W p l e R s m args below meth c H locs 0 0 Q (F0 m 4 ls []) := by
    intro n
    induction n with
    | zero => intro x3 x4 hq; exact (lp_0 hq).elim
    | succ n ih1 =>
      intro x3 x4 hq H_9 lo_9 I_9 ls_10 hl_10
      obtain ⟨y1, hf, hK1⟩ := lp_go hq
      replace hf : M_ties_s1 G x3 x4 = some y1 := hf
      unfold M_ties_s1 at hf
      refine lv_iload_n hx hb dX12_ties_4 rfl (lv_at hl_10 2 rfl) ?_
      refine lv_aload_n hx hb dX12_ties_5 rfl (lv_at hl_10 0 rfl) ?_
      refine mgtX12_102_0 F I_9 dX12_ties_6 ?_
      refine lv_icmp_ge (tgt := 35) hx hb dX12_ties_9 (by decide) (fun c24 => ?_) (fun c24 => ?_)
      · replace hf := (if_pos c24).symm.trans hf
        cases hf
        cases (show x3 = x5 from hK1)
        exact K1 H_9 lo_9 I_9 ls_10 (lv_sub hl_10 [1] rfl)
      · replace hf := (if_neg c24).symm.trans hf
        refine lv_iload_n hx hb dX12_ties_12 rfl (lv_at hl_10 1 rfl) ?_
        refine lv_aload_n hx hb dX12_ties_13 rfl (lv_at hl_10 0 rfl) ?_
        refine mgtX12_22_0 F I_9 dX12_ties_14 ?_
        refine lv_iload_n hx hb dX12_ties_17 rfl (lv_at hl_10 2 rfl) ?_
        obtain ⟨g12, hf⟩ := ri_some hf
        refine mal5 F I_9 g12 dX12_ties_18 ?_
        obtain ⟨x14, hv22, hf⟩ := bd_some hf
        have J13 : ∀ (H : Heap) (locs : List Loc), sInv D (mT cI cJ cD) (mW ad cI cJ cD) A s H locs (G, E, Dd) → ∀ (ls : Array Slot), lv_has ls 3 [(0, .ref (ad 0)), (2, .int x4)] → W p l e R s m args below meth c H locs 0 0 Q (F0 m 27 ls [.int x14, .int x3]) := by
          intro H_15 lo_15 I_15 ls_16 hl_16
          refine lv_iadd hx hb dX12_ties_27 ?_
          refine lv_topi (fun x18 ex18 => ?_)
          replace hf := nm_some ex18 hf
          refine lv_istore_n (lv' := [(1, .int x18), (0, .ref (ad 0)), (2, .int x4)]) hx hb dX12_ties_28 rfl hl_16 (by decide) rfl (fun ls_19 hl_19 => ?_)
          obtain ⟨x20, ex20⟩ : ∃ y : Int32, y = x4 + (1 : Int32) := ⟨_, rfl⟩
          replace hf := nm_some ex20 hf
          refine lv_iinc (v := x20) (lv' := [(2, .int x20), (1, .int x18), (0, .ref (ad 0))]) hx hb dX12_ties_29 hl_19 (k := 2) rfl (by rw [ex20]; rfl) (by decide) rfl (fun ls_21 hl_21 => ?_)
          refine lv_goto (tgt := 4) hx hb dX12_ties_32 (by decide) ?_
          cases hf
          exact ih1 _ _ hK1 H_15 lo_15 I_15 ls_21 (lv_sub hl_21 [2, 1, 0] rfl)
        replace hf := hv22
        refine lv_if_ne (tgt := 26) hx hb dX12_ties_19 (by decide) (fun c23 => ?_) (fun c23 => ?_)
        · replace hf := (if_neg c23).symm.trans hf
          refine lv_iconst (v := (0 : Int32)) hx hb dX12_ties_26 (by decide) ?_
          cases hf
          exact J13 H_9 lo_9 I_9 ls_10 (lv_sub hl_10 [0, 2] rfl)
        · replace hf := (if_pos c23).symm.trans hf
          refine lv_iconst (v := (1 : Int32)) hx hb dX12_ties_22 (by decide) ?_
          refine lv_goto (tgt := 27) hx hb dX12_ties_23 (by decide) ?_
          cases hf
          exact J13 H_9 lo_9 I_9 ls_10 (lv_sub hl_10 [0, 2] rfl)
  exact L1 FU _ _ hq1 H lo I ls_2 (lv_sub hl_2 [2, 1, 0] rfl)
def M_firsts_s1 (a0 : Int32) (G : Nat → Nat → Int32) (x3 : Int32) (x4 : Int32) : Option ((Int32 × Int32) ⊕ (Int32)) :=
if G 4 0 ≤ x4 then
(some (.inr x3))
else
(ri 48 x4 <|
bd (if G 8 x4.toNatClampNeg = a0 then
(some (1 : Int32))
else
(some (0 : Int32))) fun x14 =>
nm (x3 + x14 : Int32) fun x18 =>
nm (x4 + (1 : Int32) : Int32) fun x20 =>
some (.inl (x18, x20)))
def M_firsts (G : Nat → Nat → Int32) (a0 : Int32) : Option (Int32) :=
bd (lp (fun q => M_firsts_s1 a0 G q.1 q.2) FU ((0 : Int32), (0 : Int32))) fun x5 =>
some x5
set_option maxRecDepth 100000 in
set_option maxHeartbeats 4000000 in
theorem cM_firsts (G : Nat → Nat → Int32) (E : Nat → Nat → Int64) (Dd : Nat → Nat → UInt64) (a0 : Int32) (rv : Int32)  (hf : M_firsts G a0 = some rv) : sMi D (mT cI cJ cD) (mW ad cI cJ cD) l yX12_firsts (ws1 yX12_firsts cX12_firsts 4 (some .int)) ({ frames := 0, cells := 0, slots := 0, locals := 0 }) [.ref (ad 0), .int a0] (G, E, Dd) (rv, (G, E, Dd)) := by
  unfold M_firsts at hf
  refine sMi_of (by decide) (Nat.le_of_ble_eq_true rfl) ?_
  intro p e R s m args below meth c A Q ls H lo F hRf hRl I hl ret
  obtain ⟨hx, hb, hml, hown, hG⟩ := id F
  replace hl : lv_has ls 4 [(0, .ref (ad 0)), (1, .int a0)] := hl
  refine lv_iconst (v := (0 : Int32)) hx hb dX12_firsts_0 (by decide) ?_
  refine lv_istore_n (lv' := [(2, .int (0 : Int32)), (0, .ref (ad 0)), (1, .int a0)]) hx hb dX12_firsts_1 rfl hl (by decide) rfl (fun ls_1 hl_1 => ?_)
  refine lv_iconst (v := (0 : Int32)) hx hb dX12_firsts_2 (by decide) ?_
  refine lv_istore_n (lv' := [(3, .int (0 : Int32)), (2, .int (0 : Int32)), (0, .ref (ad 0)), (1, .int a0)]) hx hb dX12_firsts_3 rfl hl_1 (by decide) rfl (fun ls_2 hl_2 => ?_)
  obtain ⟨x5, hq1, hf⟩ := bd_some hf
  have K1 : ∀ (H : Heap) (locs : List Loc), sInv D (mT cI cJ cD) (mW ad cI cJ cD) A s H locs (G, E, Dd) → ∀ (ls : Array Slot), lv_has ls 4 [(2, .int x5)] → W p l e R s m args below meth c H locs 0 0 Q (F0 m 36 ls []) := by
    intro H_6 lo_6 I_6 ls_7 hl_7
    refine lv_iload_n hx hb dX12_firsts_36 rfl (lv_at hl_7 0 rfl) ?_
    cases hf
    exact ret H_6 lo_6 _ ls_7 I_6 dX12_firsts_37
  have L1 : ∀ (n : Nat) (x3 : Int32) (x4 : Int32), lp (fun q => M_firsts_s1 a0 G q.1 q.2) n (x3, x4) = some x5 → ∀ (H : Heap) (locs : List Loc), sInv D (mT cI cJ cD) (mW ad cI cJ cD) A s H locs (G, E, Dd) → ∀ (ls : Array Slot), lv_has ls 4 [(0, .ref (ad 0)), (1, .int a0), (2, .int x3), (3, .int x4)] → W p l e R s m args below meth c H locs 0 0 Q (F0 m 4 ls []) := by
    intro n
    induction n with
    | zero => intro x3 x4 hq; exact (lp_0 hq).elim
    | succ n ih1 =>
      intro x3 x4 hq H_9 lo_9 I_9 ls_10 hl_10
      obtain ⟨y1, hf, hK1⟩ := lp_go hq
      replace hf : M_firsts_s1 a0 G x3 x4 = some y1 := hf
      unfold M_firsts_s1 at hf
      refine lv_iload_n hx hb dX12_firsts_4 rfl (lv_at hl_10 3 rfl) ?_
      refine lv_aload_n hx hb dX12_firsts_5 rfl (lv_at hl_10 0 rfl) ?_
      refine mgtX12_102_0 F I_9 dX12_firsts_6 ?_
      refine lv_icmp_ge (tgt := 36) hx hb dX12_firsts_9 (by decide) (fun c24 => ?_) (fun c24 => ?_)
      · replace hf := (if_pos c24).symm.trans hf
        cases hf
        cases (show x3 = x5 from hK1)
        exact K1 H_9 lo_9 I_9 ls_10 (lv_sub hl_10 [2] rfl)
      · replace hf := (if_neg c24).symm.trans hf
        refine lv_iload_n hx hb dX12_firsts_12 rfl (lv_at hl_10 2 rfl) ?_
        refine lv_aload_n hx hb dX12_firsts_13 rfl (lv_at hl_10 0 rfl) ?_
        refine mgtX12_22_0 F I_9 dX12_firsts_14 ?_
        refine lv_iload_n hx hb dX12_firsts_17 rfl (lv_at hl_10 3 rfl) ?_
        obtain ⟨g12, hf⟩ := ri_some hf
        refine mal5 F I_9 g12 dX12_firsts_18 ?_
        refine lv_iload_n hx hb dX12_firsts_19 rfl (lv_at hl_10 1 rfl) ?_
        obtain ⟨x14, hv22, hf⟩ := bd_some hf
        have J13 : ∀ (H : Heap) (locs : List Loc), sInv D (mT cI cJ cD) (mW ad cI cJ cD) A s H locs (G, E, Dd) → ∀ (ls : Array Slot), lv_has ls 4 [(0, .ref (ad 0)), (1, .int a0), (3, .int x4)] → W p l e R s m args below meth c H locs 0 0 Q (F0 m 28 ls [.int x14, .int x3]) := by
          intro H_15 lo_15 I_15 ls_16 hl_16
          refine lv_iadd hx hb dX12_firsts_28 ?_
          refine lv_topi (fun x18 ex18 => ?_)
          replace hf := nm_some ex18 hf
          refine lv_istore_n (lv' := [(2, .int x18), (0, .ref (ad 0)), (1, .int a0), (3, .int x4)]) hx hb dX12_firsts_29 rfl hl_16 (by decide) rfl (fun ls_19 hl_19 => ?_)
          obtain ⟨x20, ex20⟩ : ∃ y : Int32, y = x4 + (1 : Int32) := ⟨_, rfl⟩
          replace hf := nm_some ex20 hf
          refine lv_iinc (v := x20) (lv' := [(3, .int x20), (2, .int x18), (0, .ref (ad 0)), (1, .int a0)]) hx hb dX12_firsts_30 hl_19 (k := 3) rfl (by rw [ex20]; rfl) (by decide) rfl (fun ls_21 hl_21 => ?_)
          refine lv_goto (tgt := 4) hx hb dX12_firsts_33 (by decide) ?_
          cases hf
          exact ih1 _ _ hK1 H_15 lo_15 I_15 ls_21 (lv_sub hl_21 [2, 3, 1, 0] rfl)
        replace hf := hv22
        refine lv_icmp_ne (tgt := 27) hx hb dX12_firsts_20 (by decide) (fun c23 => ?_) (fun c23 => ?_)
        · replace hf := (if_neg c23).symm.trans hf
          refine lv_iconst (v := (0 : Int32)) hx hb dX12_firsts_27 (by decide) ?_
          cases hf
          exact J13 H_9 lo_9 I_9 ls_10 (lv_sub hl_10 [0, 1, 3] rfl)
        · replace hf := (if_pos c23).symm.trans hf
          refine lv_iconst (v := (1 : Int32)) hx hb dX12_firsts_23 (by decide) ?_
          refine lv_goto (tgt := 28) hx hb dX12_firsts_24 (by decide) ?_
          cases hf
          exact J13 H_9 lo_9 I_9 ls_10 (lv_sub hl_10 [0, 1, 3] rfl)
  exact L1 FU _ _ hq1 H lo I ls_2 (lv_sub hl_2 [2, 3, 1, 0] rfl)
def M_counted (G : Nat → Nat → Int32) (a0 : Int32) : Option (Int32) :=
if a0 = (0 : Int32) then
(some (G 1 0))
else if a0 = (1 : Int32) then
(some (G 2 0))
else if a0 = (2 : Int32) then
(some (G 4 0))
else if a0 = (3 : Int32) then
(bd (M_ties G) fun r5 =>
some r5)
else if a0 = (4 : Int32) then
(bd (M_firsts G (1 : Int32)) fun r9 =>
some r9)
else if a0 = (5 : Int32) then
(if G 9 0 = (-1 : Int32) then
(some (0 : Int32))
else
(some ((G 10 0) - (G 11 0))))
else if a0 = (6 : Int32) then
(some (G 13 0))
else (some (G 9 0))
set_option maxRecDepth 100000 in
set_option maxHeartbeats 4000000 in
theorem cM_counted (G : Nat → Nat → Int32) (E : Nat → Nat → Int64) (Dd : Nat → Nat → UInt64) (a0 : Int32) (rv : Int32)  (hf : M_counted G a0 = some rv) : sMi D (mT cI cJ cD) (mW ad cI cJ cD) l yX12_counted (ws1 yX12_counted cX12_counted 2 (some .int)) ({ frames := 1, cells := 0, slots := 0, locals := 23 }) [.ref (ad 0), .int a0] (G, E, Dd) (rv, (G, E, Dd)) := by
  unfold M_counted at hf
  refine sMi_of (by decide) (Nat.le_of_ble_eq_true rfl) ?_
  intro p e R s m args below meth c A Q ls H lo F hRf hRl I hl ret
  obtain ⟨hx, hb, hml, hown, hG⟩ := id F
  replace hl : lv_has ls 2 [(0, .ref (ad 0)), (1, .int a0)] := hl
  refine lv_iload_n hx hb dX12_counted_0 rfl (lv_at hl 1 rfl) ?_
  by_cases c1 : a0 = (0 : Int32)
  · replace hf := (if_pos c1).symm.trans hf
    refine lv_tableIn (off := 43) (tgt := 44) hx hb dX12_counted_1 (by rw [c1]; decide) (by rw [c1]; decide) (by rw [c1]; rfl) (by decide) ?_
    refine lv_aload_n hx hb dX12_counted_44 rfl (lv_at hl 0 rfl) ?_
    refine mgtX12_92_0 F I dX12_counted_45 ?_
    cases hf
    exact ret H lo _ ls I dX12_counted_48
  replace hf := (if_neg c1).symm.trans hf
  by_cases c2 : a0 = (1 : Int32)
  · replace hf := (if_pos c2).symm.trans hf
    refine lv_tableIn (off := 48) (tgt := 49) hx hb dX12_counted_1 (by rw [c2]; decide) (by rw [c2]; decide) (by rw [c2]; rfl) (by decide) ?_
    refine lv_aload_n hx hb dX12_counted_49 rfl (lv_at hl 0 rfl) ?_
    refine mgtX12_99_0 F I dX12_counted_50 ?_
    cases hf
    exact ret H lo _ ls I dX12_counted_53
  replace hf := (if_neg c2).symm.trans hf
  by_cases c3 : a0 = (2 : Int32)
  · replace hf := (if_pos c3).symm.trans hf
    refine lv_tableIn (off := 53) (tgt := 54) hx hb dX12_counted_1 (by rw [c3]; decide) (by rw [c3]; decide) (by rw [c3]; rfl) (by decide) ?_
    refine lv_aload_n hx hb dX12_counted_54 rfl (lv_at hl 0 rfl) ?_
    refine mgtX12_102_0 F I dX12_counted_55 ?_
    cases hf
    exact ret H lo _ ls I dX12_counted_58
  replace hf := (if_neg c3).symm.trans hf
  by_cases c4 : a0 = (3 : Int32)
  · replace hf := (if_pos c4).symm.trans hf
    refine lv_tableIn (off := 58) (tgt := 59) hx hb dX12_counted_1 (by rw [c4]; decide) (by rw [c4]; decide) (by rw [c4]; rfl) (by decide) ?_
    refine lv_aload_n hx hb dX12_counted_59 rfl (lv_at hl 0 rfl) ?_
    obtain ⟨r5, h6, hf⟩ := bd_some hf
    refine s_callVi (As := []) (rest := []) F I (cM_ties G E Dd r5 h6) kX12_201 ⟨rfl, rfl⟩ ⟨Nat.le_trans (Nat.le_of_ble_eq_true rfl) hRf, Nat.le_trans (Nat.le_of_ble_eq_true rfl) hRl⟩ (0) 12 rfl rfl rfl rfl rfl hl.1 (Nat.le_of_ble_eq_true rfl) ⟨Nat.zero_le _, Nat.zero_le _⟩ dX12_counted_60 ?_
    intro H_7 lo_7 I_7
    cases hf
    exact ret H_7 lo_7 _ ls I_7 dX12_counted_63
  replace hf := (if_neg c4).symm.trans hf
  by_cases c8 : a0 = (4 : Int32)
  · replace hf := (if_pos c8).symm.trans hf
    refine lv_tableIn (off := 63) (tgt := 64) hx hb dX12_counted_1 (by rw [c8]; decide) (by rw [c8]; decide) (by rw [c8]; rfl) (by decide) ?_
    refine lv_aload_n hx hb dX12_counted_64 rfl (lv_at hl 0 rfl) ?_
    refine lv_iconst (v := (1 : Int32)) hx hb dX12_counted_65 (by decide) ?_
    obtain ⟨r9, h10, hf⟩ := bd_some hf
    refine s_callVi (As := [.int (1 : Int32)]) (rest := []) F I (cM_firsts G E Dd (1 : Int32) r9 h10) kX12_204 ⟨rfl, rfl⟩ ⟨Nat.le_trans (Nat.le_of_ble_eq_true rfl) hRf, Nat.le_trans (Nat.le_of_ble_eq_true rfl) hRl⟩ (0) 12 rfl rfl rfl rfl rfl hl.1 (Nat.le_of_ble_eq_true rfl) ⟨Nat.zero_le _, Nat.zero_le _⟩ dX12_counted_66 ?_
    intro H_11 lo_11 I_11
    cases hf
    exact ret H_11 lo_11 _ ls I_11 dX12_counted_69
  replace hf := (if_neg c8).symm.trans hf
  by_cases c12 : a0 = (5 : Int32)
  · replace hf := (if_pos c12).symm.trans hf
    refine lv_tableIn (off := 69) (tgt := 70) hx hb dX12_counted_1 (by rw [c12]; decide) (by rw [c12]; decide) (by rw [c12]; rfl) (by decide) ?_
    refine lv_aload_n hx hb dX12_counted_70 rfl (lv_at hl 0 rfl) ?_
    refine mgtX12_25_0 F I dX12_counted_71 ?_
    refine lv_iconst (v := (-1 : Int32)) hx hb dX12_counted_74 (by decide) ?_
    refine lv_icmp_ne (tgt := 82) hx hb dX12_counted_75 (by decide) (fun c13 => ?_) (fun c13 => ?_)
    · replace hf := (if_neg c13).symm.trans hf
      refine lv_aload_n hx hb dX12_counted_82 rfl (lv_at hl 0 rfl) ?_
      refine mgtX12_105_0 F I dX12_counted_83 ?_
      refine lv_aload_n hx hb dX12_counted_86 rfl (lv_at hl 0 rfl) ?_
      refine mgtX12_108_0 F I dX12_counted_87 ?_
      refine lv_isub hx hb dX12_counted_90 ?_
      cases hf
      exact ret H lo _ ls I dX12_counted_91
    · replace hf := (if_pos c13).symm.trans hf
      refine lv_iconst (v := (0 : Int32)) hx hb dX12_counted_78 (by decide) ?_
      refine lv_goto (tgt := 91) hx hb dX12_counted_79 (by decide) ?_
      cases hf
      exact ret H lo _ ls I dX12_counted_91
  replace hf := (if_neg c12).symm.trans hf
  by_cases c14 : a0 = (6 : Int32)
  · replace hf := (if_pos c14).symm.trans hf
    refine lv_tableIn (off := 91) (tgt := 92) hx hb dX12_counted_1 (by rw [c14]; decide) (by rw [c14]; decide) (by rw [c14]; rfl) (by decide) ?_
    refine lv_aload_n hx hb dX12_counted_92 rfl (lv_at hl 0 rfl) ?_
    refine mgtX12_111_0 F I dX12_counted_93 ?_
    cases hf
    exact ret H lo _ ls I dX12_counted_96
  replace hf := (if_neg c14).symm.trans hf
  refine lv_tableOut (tgt := 97) hx hb dX12_counted_1 (tsw6 c1 c2 c3 c4 c8 c12 c14) (by decide) ?_
  refine lv_aload_n hx hb dX12_counted_97 rfl (lv_at hl 0 rfl) ?_
  refine mgtX12_25_0 F I dX12_counted_98 ?_
  cases hf
  exact ret H lo _ ls I dX12_counted_101
def M_count (G : Nat → Nat → Int32) (a0 : Int32) : Option (Int32 × (Nat → Nat → Int32)) :=
bd (M_within a0 (0 : Int32) (7 : Int32)) fun r1 =>
bd (if r1 = 0 then
(some (1 : Int32))
else
(some (0 : Int32))) fun x5 =>
nm (wf G 0 x5) fun G9 =>
if G9 0 0 ≤ 0 then
(bd (M_counted G9 a0) fun r11 =>
some (r11, G9))
else
(some ((0 : Int32), G9))
set_option maxRecDepth 100000 in
set_option maxHeartbeats 4000000 in
theorem cM_count (G : Nat → Nat → Int32) (E : Nat → Nat → Int64) (Dd : Nat → Nat → UInt64) (a0 : Int32) (rv : Int32) (newG : Nat → Nat → Int32) (hf : M_count G a0 = some (rv, newG)) : sMi D (mT cI cJ cD) (mW ad cI cJ cD) l yX12_count (ws1 yX12_count cX12_count 2 (some .int)) ({ frames := 2, cells := 0, slots := 0, locals := 44 }) [.ref (ad 0), .int a0] (G, E, Dd) (rv, (newG, E, Dd)) := by
  unfold M_count at hf
  refine sMi_of (by decide) (Nat.le_of_ble_eq_true rfl) ?_
  intro p e R s m args below meth c A Q ls H lo F hRf hRl I hl ret
  obtain ⟨hx, hb, hml, hown, hG⟩ := id F
  replace hl : lv_has ls 2 [(0, .ref (ad 0)), (1, .int a0)] := hl
  refine lv_aload_n hx hb dX12_count_0 rfl (lv_at hl 0 rfl) ?_
  refine lv_iload_n hx hb dX12_count_1 rfl (lv_at hl 1 rfl) ?_
  refine lv_iconst (v := (0 : Int32)) hx hb dX12_count_2 (by decide) ?_
  refine lv_bipush (v := (7 : Int32)) hx hb dX12_count_3 (by decide) ?_
  obtain ⟨r1, h2, hf⟩ := bd_some hf
  refine s_callSi (As := [.int a0, .int (0 : Int32), .int (7 : Int32)]) (rest := [.ref (ad 0)]) F I (cM_within G E Dd a0 (0 : Int32) (7 : Int32) r1 h2) kX12_95 ⟨rfl, rfl⟩ ⟨Nat.le_trans (Nat.le_of_ble_eq_true rfl) hRf, Nat.le_trans (Nat.le_of_ble_eq_true rfl) hRl⟩ rfl rfl hl.1 (Nat.le_of_ble_eq_true rfl) ⟨Nat.zero_le _, Nat.zero_le _⟩ dX12_count_5 ?_
  intro H_3 lo_3 I_3
  obtain ⟨x5, hv15, hf⟩ := bd_some hf
  have J4 : ∀ (H : Heap) (locs : List Loc), sInv D (mT cI cJ cD) (mW ad cI cJ cD) A s H locs (G, E, Dd) → ∀ (ls : Array Slot), lv_has ls 2 [(0, .ref (ad 0)), (1, .int a0)] → W p l e R s m args below meth c H locs 0 0 Q (F0 m 16 ls [.int x5, .ref (ad 0)]) := by
    intro H_6 lo_6 I_6 ls_7 hl_7
    refine mptX12_89_0 F I_6 dX12_count_16 ?_
    intro H_10 lo_10 G9 eG9 I_10
    replace hf := nm_some eG9 hf
    refine lv_aload_n hx hb dX12_count_19 rfl (lv_at hl_7 0 rfl) ?_
    refine mgtX12_89_0 F I_10 dX12_count_20 ?_
    refine lv_if_le (tgt := 30) hx hb dX12_count_23 (by decide) (fun c14 => ?_) (fun c14 => ?_)
    · replace hf := (if_pos c14).symm.trans hf
      refine lv_aload_n hx hb dX12_count_30 rfl (lv_at hl_7 0 rfl) ?_
      refine lv_iload_n hx hb dX12_count_31 rfl (lv_at hl_7 1 rfl) ?_
      obtain ⟨r11, h12, hf⟩ := bd_some hf
      refine s_callVi (As := [.int a0]) (rest := []) F I_10 (cM_counted G9 E Dd a0 r11 h12) kX12_207 ⟨rfl, rfl⟩ ⟨Nat.le_trans (Nat.le_of_ble_eq_true rfl) hRf, Nat.le_trans (Nat.le_of_ble_eq_true rfl) hRl⟩ (0) 12 rfl rfl rfl rfl rfl hl_7.1 (Nat.le_of_ble_eq_true rfl) ⟨Nat.zero_le _, Nat.zero_le _⟩ dX12_count_32 ?_
      intro H_13 lo_13 I_13
      cases hf
      exact ret H_13 lo_13 _ ls_7 I_13 dX12_count_35
    · replace hf := (if_neg c14).symm.trans hf
      refine lv_iconst (v := (0 : Int32)) hx hb dX12_count_26 (by decide) ?_
      refine lv_goto (tgt := 35) hx hb dX12_count_27 (by decide) ?_
      cases hf
      exact ret H_10 lo_10 _ ls_7 I_10 dX12_count_35
  replace hf := hv15
  refine lv_if_eq (tgt := 15) hx hb dX12_count_8 (by decide) (fun c16 => ?_) (fun c16 => ?_)
  · replace hf := (if_pos c16).symm.trans hf
    refine lv_iconst (v := (1 : Int32)) hx hb dX12_count_15 (by decide) ?_
    cases hf
    exact J4 H_3 lo_3 I_3 ls (lv_sub hl [0, 1] rfl)
  · replace hf := (if_neg c16).symm.trans hf
    refine lv_iconst (v := (0 : Int32)) hx hb dX12_count_11 (by decide) ?_
    refine lv_goto (tgt := 16) hx hb dX12_count_12 (by decide) ?_
    cases hf
    exact J4 H_3 lo_3 I_3 ls (lv_sub hl [0, 1] rfl)
def M_property (G : Nat → Nat → Int32) (a0 : Int32) (a1 : Int32) : Option (Int32) :=
if a1 = 0 then
(ri 48 a0 <|
some (G 5 a0.toNatClampNeg))
else
(if a1 = (1 : Int32) then
(ri 48 a0 <|
some (G 6 a0.toNatClampNeg))
else
(if a1 = (2 : Int32) then
(ri 48 a0 <|
some (G 7 a0.toNatClampNeg))
else
(ri 48 a0 <|
some (G 8 a0.toNatClampNeg))))
set_option maxRecDepth 100000 in
set_option maxHeartbeats 4000000 in
theorem cM_property (G : Nat → Nat → Int32) (E : Nat → Nat → Int64) (Dd : Nat → Nat → UInt64) (a0 : Int32) (a1 : Int32) (rv : Int32)  (hf : M_property G a0 a1 = some rv) : sMi D (mT cI cJ cD) (mW ad cI cJ cD) l yX12_property (ws1 yX12_property cX12_property 3 (some .int)) ({ frames := 0, cells := 0, slots := 0, locals := 0 }) [.ref (ad 0), .int a0, .int a1] (G, E, Dd) (rv, (G, E, Dd)) := by
  unfold M_property at hf
  refine sMi_of (by decide) (Nat.le_of_ble_eq_true rfl) ?_
  intro p e R s m args below meth c A Q ls H lo F hRf hRl I hl ret
  obtain ⟨hx, hb, hml, hown, hG⟩ := id F
  replace hl : lv_has ls 3 [(0, .ref (ad 0)), (1, .int a0), (2, .int a1)] := hl
  refine lv_iload_n hx hb dX12_property_0 rfl (lv_at hl 2 rfl) ?_
  refine lv_if_ne (tgt := 13) hx hb dX12_property_1 (by decide) (fun c7 => ?_) (fun c7 => ?_)
  · replace hf := (if_neg c7).symm.trans hf
    refine lv_iload_n hx hb dX12_property_13 rfl (lv_at hl 2 rfl) ?_
    refine lv_iconst (v := (1 : Int32)) hx hb dX12_property_14 (by decide) ?_
    refine lv_icmp_ne (tgt := 27) hx hb dX12_property_15 (by decide) (fun c5 => ?_) (fun c5 => ?_)
    · replace hf := (if_neg c5).symm.trans hf
      refine lv_iload_n hx hb dX12_property_27 rfl (lv_at hl 2 rfl) ?_
      refine lv_iconst (v := (2 : Int32)) hx hb dX12_property_28 (by decide) ?_
      refine lv_icmp_ne (tgt := 41) hx hb dX12_property_29 (by decide) (fun c3 => ?_) (fun c3 => ?_)
      · replace hf := (if_neg c3).symm.trans hf
        refine lv_aload_n hx hb dX12_property_41 rfl (lv_at hl 0 rfl) ?_
        refine mgtX12_22_0 F I dX12_property_42 ?_
        refine lv_iload_n hx hb dX12_property_45 rfl (lv_at hl 1 rfl) ?_
        obtain ⟨g1, hf⟩ := ri_some hf
        refine mal5 F I g1 dX12_property_46 ?_
        cases hf
        exact ret H lo _ ls I dX12_property_47
      · replace hf := (if_pos c3).symm.trans hf
        refine lv_aload_n hx hb dX12_property_32 rfl (lv_at hl 0 rfl) ?_
        refine mgtX12_19_0 F I dX12_property_33 ?_
        refine lv_iload_n hx hb dX12_property_36 rfl (lv_at hl 1 rfl) ?_
        obtain ⟨g2, hf⟩ := ri_some hf
        refine mal4 F I g2 dX12_property_37 ?_
        refine lv_goto (tgt := 47) hx hb dX12_property_38 (by decide) ?_
        cases hf
        exact ret H lo _ ls I dX12_property_47
    · replace hf := (if_pos c5).symm.trans hf
      refine lv_aload_n hx hb dX12_property_18 rfl (lv_at hl 0 rfl) ?_
      refine mgtX12_16_0 F I dX12_property_19 ?_
      refine lv_iload_n hx hb dX12_property_22 rfl (lv_at hl 1 rfl) ?_
      obtain ⟨g4, hf⟩ := ri_some hf
      refine mal3 F I g4 dX12_property_23 ?_
      refine lv_goto (tgt := 47) hx hb dX12_property_24 (by decide) ?_
      cases hf
      exact ret H lo _ ls I dX12_property_47
  · replace hf := (if_pos c7).symm.trans hf
    refine lv_aload_n hx hb dX12_property_4 rfl (lv_at hl 0 rfl) ?_
    refine mgtX12_13_0 F I dX12_property_5 ?_
    refine lv_iload_n hx hb dX12_property_8 rfl (lv_at hl 1 rfl) ?_
    obtain ⟨g6, hf⟩ := ri_some hf
    refine mal2 F I g6 dX12_property_9 ?_
    refine lv_goto (tgt := 47) hx hb dX12_property_10 (by decide) ?_
    cases hf
    exact ret H lo _ ls I dX12_property_47
def M_comparison (G : Nat → Nat → Int32) (a0 : Int32) (a1 : Int32) : Option (Int32 × (Nat → Nat → Int32)) :=
bd (M_isComparison G a0) fun r1 =>
bd (if r1 = 0 then
(some (1 : Int32))
else
(bd (M_within a1 (0 : Int32) (3 : Int32)) fun r16 =>
if r16 = 0 then
(some (2 : Int32))
else
(some (0 : Int32)))) fun x5 =>
nm (wf G 0 x5) fun G9 =>
if G9 0 0 ≤ 0 then
(bd (M_property G9 a0 a1) fun r11 =>
some (r11, G9))
else
(some ((0 : Int32), G9))
set_option maxRecDepth 100000 in
set_option maxHeartbeats 4000000 in
theorem cM_comparison (G : Nat → Nat → Int32) (E : Nat → Nat → Int64) (Dd : Nat → Nat → UInt64) (a0 : Int32) (a1 : Int32) (rv : Int32) (newG : Nat → Nat → Int32) (hf : M_comparison G a0 a1 = some (rv, newG)) : sMi D (mT cI cJ cD) (mW ad cI cJ cD) l yX12_comparison (ws1 yX12_comparison cX12_comparison 3 (some .int)) ({ frames := 2, cells := 0, slots := 0, locals := 43 }) [.ref (ad 0), .int a0, .int a1] (G, E, Dd) (rv, (newG, E, Dd)) := by
  unfold M_comparison at hf
  refine sMi_of (by decide) (Nat.le_of_ble_eq_true rfl) ?_
  intro p e R s m args below meth c A Q ls H lo F hRf hRl I hl ret
  obtain ⟨hx, hb, hml, hown, hG⟩ := id F
  replace hl : lv_has ls 3 [(0, .ref (ad 0)), (1, .int a0), (2, .int a1)] := hl
  refine lv_aload_n hx hb dX12_comparison_0 rfl (lv_at hl 0 rfl) ?_
  refine lv_aload_n hx hb dX12_comparison_1 rfl (lv_at hl 0 rfl) ?_
  refine lv_iload_n hx hb dX12_comparison_2 rfl (lv_at hl 1 rfl) ?_
  obtain ⟨r1, h2, hf⟩ := bd_some hf
  refine s_callVi (As := [.int a0]) (rest := [.ref (ad 0)]) F I (cM_isComparison G E Dd a0 r1 h2) kX12_154 ⟨rfl, rfl⟩ ⟨Nat.le_trans (Nat.le_of_ble_eq_true rfl) hRf, Nat.le_trans (Nat.le_of_ble_eq_true rfl) hRl⟩ (0) 12 rfl rfl rfl rfl rfl hl.1 (Nat.le_of_ble_eq_true rfl) ⟨Nat.zero_le _, Nat.zero_le _⟩ dX12_comparison_3 ?_
  intro H_3 lo_3 I_3
  obtain ⟨x5, hv15, hf⟩ := bd_some hf
  have J4 : ∀ (H : Heap) (locs : List Loc), sInv D (mT cI cJ cD) (mW ad cI cJ cD) A s H locs (G, E, Dd) → ∀ (ls : Array Slot), lv_has ls 3 [(0, .ref (ad 0)), (1, .int a0), (2, .int a1)] → W p l e R s m args below meth c H locs 0 0 Q (F0 m 27 ls [.int x5, .ref (ad 0)]) := by
    intro H_6 lo_6 I_6 ls_7 hl_7
    refine mptX12_89_0 F I_6 dX12_comparison_27 ?_
    intro H_10 lo_10 G9 eG9 I_10
    replace hf := nm_some eG9 hf
    refine lv_aload_n hx hb dX12_comparison_30 rfl (lv_at hl_7 0 rfl) ?_
    refine mgtX12_89_0 F I_10 dX12_comparison_31 ?_
    refine lv_if_le (tgt := 41) hx hb dX12_comparison_34 (by decide) (fun c14 => ?_) (fun c14 => ?_)
    · replace hf := (if_pos c14).symm.trans hf
      refine lv_aload_n hx hb dX12_comparison_41 rfl (lv_at hl_7 0 rfl) ?_
      refine lv_iload_n hx hb dX12_comparison_42 rfl (lv_at hl_7 1 rfl) ?_
      refine lv_iload_n hx hb dX12_comparison_43 rfl (lv_at hl_7 2 rfl) ?_
      obtain ⟨r11, h12, hf⟩ := bd_some hf
      refine s_callVi (As := [.int a0, .int a1]) (rest := []) F I_10 (cM_property G9 E Dd a0 a1 r11 h12) kX12_210 ⟨rfl, rfl⟩ ⟨Nat.le_trans (Nat.le_of_ble_eq_true rfl) hRf, Nat.le_trans (Nat.le_of_ble_eq_true rfl) hRl⟩ (0) 12 rfl rfl rfl rfl rfl hl_7.1 (Nat.le_of_ble_eq_true rfl) ⟨Nat.zero_le _, Nat.zero_le _⟩ dX12_comparison_44 ?_
      intro H_13 lo_13 I_13
      cases hf
      exact ret H_13 lo_13 _ ls_7 I_13 dX12_comparison_47
    · replace hf := (if_neg c14).symm.trans hf
      refine lv_iconst (v := (0 : Int32)) hx hb dX12_comparison_37 (by decide) ?_
      refine lv_goto (tgt := 47) hx hb dX12_comparison_38 (by decide) ?_
      cases hf
      exact ret H_10 lo_10 _ ls_7 I_10 dX12_comparison_47
  replace hf := hv15
  refine lv_if_ne (tgt := 13) hx hb dX12_comparison_6 (by decide) (fun c20 => ?_) (fun c20 => ?_)
  · replace hf := (if_neg c20).symm.trans hf
    refine lv_iload_n hx hb dX12_comparison_13 rfl (lv_at hl 2 rfl) ?_
    refine lv_iconst (v := (0 : Int32)) hx hb dX12_comparison_14 (by decide) ?_
    refine lv_iconst (v := (3 : Int32)) hx hb dX12_comparison_15 (by decide) ?_
    obtain ⟨r16, h17, hf⟩ := bd_some hf
    refine s_callSi (As := [.int a1, .int (0 : Int32), .int (3 : Int32)]) (rest := [.ref (ad 0)]) F I_3 (cM_within G E Dd a1 (0 : Int32) (3 : Int32) r16 h17) kX12_95 ⟨rfl, rfl⟩ ⟨Nat.le_trans (Nat.le_of_ble_eq_true rfl) hRf, Nat.le_trans (Nat.le_of_ble_eq_true rfl) hRl⟩ rfl rfl hl.1 (Nat.le_of_ble_eq_true rfl) ⟨Nat.zero_le _, Nat.zero_le _⟩ dX12_comparison_16 ?_
    intro H_18 lo_18 I_18
    refine lv_if_eq (tgt := 26) hx hb dX12_comparison_19 (by decide) (fun c19 => ?_) (fun c19 => ?_)
    · replace hf := (if_pos c19).symm.trans hf
      refine lv_iconst (v := (2 : Int32)) hx hb dX12_comparison_26 (by decide) ?_
      cases hf
      exact J4 H_18 lo_18 I_18 ls (lv_sub hl [0, 1, 2] rfl)
    · replace hf := (if_neg c19).symm.trans hf
      refine lv_iconst (v := (0 : Int32)) hx hb dX12_comparison_22 (by decide) ?_
      refine lv_goto (tgt := 27) hx hb dX12_comparison_23 (by decide) ?_
      cases hf
      exact J4 H_18 lo_18 I_18 ls (lv_sub hl [0, 1, 2] rfl)
  · replace hf := (if_pos c20).symm.trans hf
    refine lv_iconst (v := (1 : Int32)) hx hb dX12_comparison_9 (by decide) ?_
    refine lv_goto (tgt := 27) hx hb dX12_comparison_10 (by decide) ?_
    cases hf
    exact J4 H_3 lo_3 I_3 ls (lv_sub hl [0, 1, 2] rfl)
def M_isOf (G : Nat → Nat → Int32) (a0 : Int32) (a1 : Int32) (a2 : Int32) : Option (Int32) :=
ri 48 a0 <|
if G 6 a0.toNatClampNeg = a1 then
(ri 48 a0 <|
if G 7 a0.toNatClampNeg = a2 then
(some (1 : Int32))
else
(ri 48 a0 <|
if G 6 a0.toNatClampNeg = a2 then
(ri 48 a0 <|
if G 7 a0.toNatClampNeg = a1 then
(some (1 : Int32))
else
(some (0 : Int32)))
else
(some (0 : Int32))))
else
(ri 48 a0 <|
if G 6 a0.toNatClampNeg = a2 then
(ri 48 a0 <|
if G 7 a0.toNatClampNeg = a1 then
(some (1 : Int32))
else
(some (0 : Int32)))
else
(some (0 : Int32)))
set_option maxRecDepth 100000 in
set_option maxHeartbeats 4000000 in
theorem cM_isOf (G : Nat → Nat → Int32) (E : Nat → Nat → Int64) (Dd : Nat → Nat → UInt64) (a0 : Int32) (a1 : Int32) (a2 : Int32) (rv : Int32)  (hf : M_isOf G a0 a1 a2 = some rv) : sMi D (mT cI cJ cD) (mW ad cI cJ cD) l yX12_isOf (ws1 yX12_isOf cX12_isOf 4 (some .boolean)) ({ frames := 0, cells := 0, slots := 0, locals := 0 }) [.ref (ad 0), .int a0, .int a1, .int a2] (G, E, Dd) (rv, (G, E, Dd)) := by
  unfold M_isOf at hf
  refine sMz_of (by decide) (Nat.le_of_ble_eq_true rfl) ?_
  intro p e R s m args below meth c A Q ls H lo F hRf hRl I hl ret
  obtain ⟨hx, hb, hml, hown, hG⟩ := id F
  replace hl : lv_has ls 4 [(0, .ref (ad 0)), (1, .int a0), (2, .int a1), (3, .int a2)] := hl
  refine lv_aload_n hx hb dX12_isOf_0 rfl (lv_at hl 0 rfl) ?_
  refine mgtX12_16_0 F I dX12_isOf_1 ?_
  refine lv_iload_n hx hb dX12_isOf_4 rfl (lv_at hl 1 rfl) ?_
  obtain ⟨g1, hf⟩ := ri_some hf
  refine mal3 F I g1 dX12_isOf_5 ?_
  refine lv_iload_n hx hb dX12_isOf_6 rfl (lv_at hl 2 rfl) ?_
  refine lv_icmp_ne (tgt := 20) hx hb dX12_isOf_7 (by decide) (fun c12 => ?_) (fun c12 => ?_)
  · replace hf := (if_neg c12).symm.trans hf
    refine lv_aload_n hx hb dX12_isOf_20 rfl (lv_at hl 0 rfl) ?_
    refine mgtX12_16_0 F I dX12_isOf_21 ?_
    refine lv_iload_n hx hb dX12_isOf_24 rfl (lv_at hl 1 rfl) ?_
    obtain ⟨g2, hf⟩ := ri_some hf
    refine mal3 F I g2 dX12_isOf_25 ?_
    refine lv_iload_n hx hb dX12_isOf_26 rfl (lv_at hl 3 rfl) ?_
    refine lv_icmp_ne (tgt := 44) hx hb dX12_isOf_27 (by decide) (fun c5 => ?_) (fun c5 => ?_)
    · replace hf := (if_neg c5).symm.trans hf
      refine lv_iconst (v := (0 : Int32)) hx hb dX12_isOf_44 (by decide) ?_
      cases hf
      exact ret H lo _ ls I (Or.inl rfl) dX12_isOf_45
    · replace hf := (if_pos c5).symm.trans hf
      refine lv_aload_n hx hb dX12_isOf_30 rfl (lv_at hl 0 rfl) ?_
      refine mgtX12_19_0 F I dX12_isOf_31 ?_
      refine lv_iload_n hx hb dX12_isOf_34 rfl (lv_at hl 1 rfl) ?_
      obtain ⟨g3, hf⟩ := ri_some hf
      refine mal4 F I g3 dX12_isOf_35 ?_
      refine lv_iload_n hx hb dX12_isOf_36 rfl (lv_at hl 2 rfl) ?_
      refine lv_icmp_ne (tgt := 44) hx hb dX12_isOf_37 (by decide) (fun c4 => ?_) (fun c4 => ?_)
      · replace hf := (if_neg c4).symm.trans hf
        refine lv_iconst (v := (0 : Int32)) hx hb dX12_isOf_44 (by decide) ?_
        cases hf
        exact ret H lo _ ls I (Or.inl rfl) dX12_isOf_45
      · replace hf := (if_pos c4).symm.trans hf
        refine lv_iconst (v := (1 : Int32)) hx hb dX12_isOf_40 (by decide) ?_
        refine lv_goto (tgt := 45) hx hb dX12_isOf_41 (by decide) ?_
        cases hf
        exact ret H lo _ ls I (Or.inr rfl) dX12_isOf_45
  · replace hf := (if_pos c12).symm.trans hf
    refine lv_aload_n hx hb dX12_isOf_10 rfl (lv_at hl 0 rfl) ?_
    refine mgtX12_19_0 F I dX12_isOf_11 ?_
    refine lv_iload_n hx hb dX12_isOf_14 rfl (lv_at hl 1 rfl) ?_
    obtain ⟨g6, hf⟩ := ri_some hf
    refine mal4 F I g6 dX12_isOf_15 ?_
    refine lv_iload_n hx hb dX12_isOf_16 rfl (lv_at hl 3 rfl) ?_
    refine lv_icmp_eq (tgt := 40) hx hb dX12_isOf_17 (by decide) (fun c11 => ?_) (fun c11 => ?_)
    · replace hf := (if_pos c11).symm.trans hf
      refine lv_iconst (v := (1 : Int32)) hx hb dX12_isOf_40 (by decide) ?_
      refine lv_goto (tgt := 45) hx hb dX12_isOf_41 (by decide) ?_
      cases hf
      exact ret H lo _ ls I (Or.inr rfl) dX12_isOf_45
    · replace hf := (if_neg c11).symm.trans hf
      refine lv_aload_n hx hb dX12_isOf_20 rfl (lv_at hl 0 rfl) ?_
      refine mgtX12_16_0 F I dX12_isOf_21 ?_
      refine lv_iload_n hx hb dX12_isOf_24 rfl (lv_at hl 1 rfl) ?_
      obtain ⟨g7, hf⟩ := ri_some hf
      refine mal3 F I g7 dX12_isOf_25 ?_
      refine lv_iload_n hx hb dX12_isOf_26 rfl (lv_at hl 3 rfl) ?_
      refine lv_icmp_ne (tgt := 44) hx hb dX12_isOf_27 (by decide) (fun c10 => ?_) (fun c10 => ?_)
      · replace hf := (if_neg c10).symm.trans hf
        refine lv_iconst (v := (0 : Int32)) hx hb dX12_isOf_44 (by decide) ?_
        cases hf
        exact ret H lo _ ls I (Or.inl rfl) dX12_isOf_45
      · replace hf := (if_pos c10).symm.trans hf
        refine lv_aload_n hx hb dX12_isOf_30 rfl (lv_at hl 0 rfl) ?_
        refine mgtX12_19_0 F I dX12_isOf_31 ?_
        refine lv_iload_n hx hb dX12_isOf_34 rfl (lv_at hl 1 rfl) ?_
        obtain ⟨g8, hf⟩ := ri_some hf
        refine mal4 F I g8 dX12_isOf_35 ?_
        refine lv_iload_n hx hb dX12_isOf_36 rfl (lv_at hl 2 rfl) ?_
        refine lv_icmp_ne (tgt := 44) hx hb dX12_isOf_37 (by decide) (fun c9 => ?_) (fun c9 => ?_)
        · replace hf := (if_neg c9).symm.trans hf
          refine lv_iconst (v := (0 : Int32)) hx hb dX12_isOf_44 (by decide) ?_
          cases hf
          exact ret H lo _ ls I (Or.inl rfl) dX12_isOf_45
        · replace hf := (if_pos c9).symm.trans hf
          refine lv_iconst (v := (1 : Int32)) hx hb dX12_isOf_40 (by decide) ?_
          refine lv_goto (tgt := 45) hx hb dX12_isOf_41 (by decide) ?_
          cases hf
          exact ret H lo _ ls I (Or.inr rfl) dX12_isOf_45
def M_winsBy_s1 (a0 : Int32) (a1 : Int32) (a2 : Int32) (a3 : Int32) (G : Nat → Nat → Int32) (x3 : Int32) (x4 : Int32) : Option ((Int32 × Int32) ⊕ (Int32)) :=
if G 4 0 ≤ x4 then
(some (.inr x3))
else
(bd (M_isOf G x4 a1 a2) fun r12 =>
bd (if r12 = 0 then
(some (0 : Int32))
else
(bd (M_wonBy G x4) fun r36 =>
if r36 = a1 then
(if a0 = (-1 : Int32) then
(some (1 : Int32))
else
(ri 48 x4 <|
if G 5 x4.toNatClampNeg = a0 then
(some (1 : Int32))
else
(some (0 : Int32))))
else
(some (0 : Int32)))) fun x16 =>
bd (if x16 = 0 then
(some (0 : Int32))
else
(if a3 = 0 then
(some (1 : Int32))
else
(ri 48 x4 <|
ri 8 (G 5 x4.toNatClampNeg) <|
some (G 3 (G 5 x4.toNatClampNeg).toNatClampNeg)))) fun x22 =>
nm (x3 + x22 : Int32) fun x26 =>
nm (x4 + (1 : Int32) : Int32) fun x28 =>
some (.inl (x26, x28)))
def M_winsBy (G : Nat → Nat → Int32) (a0 : Int32) (a1 : Int32) (a2 : Int32) (a3 : Int32) : Option (Int32) :=
bd (lp (fun q => M_winsBy_s1 a0 a1 a2 a3 G q.1 q.2) FU ((0 : Int32), (0 : Int32))) fun x5 =>
some x5
set_option maxRecDepth 100000 in
set_option maxHeartbeats 4000000 in
theorem cM_winsBy (G : Nat → Nat → Int32) (E : Nat → Nat → Int64) (Dd : Nat → Nat → UInt64) (a0 : Int32) (a1 : Int32) (a2 : Int32) (a3 : Int32) (rv : Int32)  (hf : M_winsBy G a0 a1 a2 a3 = some rv) : sMi D (mT cI cJ cD) (mW ad cI cJ cD) l yX12_winsBy (ws1 yX12_winsBy cX12_winsBy 8 (some .int)) ({ frames := 1, cells := 0, slots := 0, locals := 23 }) [.ref (ad 0), .int a0, .int a1, .int a2, .int a3] (G, E, Dd) (rv, (G, E, Dd)) := by
  unfold M_winsBy at hf
  refine sMi_of (by decide) (Nat.le_of_ble_eq_true rfl) ?_
  intro p e R s m args below meth c A Q ls H lo F hRf hRl I hl ret
  obtain ⟨hx, hb, hml, hown, hG⟩ := id F
  replace hl : lv_has ls 8 [(0, .ref (ad 0)), (1, .int a0), (2, .int a1), (3, .int a2), (4, .int a3)] := hl
  refine lv_iconst (v := (0 : Int32)) hx hb dX12_winsBy_0 (by decide) ?_
  refine lv_istore (lv' := [(5, .int (0 : Int32)), (0, .ref (ad 0)), (1, .int a0), (2, .int a1), (3, .int a2), (4, .int a3)]) hx hb dX12_winsBy_1 hl (by decide) rfl (fun ls_1 hl_1 => ?_)
  refine lv_iconst (v := (0 : Int32)) hx hb dX12_winsBy_3 (by decide) ?_
  refine lv_istore (lv' := [(6, .int (0 : Int32)), (5, .int (0 : Int32)), (0, .ref (ad 0)), (1, .int a0), (2, .int a1), (3, .int a2), (4, .int a3)]) hx hb dX12_winsBy_4 hl_1 (by decide) rfl (fun ls_2 hl_2 => ?_)
  obtain ⟨x5, hq1, hf⟩ := bd_some hf
  have K1 : ∀ (H : Heap) (locs : List Loc), sInv D (mT cI cJ cD) (mW ad cI cJ cD) A s H locs (G, E, Dd) → ∀ (ls : Array Slot), lv_has ls 8 [(5, .int x5)] → W p l e R s m args below meth c H locs 0 0 Q (F0 m 100 ls []) := by
    intro H_6 lo_6 I_6 ls_7 hl_7
    refine lv_iload hx hb dX12_winsBy_100 (lv_at hl_7 0 rfl) ?_
    cases hf
    exact ret H_6 lo_6 _ ls_7 I_6 dX12_winsBy_102
  have L1 : ∀ (n : Nat) (x3 : Int32) (x4 : Int32), lp (fun q => M_winsBy_s1 a0 a1 a2 a3 G q.1 q.2) n (x3, x4) = some x5 → ∀ (H : Heap) (locs : List Loc), sInv D (mT cI cJ cD) (mW ad cI cJ cD) A s H locs (G, E, Dd) → ∀ (ls : Array Slot), lv_has ls 8 [(0, .ref (ad 0)), (1, .int a0), (2, .int a1), (3, .int a2), (4, .int a3), (5, .int x3), (6, .int x4)] → W p l e R s m args below meth c H locs 0 0 Q (F0 m 6 ls []) := by
    intro n
    induction n with
    | zero => intro x3 x4 hq; exact (lp_0 hq).elim
    | succ n ih1 =>
      intro x3 x4 hq H_9 lo_9 I_9 ls_10 hl_10
      obtain ⟨y1, hf, hK1⟩ := lp_go hq
      replace hf : M_winsBy_s1 a0 a1 a2 a3 G x3 x4 = some y1 := hf
      unfold M_winsBy_s1 at hf
      refine lv_iload hx hb dX12_winsBy_6 (lv_at hl_10 6 rfl) ?_
      refine lv_aload_n hx hb dX12_winsBy_8 rfl (lv_at hl_10 0 rfl) ?_
      refine mgtX12_102_0 F I_9 dX12_winsBy_9 ?_
      refine lv_icmp_ge (tgt := 100) hx hb dX12_winsBy_12 (by decide) (fun c44 => ?_) (fun c44 => ?_)
      · replace hf := (if_pos c44).symm.trans hf
        cases hf
        cases (show x3 = x5 from hK1)
        exact K1 H_9 lo_9 I_9 ls_10 (lv_sub hl_10 [5] rfl)
      · replace hf := (if_neg c44).symm.trans hf
        refine lv_aload_n hx hb dX12_winsBy_15 rfl (lv_at hl_10 0 rfl) ?_
        refine lv_iload hx hb dX12_winsBy_16 (lv_at hl_10 6 rfl) ?_
        refine lv_iload_n hx hb dX12_winsBy_18 rfl (lv_at hl_10 2 rfl) ?_
        refine lv_iload_n hx hb dX12_winsBy_19 rfl (lv_at hl_10 3 rfl) ?_
        obtain ⟨r12, h13, hf⟩ := bd_some hf
        refine s_callVi (As := [.int x4, .int a1, .int a2]) (rest := []) F I_9 (cM_isOf G E Dd x4 a1 a2 r12 h13) kX12_214 ⟨rfl, rfl⟩ ⟨Nat.le_trans (Nat.le_of_ble_eq_true rfl) hRf, Nat.le_trans (Nat.le_of_ble_eq_true rfl) hRl⟩ (0) 12 rfl rfl rfl rfl rfl hl_10.1 (Nat.le_of_ble_eq_true rfl) ⟨Nat.zero_le _, Nat.zero_le _⟩ dX12_winsBy_20 ?_
        intro H_14 lo_14 I_14
        obtain ⟨x16, hv35, hf⟩ := bd_some hf
        have J15 : ∀ (H : Heap) (locs : List Loc), sInv D (mT cI cJ cD) (mW ad cI cJ cD) A s H locs (G, E, Dd) → ∀ (ls : Array Slot), lv_has ls 8 [(0, .ref (ad 0)), (1, .int a0), (2, .int a1), (3, .int a2), (4, .int a3), (5, .int x3), (6, .int x4)] → W p l e R s m args below meth c H locs 0 0 Q (F0 m 57 ls [.int x16]) := by
          intro H_17 lo_17 I_17 ls_18 hl_18
          refine lv_istore (lv' := [(7, .int x16), (0, .ref (ad 0)), (1, .int a0), (2, .int a1), (3, .int a2), (4, .int a3), (5, .int x3), (6, .int x4)]) hx hb dX12_winsBy_57 hl_18 (by decide) rfl (fun ls_20 hl_20 => ?_)
          refine lv_iload hx hb dX12_winsBy_59 (lv_at hl_20 6 rfl) ?_
          refine lv_iload hx hb dX12_winsBy_61 (lv_at hl_20 0 rfl) ?_
          obtain ⟨x22, hv30, hf⟩ := bd_some hf
          have J21 : ∀ (H : Heap) (locs : List Loc), sInv D (mT cI cJ cD) (mW ad cI cJ cD) A s H locs (G, E, Dd) → ∀ (ls : Array Slot), lv_has ls 8 [(0, .ref (ad 0)), (1, .int a0), (2, .int a1), (3, .int a2), (4, .int a3), (6, .int x4)] → W p l e R s m args below meth c H locs 0 0 Q (F0 m 91 ls [.int x22, .int x3]) := by
            intro H_23 lo_23 I_23 ls_24 hl_24
            refine lv_iadd hx hb dX12_winsBy_91 ?_
            refine lv_topi (fun x26 ex26 => ?_)
            replace hf := nm_some ex26 hf
            refine lv_istore (lv' := [(5, .int x26), (0, .ref (ad 0)), (1, .int a0), (2, .int a1), (3, .int a2), (4, .int a3), (6, .int x4)]) hx hb dX12_winsBy_92 hl_24 (by decide) rfl (fun ls_27 hl_27 => ?_)
            obtain ⟨x28, ex28⟩ : ∃ y : Int32, y = x4 + (1 : Int32) := ⟨_, rfl⟩
            replace hf := nm_some ex28 hf
            refine lv_iinc (v := x28) (lv' := [(6, .int x28), (5, .int x26), (0, .ref (ad 0)), (1, .int a0), (2, .int a1), (3, .int a2), (4, .int a3)]) hx hb dX12_winsBy_94 hl_27 (k := 6) rfl (by rw [ex28]; rfl) (by decide) rfl (fun ls_29 hl_29 => ?_)
            refine lv_goto (tgt := 6) hx hb dX12_winsBy_97 (by decide) ?_
            cases hf
            exact ih1 _ _ hK1 H_23 lo_23 I_23 ls_29 (lv_sub hl_29 [2, 3, 4, 5, 6, 1, 0] rfl)
          replace hf := hv30
          refine lv_if_eq (tgt := 90) hx hb dX12_winsBy_63 (by decide) (fun c34 => ?_) (fun c34 => ?_)
          · replace hf := (if_pos c34).symm.trans hf
            refine lv_iconst (v := (0 : Int32)) hx hb dX12_winsBy_90 (by decide) ?_
            cases hf
            exact J21 H_17 lo_17 I_17 ls_20 (lv_sub hl_20 [1, 2, 3, 4, 5, 7] rfl)
          · replace hf := (if_neg c34).symm.trans hf
            refine lv_iload hx hb dX12_winsBy_66 (lv_at hl_20 5 rfl) ?_
            refine lv_if_eq (tgt := 86) hx hb dX12_winsBy_68 (by decide) (fun c33 => ?_) (fun c33 => ?_)
            · replace hf := (if_pos c33).symm.trans hf
              refine lv_iconst (v := (1 : Int32)) hx hb dX12_winsBy_86 (by decide) ?_
              refine lv_goto (tgt := 91) hx hb dX12_winsBy_87 (by decide) ?_
              cases hf
              exact J21 H_17 lo_17 I_17 ls_20 (lv_sub hl_20 [1, 2, 3, 4, 5, 7] rfl)
            · replace hf := (if_neg c33).symm.trans hf
              refine lv_aload_n hx hb dX12_winsBy_71 rfl (lv_at hl_20 1 rfl) ?_
              refine mgtX12_7_0 F I_17 dX12_winsBy_72 ?_
              refine lv_aload_n hx hb dX12_winsBy_75 rfl (lv_at hl_20 1 rfl) ?_
              refine mgtX12_13_0 F I_17 dX12_winsBy_76 ?_
              refine lv_iload hx hb dX12_winsBy_79 (lv_at hl_20 7 rfl) ?_
              obtain ⟨g31, hf⟩ := ri_some hf
              refine mal2 F I_17 g31 dX12_winsBy_81 ?_
              obtain ⟨g32, hf⟩ := ri_some hf
              refine mal1 F I_17 g32 dX12_winsBy_82 ?_
              refine lv_goto (tgt := 91) hx hb dX12_winsBy_83 (by decide) ?_
              cases hf
              exact J21 H_17 lo_17 I_17 ls_20 (lv_sub hl_20 [1, 2, 3, 4, 5, 7] rfl)
        replace hf := hv35
        refine lv_if_eq (tgt := 56) hx hb dX12_winsBy_23 (by decide) (fun c43 => ?_) (fun c43 => ?_)
        · replace hf := (if_pos c43).symm.trans hf
          refine lv_iconst (v := (0 : Int32)) hx hb dX12_winsBy_56 (by decide) ?_
          cases hf
          exact J15 H_14 lo_14 I_14 ls_10 (lv_sub hl_10 [0, 1, 2, 3, 4, 5, 6] rfl)
        · replace hf := (if_neg c43).symm.trans hf
          refine lv_aload_n hx hb dX12_winsBy_26 rfl (lv_at hl_10 0 rfl) ?_
          refine lv_iload hx hb dX12_winsBy_27 (lv_at hl_10 6 rfl) ?_
          obtain ⟨r36, h37, hf⟩ := bd_some hf
          refine s_callVi (As := [.int x4]) (rest := []) F I_14 (cM_wonBy G E Dd x4 r36 h37) kX12_217 ⟨rfl, rfl⟩ ⟨Nat.le_trans (Nat.le_of_ble_eq_true rfl) hRf, Nat.le_trans (Nat.le_of_ble_eq_true rfl) hRl⟩ (0) 12 rfl rfl rfl rfl rfl hl_10.1 (Nat.le_of_ble_eq_true rfl) ⟨Nat.zero_le _, Nat.zero_le _⟩ dX12_winsBy_29 ?_
          intro H_38 lo_38 I_38
          refine lv_iload_n hx hb dX12_winsBy_32 rfl (lv_at hl_10 2 rfl) ?_
          refine lv_icmp_ne (tgt := 56) hx hb dX12_winsBy_33 (by decide) (fun c42 => ?_) (fun c42 => ?_)
          · replace hf := (if_neg c42).symm.trans hf
            refine lv_iconst (v := (0 : Int32)) hx hb dX12_winsBy_56 (by decide) ?_
            cases hf
            exact J15 H_38 lo_38 I_38 ls_10 (lv_sub hl_10 [0, 1, 2, 3, 4, 5, 6] rfl)
          · replace hf := (if_pos c42).symm.trans hf
            refine lv_iload_n hx hb dX12_winsBy_36 rfl (lv_at hl_10 1 rfl) ?_
            refine lv_iconst (v := (-1 : Int32)) hx hb dX12_winsBy_37 (by decide) ?_
            refine lv_icmp_eq (tgt := 52) hx hb dX12_winsBy_38 (by decide) (fun c41 => ?_) (fun c41 => ?_)
            · replace hf := (if_pos c41).symm.trans hf
              refine lv_iconst (v := (1 : Int32)) hx hb dX12_winsBy_52 (by decide) ?_
              refine lv_goto (tgt := 57) hx hb dX12_winsBy_53 (by decide) ?_
              cases hf
              exact J15 H_38 lo_38 I_38 ls_10 (lv_sub hl_10 [0, 1, 2, 3, 4, 5, 6] rfl)
            · replace hf := (if_neg c41).symm.trans hf
              refine lv_aload_n hx hb dX12_winsBy_41 rfl (lv_at hl_10 0 rfl) ?_
              refine mgtX12_13_0 F I_38 dX12_winsBy_42 ?_
              refine lv_iload hx hb dX12_winsBy_45 (lv_at hl_10 6 rfl) ?_
              obtain ⟨g39, hf⟩ := ri_some hf
              refine mal2 F I_38 g39 dX12_winsBy_47 ?_
              refine lv_iload_n hx hb dX12_winsBy_48 rfl (lv_at hl_10 1 rfl) ?_
              refine lv_icmp_ne (tgt := 56) hx hb dX12_winsBy_49 (by decide) (fun c40 => ?_) (fun c40 => ?_)
              · replace hf := (if_neg c40).symm.trans hf
                refine lv_iconst (v := (0 : Int32)) hx hb dX12_winsBy_56 (by decide) ?_
                cases hf
                exact J15 H_38 lo_38 I_38 ls_10 (lv_sub hl_10 [0, 1, 2, 3, 4, 5, 6] rfl)
              · replace hf := (if_pos c40).symm.trans hf
                refine lv_iconst (v := (1 : Int32)) hx hb dX12_winsBy_52 (by decide) ?_
                refine lv_goto (tgt := 57) hx hb dX12_winsBy_53 (by decide) ?_
                cases hf
                exact J15 H_38 lo_38 I_38 ls_10 (lv_sub hl_10 [0, 1, 2, 3, 4, 5, 6] rfl)
  exact L1 FU _ _ hq1 H lo I ls_2 (lv_sub hl_2 [2, 3, 4, 5, 6, 1, 0] rfl)
def M_wins (G : Nat → Nat → Int32) (a0 : Int32) (a1 : Int32) : Option (Int32) :=
bd (M_winsBy G (-1 : Int32) a0 a1 (0 : Int32)) fun r1 =>
some r1
set_option maxRecDepth 100000 in
set_option maxHeartbeats 4000000 in
theorem cM_wins (G : Nat → Nat → Int32) (E : Nat → Nat → Int64) (Dd : Nat → Nat → UInt64) (a0 : Int32) (a1 : Int32) (rv : Int32)  (hf : M_wins G a0 a1 = some rv) : sMi D (mT cI cJ cD) (mW ad cI cJ cD) l yX12_wins (ws1 yX12_wins cX12_wins 3 (some .int)) ({ frames := 2, cells := 0, slots := 0, locals := 50 }) [.ref (ad 0), .int a0, .int a1] (G, E, Dd) (rv, (G, E, Dd)) := by
  unfold M_wins at hf
  refine sMi_of (by decide) (Nat.le_of_ble_eq_true rfl) ?_
  intro p e R s m args below meth c A Q ls H lo F hRf hRl I hl ret
  obtain ⟨hx, hb, hml, hown, hG⟩ := id F
  replace hl : lv_has ls 3 [(0, .ref (ad 0)), (1, .int a0), (2, .int a1)] := hl
  refine lv_aload_n hx hb dX12_wins_0 rfl (lv_at hl 0 rfl) ?_
  refine lv_iconst (v := (-1 : Int32)) hx hb dX12_wins_1 (by decide) ?_
  refine lv_iload_n hx hb dX12_wins_2 rfl (lv_at hl 1 rfl) ?_
  refine lv_iload_n hx hb dX12_wins_3 rfl (lv_at hl 2 rfl) ?_
  refine lv_iconst (v := (0 : Int32)) hx hb dX12_wins_4 (by decide) ?_
  obtain ⟨r1, h2, hf⟩ := bd_some hf
  refine s_callVi (As := [.int (-1 : Int32), .int a0, .int a1, .int (0 : Int32)]) (rest := []) F I (cM_winsBy G E Dd (-1 : Int32) a0 a1 (0 : Int32) r1 h2) kX12_220 ⟨rfl, rfl⟩ ⟨Nat.le_trans (Nat.le_of_ble_eq_true rfl) hRf, Nat.le_trans (Nat.le_of_ble_eq_true rfl) hRl⟩ (0) 12 rfl rfl rfl rfl rfl hl.1 (Nat.le_of_ble_eq_true rfl) ⟨Nat.zero_le _, Nat.zero_le _⟩ dX12_wins_5 ?_
  intro H_3 lo_3 I_3
  cases hf
  exact ret H_3 lo_3 _ ls I_3 dX12_wins_8
def M_tiesOf_s1 (a0 : Int32) (a1 : Int32) (G : Nat → Nat → Int32) (x3 : Int32) (x4 : Int32) : Option ((Int32 × Int32) ⊕ (Int32)) :=
if G 4 0 ≤ x4 then
(some (.inr x3))
else
(bd (M_isOf G x4 a0 a1) fun r12 =>
bd (if r12 = 0 then
(some (0 : Int32))
else
(ri 48 x4 <|
if G 8 x4.toNatClampNeg = 0 then
(some (1 : Int32))
else
(some (0 : Int32)))) fun x16 =>
nm (x3 + x16 : Int32) fun x20 =>
nm (x4 + (1 : Int32) : Int32) fun x22 =>
some (.inl (x20, x22)))
def M_tiesOf (G : Nat → Nat → Int32) (a0 : Int32) (a1 : Int32) : Option (Int32) :=
bd (lp (fun q => M_tiesOf_s1 a0 a1 G q.1 q.2) FU ((0 : Int32), (0 : Int32))) fun x5 =>
some x5
set_option maxRecDepth 100000 in
set_option maxHeartbeats 4000000 in
theorem cM_tiesOf (G : Nat → Nat → Int32) (E : Nat → Nat → Int64) (Dd : Nat → Nat → UInt64) (a0 : Int32) (a1 : Int32) (rv : Int32)  (hf : M_tiesOf G a0 a1 = some rv) : sMi D (mT cI cJ cD) (mW ad cI cJ cD) l yX12_tiesOf (ws1 yX12_tiesOf cX12_tiesOf 5 (some .int)) ({ frames := 1, cells := 0, slots := 0, locals := 23 }) [.ref (ad 0), .int a0, .int a1] (G, E, Dd) (rv, (G, E, Dd)) := by
  unfold M_tiesOf at hf
  refine sMi_of (by decide) (Nat.le_of_ble_eq_true rfl) ?_
  intro p e R s m args below meth c A Q ls H lo F hRf hRl I hl ret
  obtain ⟨hx, hb, hml, hown, hG⟩ := id F
  replace hl : lv_has ls 5 [(0, .ref (ad 0)), (1, .int a0), (2, .int a1)] := hl
  refine lv_iconst (v := (0 : Int32)) hx hb dX12_tiesOf_0 (by decide) ?_
  refine lv_istore_n (lv' := [(3, .int (0 : Int32)), (0, .ref (ad 0)), (1, .int a0), (2, .int a1)]) hx hb dX12_tiesOf_1 rfl hl (by decide) rfl (fun ls_1 hl_1 => ?_)
  refine lv_iconst (v := (0 : Int32)) hx hb dX12_tiesOf_2 (by decide) ?_
  refine lv_istore (lv' := [(4, .int (0 : Int32)), (3, .int (0 : Int32)), (0, .ref (ad 0)), (1, .int a0), (2, .int a1)]) hx hb dX12_tiesOf_3 hl_1 (by decide) rfl (fun ls_2 hl_2 => ?_)
  obtain ⟨x5, hq1, hf⟩ := bd_some hf
  have K1 : ∀ (H : Heap) (locs : List Loc), sInv D (mT cI cJ cD) (mW ad cI cJ cD) A s H locs (G, E, Dd) → ∀ (ls : Array Slot), lv_has ls 5 [(3, .int x5)] → W p l e R s m args below meth c H locs 0 0 Q (F0 m 49 ls []) := by
    intro H_6 lo_6 I_6 ls_7 hl_7
    refine lv_iload_n hx hb dX12_tiesOf_49 rfl (lv_at hl_7 0 rfl) ?_
    cases hf
    exact ret H_6 lo_6 _ ls_7 I_6 dX12_tiesOf_50
  have L1 : ∀ (n : Nat) (x3 : Int32) (x4 : Int32), lp (fun q => M_tiesOf_s1 a0 a1 G q.1 q.2) n (x3, x4) = some x5 → ∀ (H : Heap) (locs : List Loc), sInv D (mT cI cJ cD) (mW ad cI cJ cD) A s H locs (G, E, Dd) → ∀ (ls : Array Slot), lv_has ls 5 [(0, .ref (ad 0)), (1, .int a0), (2, .int a1), (3, .int x3), (4, .int x4)] → W p l e R s m args below meth c H locs 0 0 Q (F0 m 5 ls []) := by
    intro n
    induction n with
    | zero => intro x3 x4 hq; exact (lp_0 hq).elim
    | succ n ih1 =>
      intro x3 x4 hq H_9 lo_9 I_9 ls_10 hl_10
      obtain ⟨y1, hf, hK1⟩ := lp_go hq
      replace hf : M_tiesOf_s1 a0 a1 G x3 x4 = some y1 := hf
      unfold M_tiesOf_s1 at hf
      refine lv_iload hx hb dX12_tiesOf_5 (lv_at hl_10 4 rfl) ?_
      refine lv_aload_n hx hb dX12_tiesOf_7 rfl (lv_at hl_10 0 rfl) ?_
      refine mgtX12_102_0 F I_9 dX12_tiesOf_8 ?_
      refine lv_icmp_ge (tgt := 49) hx hb dX12_tiesOf_11 (by decide) (fun c28 => ?_) (fun c28 => ?_)
      · replace hf := (if_pos c28).symm.trans hf
        cases hf
        cases (show x3 = x5 from hK1)
        exact K1 H_9 lo_9 I_9 ls_10 (lv_sub hl_10 [3] rfl)
      · replace hf := (if_neg c28).symm.trans hf
        refine lv_iload_n hx hb dX12_tiesOf_14 rfl (lv_at hl_10 3 rfl) ?_
        refine lv_aload_n hx hb dX12_tiesOf_15 rfl (lv_at hl_10 0 rfl) ?_
        refine lv_iload hx hb dX12_tiesOf_16 (lv_at hl_10 4 rfl) ?_
        refine lv_iload_n hx hb dX12_tiesOf_18 rfl (lv_at hl_10 1 rfl) ?_
        refine lv_iload_n hx hb dX12_tiesOf_19 rfl (lv_at hl_10 2 rfl) ?_
        obtain ⟨r12, h13, hf⟩ := bd_some hf
        refine s_callVi (As := [.int x4, .int a0, .int a1]) (rest := [.int x3]) F I_9 (cM_isOf G E Dd x4 a0 a1 r12 h13) kX12_214 ⟨rfl, rfl⟩ ⟨Nat.le_trans (Nat.le_of_ble_eq_true rfl) hRf, Nat.le_trans (Nat.le_of_ble_eq_true rfl) hRl⟩ (0) 12 rfl rfl rfl rfl rfl hl_10.1 (Nat.le_of_ble_eq_true rfl) ⟨Nat.zero_le _, Nat.zero_le _⟩ dX12_tiesOf_20 ?_
        intro H_14 lo_14 I_14
        obtain ⟨x16, hv24, hf⟩ := bd_some hf
        have J15 : ∀ (H : Heap) (locs : List Loc), sInv D (mT cI cJ cD) (mW ad cI cJ cD) A s H locs (G, E, Dd) → ∀ (ls : Array Slot), lv_has ls 5 [(0, .ref (ad 0)), (1, .int a0), (2, .int a1), (4, .int x4)] → W p l e R s m args below meth c H locs 0 0 Q (F0 m 41 ls [.int x16, .int x3]) := by
          intro H_17 lo_17 I_17 ls_18 hl_18
          refine lv_iadd hx hb dX12_tiesOf_41 ?_
          refine lv_topi (fun x20 ex20 => ?_)
          replace hf := nm_some ex20 hf
          refine lv_istore_n (lv' := [(3, .int x20), (0, .ref (ad 0)), (1, .int a0), (2, .int a1), (4, .int x4)]) hx hb dX12_tiesOf_42 rfl hl_18 (by decide) rfl (fun ls_21 hl_21 => ?_)
          obtain ⟨x22, ex22⟩ : ∃ y : Int32, y = x4 + (1 : Int32) := ⟨_, rfl⟩
          replace hf := nm_some ex22 hf
          refine lv_iinc (v := x22) (lv' := [(4, .int x22), (3, .int x20), (0, .ref (ad 0)), (1, .int a0), (2, .int a1)]) hx hb dX12_tiesOf_43 hl_21 (k := 4) rfl (by rw [ex22]; rfl) (by decide) rfl (fun ls_23 hl_23 => ?_)
          refine lv_goto (tgt := 5) hx hb dX12_tiesOf_46 (by decide) ?_
          cases hf
          exact ih1 _ _ hK1 H_17 lo_17 I_17 ls_23 (lv_sub hl_23 [2, 3, 4, 1, 0] rfl)
        replace hf := hv24
        refine lv_if_eq (tgt := 40) hx hb dX12_tiesOf_23 (by decide) (fun c27 => ?_) (fun c27 => ?_)
        · replace hf := (if_pos c27).symm.trans hf
          refine lv_iconst (v := (0 : Int32)) hx hb dX12_tiesOf_40 (by decide) ?_
          cases hf
          exact J15 H_14 lo_14 I_14 ls_10 (lv_sub hl_10 [0, 1, 2, 4] rfl)
        · replace hf := (if_neg c27).symm.trans hf
          refine lv_aload_n hx hb dX12_tiesOf_26 rfl (lv_at hl_10 0 rfl) ?_
          refine mgtX12_22_0 F I_14 dX12_tiesOf_27 ?_
          refine lv_iload hx hb dX12_tiesOf_30 (lv_at hl_10 4 rfl) ?_
          obtain ⟨g25, hf⟩ := ri_some hf
          refine mal5 F I_14 g25 dX12_tiesOf_32 ?_
          refine lv_if_ne (tgt := 40) hx hb dX12_tiesOf_33 (by decide) (fun c26 => ?_) (fun c26 => ?_)
          · replace hf := (if_neg c26).symm.trans hf
            refine lv_iconst (v := (0 : Int32)) hx hb dX12_tiesOf_40 (by decide) ?_
            cases hf
            exact J15 H_14 lo_14 I_14 ls_10 (lv_sub hl_10 [0, 1, 2, 4] rfl)
          · replace hf := (if_pos c26).symm.trans hf
            refine lv_iconst (v := (1 : Int32)) hx hb dX12_tiesOf_36 (by decide) ?_
            refine lv_goto (tgt := 41) hx hb dX12_tiesOf_37 (by decide) ?_
            cases hf
            exact J15 H_14 lo_14 I_14 ls_10 (lv_sub hl_10 [0, 1, 2, 4] rfl)
  exact L1 FU _ _ hq1 H lo I ls_2 (lv_sub hl_2 [2, 3, 4, 1, 0] rfl)
def M_margin (G : Nat → Nat → Int32) (a0 : Int32) (a1 : Int32) : Option (Int32) :=
bd (M_winsBy G (-1 : Int32) a0 a1 (1 : Int32)) fun r1 =>
bd (M_winsBy G (-1 : Int32) a1 a0 (1 : Int32)) fun r4 =>
some (r1 - r4)
set_option maxRecDepth 100000 in
set_option maxHeartbeats 4000000 in
theorem cM_margin (G : Nat → Nat → Int32) (E : Nat → Nat → Int64) (Dd : Nat → Nat → UInt64) (a0 : Int32) (a1 : Int32) (rv : Int32)  (hf : M_margin G a0 a1 = some rv) : sMi D (mT cI cJ cD) (mW ad cI cJ cD) l yX12_margin (ws1 yX12_margin cX12_margin 3 (some .int)) ({ frames := 2, cells := 0, slots := 0, locals := 50 }) [.ref (ad 0), .int a0, .int a1] (G, E, Dd) (rv, (G, E, Dd)) := by
  unfold M_margin at hf
  refine sMi_of (by decide) (Nat.le_of_ble_eq_true rfl) ?_
  intro p e R s m args below meth c A Q ls H lo F hRf hRl I hl ret
  obtain ⟨hx, hb, hml, hown, hG⟩ := id F
  replace hl : lv_has ls 3 [(0, .ref (ad 0)), (1, .int a0), (2, .int a1)] := hl
  refine lv_aload_n hx hb dX12_margin_0 rfl (lv_at hl 0 rfl) ?_
  refine lv_iconst (v := (-1 : Int32)) hx hb dX12_margin_1 (by decide) ?_
  refine lv_iload_n hx hb dX12_margin_2 rfl (lv_at hl 1 rfl) ?_
  refine lv_iload_n hx hb dX12_margin_3 rfl (lv_at hl 2 rfl) ?_
  refine lv_iconst (v := (1 : Int32)) hx hb dX12_margin_4 (by decide) ?_
  obtain ⟨r1, h2, hf⟩ := bd_some hf
  refine s_callVi (As := [.int (-1 : Int32), .int a0, .int a1, .int (1 : Int32)]) (rest := []) F I (cM_winsBy G E Dd (-1 : Int32) a0 a1 (1 : Int32) r1 h2) kX12_220 ⟨rfl, rfl⟩ ⟨Nat.le_trans (Nat.le_of_ble_eq_true rfl) hRf, Nat.le_trans (Nat.le_of_ble_eq_true rfl) hRl⟩ (0) 12 rfl rfl rfl rfl rfl hl.1 (Nat.le_of_ble_eq_true rfl) ⟨Nat.zero_le _, Nat.zero_le _⟩ dX12_margin_5 ?_
  intro H_3 lo_3 I_3
  refine lv_aload_n hx hb dX12_margin_8 rfl (lv_at hl 0 rfl) ?_
  refine lv_iconst (v := (-1 : Int32)) hx hb dX12_margin_9 (by decide) ?_
  refine lv_iload_n hx hb dX12_margin_10 rfl (lv_at hl 2 rfl) ?_
  refine lv_iload_n hx hb dX12_margin_11 rfl (lv_at hl 1 rfl) ?_
  refine lv_iconst (v := (1 : Int32)) hx hb dX12_margin_12 (by decide) ?_
  obtain ⟨r4, h5, hf⟩ := bd_some hf
  refine s_callVi (As := [.int (-1 : Int32), .int a1, .int a0, .int (1 : Int32)]) (rest := [.int r1]) F I_3 (cM_winsBy G E Dd (-1 : Int32) a1 a0 (1 : Int32) r4 h5) kX12_220 ⟨rfl, rfl⟩ ⟨Nat.le_trans (Nat.le_of_ble_eq_true rfl) hRf, Nat.le_trans (Nat.le_of_ble_eq_true rfl) hRl⟩ (0) 12 rfl rfl rfl rfl rfl hl.1 (Nat.le_of_ble_eq_true rfl) ⟨Nat.zero_le _, Nat.zero_le _⟩ dX12_margin_13 ?_
  intro H_6 lo_6 I_6
  refine lv_isub hx hb dX12_margin_16 ?_
  cases hf
  exact ret H_6 lo_6 _ ls I_6 dX12_margin_17
def M_prefers (G : Nat → Nat → Int32) (a0 : Int32) (a1 : Int32) (a2 : Int32) : Option (Int32) :=
bd (M_winsBy G a0 a1 a2 (0 : Int32)) fun r1 =>
bd (M_winsBy G a0 a2 a1 (0 : Int32)) fun r4 =>
if r1 ≤ r4 then
(some (0 : Int32))
else
(some (1 : Int32))
set_option maxRecDepth 100000 in
set_option maxHeartbeats 4000000 in
theorem cM_prefers (G : Nat → Nat → Int32) (E : Nat → Nat → Int64) (Dd : Nat → Nat → UInt64) (a0 : Int32) (a1 : Int32) (a2 : Int32) (rv : Int32)  (hf : M_prefers G a0 a1 a2 = some rv) : sMi D (mT cI cJ cD) (mW ad cI cJ cD) l yX12_prefers (ws1 yX12_prefers cX12_prefers 4 (some .boolean)) ({ frames := 2, cells := 0, slots := 0, locals := 50 }) [.ref (ad 0), .int a0, .int a1, .int a2] (G, E, Dd) (rv, (G, E, Dd)) := by
  unfold M_prefers at hf
  refine sMz_of (by decide) (Nat.le_of_ble_eq_true rfl) ?_
  intro p e R s m args below meth c A Q ls H lo F hRf hRl I hl ret
  obtain ⟨hx, hb, hml, hown, hG⟩ := id F
  replace hl : lv_has ls 4 [(0, .ref (ad 0)), (1, .int a0), (2, .int a1), (3, .int a2)] := hl
  refine lv_aload_n hx hb dX12_prefers_0 rfl (lv_at hl 0 rfl) ?_
  refine lv_iload_n hx hb dX12_prefers_1 rfl (lv_at hl 1 rfl) ?_
  refine lv_iload_n hx hb dX12_prefers_2 rfl (lv_at hl 2 rfl) ?_
  refine lv_iload_n hx hb dX12_prefers_3 rfl (lv_at hl 3 rfl) ?_
  refine lv_iconst (v := (0 : Int32)) hx hb dX12_prefers_4 (by decide) ?_
  obtain ⟨r1, h2, hf⟩ := bd_some hf
  refine s_callVi (As := [.int a0, .int a1, .int a2, .int (0 : Int32)]) (rest := []) F I (cM_winsBy G E Dd a0 a1 a2 (0 : Int32) r1 h2) kX12_220 ⟨rfl, rfl⟩ ⟨Nat.le_trans (Nat.le_of_ble_eq_true rfl) hRf, Nat.le_trans (Nat.le_of_ble_eq_true rfl) hRl⟩ (0) 12 rfl rfl rfl rfl rfl hl.1 (Nat.le_of_ble_eq_true rfl) ⟨Nat.zero_le _, Nat.zero_le _⟩ dX12_prefers_5 ?_
  intro H_3 lo_3 I_3
  refine lv_aload_n hx hb dX12_prefers_8 rfl (lv_at hl 0 rfl) ?_
  refine lv_iload_n hx hb dX12_prefers_9 rfl (lv_at hl 1 rfl) ?_
  refine lv_iload_n hx hb dX12_prefers_10 rfl (lv_at hl 3 rfl) ?_
  refine lv_iload_n hx hb dX12_prefers_11 rfl (lv_at hl 2 rfl) ?_
  refine lv_iconst (v := (0 : Int32)) hx hb dX12_prefers_12 (by decide) ?_
  obtain ⟨r4, h5, hf⟩ := bd_some hf
  refine s_callVi (As := [.int a0, .int a2, .int a1, .int (0 : Int32)]) (rest := [.int r1]) F I_3 (cM_winsBy G E Dd a0 a2 a1 (0 : Int32) r4 h5) kX12_220 ⟨rfl, rfl⟩ ⟨Nat.le_trans (Nat.le_of_ble_eq_true rfl) hRf, Nat.le_trans (Nat.le_of_ble_eq_true rfl) hRl⟩ (0) 12 rfl rfl rfl rfl rfl hl.1 (Nat.le_of_ble_eq_true rfl) ⟨Nat.zero_le _, Nat.zero_le _⟩ dX12_prefers_13 ?_
  intro H_6 lo_6 I_6
  refine lv_icmp_le (tgt := 23) hx hb dX12_prefers_16 (by decide) (fun c7 => ?_) (fun c7 => ?_)
  · replace hf := (if_pos c7).symm.trans hf
    refine lv_iconst (v := (0 : Int32)) hx hb dX12_prefers_23 (by decide) ?_
    cases hf
    exact ret H_6 lo_6 _ ls I_6 (Or.inl rfl) dX12_prefers_24
  · replace hf := (if_neg c7).symm.trans hf
    refine lv_iconst (v := (1 : Int32)) hx hb dX12_prefers_19 (by decide) ?_
    refine lv_goto (tgt := 24) hx hb dX12_prefers_20 (by decide) ?_
    cases hf
    exact ret H_6 lo_6 _ ls I_6 (Or.inr rfl) dX12_prefers_24
def M_preferring_s1 (a0 : Int32) (a1 : Int32) (G : Nat → Nat → Int32) (x3 : Int32) (x4 : Int32) : Option ((Int32 × Int32) ⊕ (Int32)) :=
if G 2 0 ≤ x4 then
(some (.inr x3))
else
(bd (M_prefers G x4 a0 a1) fun r12 =>
bd (if r12 = 0 then
(some (0 : Int32))
else
(some (1 : Int32))) fun x16 =>
nm (x3 + x16 : Int32) fun x20 =>
nm (x4 + (1 : Int32) : Int32) fun x22 =>
some (.inl (x20, x22)))
def M_preferring (G : Nat → Nat → Int32) (a0 : Int32) (a1 : Int32) : Option (Int32) :=
bd (lp (fun q => M_preferring_s1 a0 a1 G q.1 q.2) FU ((0 : Int32), (0 : Int32))) fun x5 =>
some x5
set_option maxRecDepth 100000 in
set_option maxHeartbeats 4000000 in
theorem cM_preferring (G : Nat → Nat → Int32) (E : Nat → Nat → Int64) (Dd : Nat → Nat → UInt64) (a0 : Int32) (a1 : Int32) (rv : Int32)  (hf : M_preferring G a0 a1 = some rv) : sMi D (mT cI cJ cD) (mW ad cI cJ cD) l yX12_preferring (ws1 yX12_preferring cX12_preferring 5 (some .int)) ({ frames := 3, cells := 0, slots := 0, locals := 73 }) [.ref (ad 0), .int a0, .int a1] (G, E, Dd) (rv, (G, E, Dd)) := by
  unfold M_preferring at hf
  refine sMi_of (by decide) (Nat.le_of_ble_eq_true rfl) ?_
  intro p e R s m args below meth c A Q ls H lo F hRf hRl I hl ret
  obtain ⟨hx, hb, hml, hown, hG⟩ := id F
  replace hl : lv_has ls 5 [(0, .ref (ad 0)), (1, .int a0), (2, .int a1)] := hl
  refine lv_iconst (v := (0 : Int32)) hx hb dX12_preferring_0 (by decide) ?_
  refine lv_istore_n (lv' := [(3, .int (0 : Int32)), (0, .ref (ad 0)), (1, .int a0), (2, .int a1)]) hx hb dX12_preferring_1 rfl hl (by decide) rfl (fun ls_1 hl_1 => ?_)
  refine lv_iconst (v := (0 : Int32)) hx hb dX12_preferring_2 (by decide) ?_
  refine lv_istore (lv' := [(4, .int (0 : Int32)), (3, .int (0 : Int32)), (0, .ref (ad 0)), (1, .int a0), (2, .int a1)]) hx hb dX12_preferring_3 hl_1 (by decide) rfl (fun ls_2 hl_2 => ?_)
  obtain ⟨x5, hq1, hf⟩ := bd_some hf
  have K1 : ∀ (H : Heap) (locs : List Loc), sInv D (mT cI cJ cD) (mW ad cI cJ cD) A s H locs (G, E, Dd) → ∀ (ls : Array Slot), lv_has ls 5 [(3, .int x5)] → W p l e R s m args below meth c H locs 0 0 Q (F0 m 39 ls []) := by
    intro H_6 lo_6 I_6 ls_7 hl_7
    refine lv_iload_n hx hb dX12_preferring_39 rfl (lv_at hl_7 0 rfl) ?_
    cases hf
    exact ret H_6 lo_6 _ ls_7 I_6 dX12_preferring_40
  have L1 : ∀ (n : Nat) (x3 : Int32) (x4 : Int32), lp (fun q => M_preferring_s1 a0 a1 G q.1 q.2) n (x3, x4) = some x5 → ∀ (H : Heap) (locs : List Loc), sInv D (mT cI cJ cD) (mW ad cI cJ cD) A s H locs (G, E, Dd) → ∀ (ls : Array Slot), lv_has ls 5 [(0, .ref (ad 0)), (1, .int a0), (2, .int a1), (3, .int x3), (4, .int x4)] → W p l e R s m args below meth c H locs 0 0 Q (F0 m 5 ls []) := by
    intro n
    induction n with
    | zero => intro x3 x4 hq; exact (lp_0 hq).elim
    | succ n ih1 =>
      intro x3 x4 hq H_9 lo_9 I_9 ls_10 hl_10
      obtain ⟨y1, hf, hK1⟩ := lp_go hq
      replace hf : M_preferring_s1 a0 a1 G x3 x4 = some y1 := hf
      unfold M_preferring_s1 at hf
      refine lv_iload hx hb dX12_preferring_5 (lv_at hl_10 4 rfl) ?_
      refine lv_aload_n hx hb dX12_preferring_7 rfl (lv_at hl_10 0 rfl) ?_
      refine mgtX12_99_0 F I_9 dX12_preferring_8 ?_
      refine lv_icmp_ge (tgt := 39) hx hb dX12_preferring_11 (by decide) (fun c26 => ?_) (fun c26 => ?_)
      · replace hf := (if_pos c26).symm.trans hf
        cases hf
        cases (show x3 = x5 from hK1)
        exact K1 H_9 lo_9 I_9 ls_10 (lv_sub hl_10 [3] rfl)
      · replace hf := (if_neg c26).symm.trans hf
        refine lv_iload_n hx hb dX12_preferring_14 rfl (lv_at hl_10 3 rfl) ?_
        refine lv_aload_n hx hb dX12_preferring_15 rfl (lv_at hl_10 0 rfl) ?_
        refine lv_iload hx hb dX12_preferring_16 (lv_at hl_10 4 rfl) ?_
        refine lv_iload_n hx hb dX12_preferring_18 rfl (lv_at hl_10 1 rfl) ?_
        refine lv_iload_n hx hb dX12_preferring_19 rfl (lv_at hl_10 2 rfl) ?_
        obtain ⟨r12, h13, hf⟩ := bd_some hf
        refine s_callVi (As := [.int x4, .int a0, .int a1]) (rest := [.int x3]) F I_9 (cM_prefers G E Dd x4 a0 a1 r12 h13) kX12_224 ⟨rfl, rfl⟩ ⟨Nat.le_trans (Nat.le_of_ble_eq_true rfl) hRf, Nat.le_trans (Nat.le_of_ble_eq_true rfl) hRl⟩ (0) 12 rfl rfl rfl rfl rfl hl_10.1 (Nat.le_of_ble_eq_true rfl) ⟨Nat.zero_le _, Nat.zero_le _⟩ dX12_preferring_20 ?_
        intro H_14 lo_14 I_14
        obtain ⟨x16, hv24, hf⟩ := bd_some hf
        have J15 : ∀ (H : Heap) (locs : List Loc), sInv D (mT cI cJ cD) (mW ad cI cJ cD) A s H locs (G, E, Dd) → ∀ (ls : Array Slot), lv_has ls 5 [(0, .ref (ad 0)), (1, .int a0), (2, .int a1), (4, .int x4)] → W p l e R s m args below meth c H locs 0 0 Q (F0 m 31 ls [.int x16, .int x3]) := by
          intro H_17 lo_17 I_17 ls_18 hl_18
          refine lv_iadd hx hb dX12_preferring_31 ?_
          refine lv_topi (fun x20 ex20 => ?_)
          replace hf := nm_some ex20 hf
          refine lv_istore_n (lv' := [(3, .int x20), (0, .ref (ad 0)), (1, .int a0), (2, .int a1), (4, .int x4)]) hx hb dX12_preferring_32 rfl hl_18 (by decide) rfl (fun ls_21 hl_21 => ?_)
          obtain ⟨x22, ex22⟩ : ∃ y : Int32, y = x4 + (1 : Int32) := ⟨_, rfl⟩
          replace hf := nm_some ex22 hf
          refine lv_iinc (v := x22) (lv' := [(4, .int x22), (3, .int x20), (0, .ref (ad 0)), (1, .int a0), (2, .int a1)]) hx hb dX12_preferring_33 hl_21 (k := 4) rfl (by rw [ex22]; rfl) (by decide) rfl (fun ls_23 hl_23 => ?_)
          refine lv_goto (tgt := 5) hx hb dX12_preferring_36 (by decide) ?_
          cases hf
          exact ih1 _ _ hK1 H_17 lo_17 I_17 ls_23 (lv_sub hl_23 [2, 3, 4, 1, 0] rfl)
        replace hf := hv24
        refine lv_if_eq (tgt := 30) hx hb dX12_preferring_23 (by decide) (fun c25 => ?_) (fun c25 => ?_)
        · replace hf := (if_pos c25).symm.trans hf
          refine lv_iconst (v := (0 : Int32)) hx hb dX12_preferring_30 (by decide) ?_
          cases hf
          exact J15 H_14 lo_14 I_14 ls_10 (lv_sub hl_10 [0, 1, 2, 4] rfl)
        · replace hf := (if_neg c25).symm.trans hf
          refine lv_iconst (v := (1 : Int32)) hx hb dX12_preferring_26 (by decide) ?_
          refine lv_goto (tgt := 31) hx hb dX12_preferring_27 (by decide) ?_
          cases hf
          exact J15 H_14 lo_14 I_14 ls_10 (lv_sub hl_10 [0, 1, 2, 4] rfl)
  exact L1 FU _ _ hq1 H lo I ls_2 (lv_sub hl_2 [2, 3, 4, 1, 0] rfl)
def M_resultNow (G : Nat → Nat → Int32) (a0 : Int32) (a1 : Int32) (a2 : Int32) : Option (Int32) :=
if a0 = a1 then
(some (0 : Int32))
else
(if a2 = 0 then
(bd (M_wins G a0 a1) fun r12 =>
some r12)
else
(if a2 = (1 : Int32) then
(bd (M_tiesOf G a0 a1) fun r8 =>
some r8)
else
(if a2 = (2 : Int32) then
(bd (M_margin G a0 a1) fun r4 =>
some r4)
else
(bd (M_preferring G a0 a1) fun r1 =>
some r1))))
set_option maxRecDepth 100000 in
set_option maxHeartbeats 4000000 in
theorem cM_resultNow (G : Nat → Nat → Int32) (E : Nat → Nat → Int64) (Dd : Nat → Nat → UInt64) (a0 : Int32) (a1 : Int32) (a2 : Int32) (rv : Int32)  (hf : M_resultNow G a0 a1 a2 = some rv) : sMi D (mT cI cJ cD) (mW ad cI cJ cD) l yX12_resultNow (ws1 yX12_resultNow cX12_resultNow 4 (some .int)) ({ frames := 4, cells := 0, slots := 0, locals := 97 }) [.ref (ad 0), .int a0, .int a1, .int a2] (G, E, Dd) (rv, (G, E, Dd)) := by
  unfold M_resultNow at hf
  refine sMi_of (by decide) (Nat.le_of_ble_eq_true rfl) ?_
  intro p e R s m args below meth c A Q ls H lo F hRf hRl I hl ret
  obtain ⟨hx, hb, hml, hown, hG⟩ := id F
  replace hl : lv_has ls 4 [(0, .ref (ad 0)), (1, .int a0), (2, .int a1), (3, .int a2)] := hl
  refine lv_iload_n hx hb dX12_resultNow_0 rfl (lv_at hl 1 rfl) ?_
  refine lv_iload_n hx hb dX12_resultNow_1 rfl (lv_at hl 2 rfl) ?_
  refine lv_icmp_ne (tgt := 7) hx hb dX12_resultNow_2 (by decide) (fun c16 => ?_) (fun c16 => ?_)
  · replace hf := (if_neg c16).symm.trans hf
    refine lv_iload_n hx hb dX12_resultNow_7 rfl (lv_at hl 3 rfl) ?_
    refine lv_if_ne (tgt := 20) hx hb dX12_resultNow_8 (by decide) (fun c15 => ?_) (fun c15 => ?_)
    · replace hf := (if_neg c15).symm.trans hf
      refine lv_iload_n hx hb dX12_resultNow_20 rfl (lv_at hl 3 rfl) ?_
      refine lv_iconst (v := (1 : Int32)) hx hb dX12_resultNow_21 (by decide) ?_
      refine lv_icmp_ne (tgt := 34) hx hb dX12_resultNow_22 (by decide) (fun c11 => ?_) (fun c11 => ?_)
      · replace hf := (if_neg c11).symm.trans hf
        refine lv_iload_n hx hb dX12_resultNow_34 rfl (lv_at hl 3 rfl) ?_
        refine lv_iconst (v := (2 : Int32)) hx hb dX12_resultNow_35 (by decide) ?_
        refine lv_icmp_ne (tgt := 48) hx hb dX12_resultNow_36 (by decide) (fun c7 => ?_) (fun c7 => ?_)
        · replace hf := (if_neg c7).symm.trans hf
          refine lv_aload_n hx hb dX12_resultNow_48 rfl (lv_at hl 0 rfl) ?_
          refine lv_iload_n hx hb dX12_resultNow_49 rfl (lv_at hl 1 rfl) ?_
          refine lv_iload_n hx hb dX12_resultNow_50 rfl (lv_at hl 2 rfl) ?_
          obtain ⟨r1, h2, hf⟩ := bd_some hf
          refine s_callVi (As := [.int a0, .int a1]) (rest := []) F I (cM_preferring G E Dd a0 a1 r1 h2) kX12_236 ⟨rfl, rfl⟩ ⟨Nat.le_trans (Nat.le_of_ble_eq_true rfl) hRf, Nat.le_trans (Nat.le_of_ble_eq_true rfl) hRl⟩ (0) 12 rfl rfl rfl rfl rfl hl.1 (Nat.le_of_ble_eq_true rfl) ⟨Nat.zero_le _, Nat.zero_le _⟩ dX12_resultNow_51 ?_
          intro H_3 lo_3 I_3
          cases hf
          exact ret H_3 lo_3 _ ls I_3 dX12_resultNow_54
        · replace hf := (if_pos c7).symm.trans hf
          refine lv_aload_n hx hb dX12_resultNow_39 rfl (lv_at hl 0 rfl) ?_
          refine lv_iload_n hx hb dX12_resultNow_40 rfl (lv_at hl 1 rfl) ?_
          refine lv_iload_n hx hb dX12_resultNow_41 rfl (lv_at hl 2 rfl) ?_
          obtain ⟨r4, h5, hf⟩ := bd_some hf
          refine s_callVi (As := [.int a0, .int a1]) (rest := []) F I (cM_margin G E Dd a0 a1 r4 h5) kX12_233 ⟨rfl, rfl⟩ ⟨Nat.le_trans (Nat.le_of_ble_eq_true rfl) hRf, Nat.le_trans (Nat.le_of_ble_eq_true rfl) hRl⟩ (0) 12 rfl rfl rfl rfl rfl hl.1 (Nat.le_of_ble_eq_true rfl) ⟨Nat.zero_le _, Nat.zero_le _⟩ dX12_resultNow_42 ?_
          intro H_6 lo_6 I_6
          refine lv_goto (tgt := 54) hx hb dX12_resultNow_45 (by decide) ?_
          cases hf
          exact ret H_6 lo_6 _ ls I_6 dX12_resultNow_54
      · replace hf := (if_pos c11).symm.trans hf
        refine lv_aload_n hx hb dX12_resultNow_25 rfl (lv_at hl 0 rfl) ?_
        refine lv_iload_n hx hb dX12_resultNow_26 rfl (lv_at hl 1 rfl) ?_
        refine lv_iload_n hx hb dX12_resultNow_27 rfl (lv_at hl 2 rfl) ?_
        obtain ⟨r8, h9, hf⟩ := bd_some hf
        refine s_callVi (As := [.int a0, .int a1]) (rest := []) F I (cM_tiesOf G E Dd a0 a1 r8 h9) kX12_230 ⟨rfl, rfl⟩ ⟨Nat.le_trans (Nat.le_of_ble_eq_true rfl) hRf, Nat.le_trans (Nat.le_of_ble_eq_true rfl) hRl⟩ (0) 12 rfl rfl rfl rfl rfl hl.1 (Nat.le_of_ble_eq_true rfl) ⟨Nat.zero_le _, Nat.zero_le _⟩ dX12_resultNow_28 ?_
        intro H_10 lo_10 I_10
        refine lv_goto (tgt := 54) hx hb dX12_resultNow_31 (by decide) ?_
        cases hf
        exact ret H_10 lo_10 _ ls I_10 dX12_resultNow_54
    · replace hf := (if_pos c15).symm.trans hf
      refine lv_aload_n hx hb dX12_resultNow_11 rfl (lv_at hl 0 rfl) ?_
      refine lv_iload_n hx hb dX12_resultNow_12 rfl (lv_at hl 1 rfl) ?_
      refine lv_iload_n hx hb dX12_resultNow_13 rfl (lv_at hl 2 rfl) ?_
      obtain ⟨r12, h13, hf⟩ := bd_some hf
      refine s_callVi (As := [.int a0, .int a1]) (rest := []) F I (cM_wins G E Dd a0 a1 r12 h13) kX12_227 ⟨rfl, rfl⟩ ⟨Nat.le_trans (Nat.le_of_ble_eq_true rfl) hRf, Nat.le_trans (Nat.le_of_ble_eq_true rfl) hRl⟩ (0) 12 rfl rfl rfl rfl rfl hl.1 (Nat.le_of_ble_eq_true rfl) ⟨Nat.zero_le _, Nat.zero_le _⟩ dX12_resultNow_14 ?_
      intro H_14 lo_14 I_14
      refine lv_goto (tgt := 54) hx hb dX12_resultNow_17 (by decide) ?_
      cases hf
      exact ret H_14 lo_14 _ ls I_14 dX12_resultNow_54
  · replace hf := (if_pos c16).symm.trans hf
    refine lv_iconst (v := (0 : Int32)) hx hb dX12_resultNow_5 (by decide) ?_
    cases hf
    exact ret H lo _ ls I dX12_resultNow_6
def M_result (G : Nat → Nat → Int32) (a0 : Int32) (a1 : Int32) (a2 : Int32) : Option (Int32 × (Nat → Nat → Int32)) :=
bd (M_isSample G a0) fun r1 =>
bd (if r1 = 0 then
(some (1 : Int32))
else
(bd (M_isSample G a1) fun r16 =>
if r16 = 0 then
(some (1 : Int32))
else
(bd (M_within a2 (0 : Int32) (3 : Int32)) fun r19 =>
if r19 = 0 then
(some (2 : Int32))
else
(some (0 : Int32))))) fun x5 =>
nm (wf G 0 x5) fun G9 =>
if G9 0 0 ≤ 0 then
(bd (M_resultNow G9 a0 a1 a2) fun r11 =>
some (r11, G9))
else
(some ((0 : Int32), G9))
set_option maxRecDepth 100000 in
set_option maxHeartbeats 4000000 in
theorem cM_result (G : Nat → Nat → Int32) (E : Nat → Nat → Int64) (Dd : Nat → Nat → UInt64) (a0 : Int32) (a1 : Int32) (a2 : Int32) (rv : Int32) (newG : Nat → Nat → Int32) (hf : M_result G a0 a1 a2 = some (rv, newG)) : sMi D (mT cI cJ cD) (mW ad cI cJ cD) l yX12_result (ws1 yX12_result cX12_result 4 (some .int)) ({ frames := 5, cells := 0, slots := 0, locals := 120 }) [.ref (ad 0), .int a0, .int a1, .int a2] (G, E, Dd) (rv, (newG, E, Dd)) := by
  unfold M_result at hf
  refine sMi_of (by decide) (Nat.le_of_ble_eq_true rfl) ?_
  intro p e R s m args below meth c A Q ls H lo F hRf hRl I hl ret
  obtain ⟨hx, hb, hml, hown, hG⟩ := id F
  replace hl : lv_has ls 4 [(0, .ref (ad 0)), (1, .int a0), (2, .int a1), (3, .int a2)] := hl
  refine lv_aload_n hx hb dX12_result_0 rfl (lv_at hl 0 rfl) ?_
  refine lv_aload_n hx hb dX12_result_1 rfl (lv_at hl 0 rfl) ?_
  refine lv_iload_n hx hb dX12_result_2 rfl (lv_at hl 1 rfl) ?_
  obtain ⟨r1, h2, hf⟩ := bd_some hf
  refine s_callVi (As := [.int a0]) (rest := [.ref (ad 0)]) F I (cM_isSample G E Dd a0 r1 h2) kX12_151 ⟨rfl, rfl⟩ ⟨Nat.le_trans (Nat.le_of_ble_eq_true rfl) hRf, Nat.le_trans (Nat.le_of_ble_eq_true rfl) hRl⟩ (0) 12 rfl rfl rfl rfl rfl hl.1 (Nat.le_of_ble_eq_true rfl) ⟨Nat.zero_le _, Nat.zero_le _⟩ dX12_result_3 ?_
  intro H_3 lo_3 I_3
  obtain ⟨x5, hv15, hf⟩ := bd_some hf
  have J4 : ∀ (H : Heap) (locs : List Loc), sInv D (mT cI cJ cD) (mW ad cI cJ cD) A s H locs (G, E, Dd) → ∀ (ls : Array Slot), lv_has ls 4 [(0, .ref (ad 0)), (1, .int a0), (2, .int a1), (3, .int a2)] → W p l e R s m args below meth c H locs 0 0 Q (F0 m 35 ls [.int x5, .ref (ad 0)]) := by
    intro H_6 lo_6 I_6 ls_7 hl_7
    refine mptX12_89_0 F I_6 dX12_result_35 ?_
    intro H_10 lo_10 G9 eG9 I_10
    replace hf := nm_some eG9 hf
    refine lv_aload_n hx hb dX12_result_38 rfl (lv_at hl_7 0 rfl) ?_
    refine mgtX12_89_0 F I_10 dX12_result_39 ?_
    refine lv_if_le (tgt := 49) hx hb dX12_result_42 (by decide) (fun c14 => ?_) (fun c14 => ?_)
    · replace hf := (if_pos c14).symm.trans hf
      refine lv_aload_n hx hb dX12_result_49 rfl (lv_at hl_7 0 rfl) ?_
      refine lv_iload_n hx hb dX12_result_50 rfl (lv_at hl_7 1 rfl) ?_
      refine lv_iload_n hx hb dX12_result_51 rfl (lv_at hl_7 2 rfl) ?_
      refine lv_iload_n hx hb dX12_result_52 rfl (lv_at hl_7 3 rfl) ?_
      obtain ⟨r11, h12, hf⟩ := bd_some hf
      refine s_callVi (As := [.int a0, .int a1, .int a2]) (rest := []) F I_10 (cM_resultNow G9 E Dd a0 a1 a2 r11 h12) kX12_239 ⟨rfl, rfl⟩ ⟨Nat.le_trans (Nat.le_of_ble_eq_true rfl) hRf, Nat.le_trans (Nat.le_of_ble_eq_true rfl) hRl⟩ (0) 12 rfl rfl rfl rfl rfl hl_7.1 (Nat.le_of_ble_eq_true rfl) ⟨Nat.zero_le _, Nat.zero_le _⟩ dX12_result_53 ?_
      intro H_13 lo_13 I_13
      cases hf
      exact ret H_13 lo_13 _ ls_7 I_13 dX12_result_56
    · replace hf := (if_neg c14).symm.trans hf
      refine lv_iconst (v := (0 : Int32)) hx hb dX12_result_45 (by decide) ?_
      refine lv_goto (tgt := 56) hx hb dX12_result_46 (by decide) ?_
      cases hf
      exact ret H_10 lo_10 _ ls_7 I_10 dX12_result_56
  replace hf := hv15
  refine lv_if_eq (tgt := 17) hx hb dX12_result_6 (by decide) (fun c24 => ?_) (fun c24 => ?_)
  · replace hf := (if_pos c24).symm.trans hf
    refine lv_iconst (v := (1 : Int32)) hx hb dX12_result_17 (by decide) ?_
    refine lv_goto (tgt := 35) hx hb dX12_result_18 (by decide) ?_
    cases hf
    exact J4 H_3 lo_3 I_3 ls (lv_sub hl [0, 1, 2, 3] rfl)
  · replace hf := (if_neg c24).symm.trans hf
    refine lv_aload_n hx hb dX12_result_9 rfl (lv_at hl 0 rfl) ?_
    refine lv_iload_n hx hb dX12_result_10 rfl (lv_at hl 2 rfl) ?_
    obtain ⟨r16, h17, hf⟩ := bd_some hf
    refine s_callVi (As := [.int a1]) (rest := [.ref (ad 0)]) F I_3 (cM_isSample G E Dd a1 r16 h17) kX12_151 ⟨rfl, rfl⟩ ⟨Nat.le_trans (Nat.le_of_ble_eq_true rfl) hRf, Nat.le_trans (Nat.le_of_ble_eq_true rfl) hRl⟩ (0) 12 rfl rfl rfl rfl rfl hl.1 (Nat.le_of_ble_eq_true rfl) ⟨Nat.zero_le _, Nat.zero_le _⟩ dX12_result_11 ?_
    intro H_18 lo_18 I_18
    refine lv_if_ne (tgt := 21) hx hb dX12_result_14 (by decide) (fun c23 => ?_) (fun c23 => ?_)
    · replace hf := (if_neg c23).symm.trans hf
      refine lv_iload_n hx hb dX12_result_21 rfl (lv_at hl 3 rfl) ?_
      refine lv_iconst (v := (0 : Int32)) hx hb dX12_result_22 (by decide) ?_
      refine lv_iconst (v := (3 : Int32)) hx hb dX12_result_23 (by decide) ?_
      obtain ⟨r19, h20, hf⟩ := bd_some hf
      refine s_callSi (As := [.int a2, .int (0 : Int32), .int (3 : Int32)]) (rest := [.ref (ad 0)]) F I_18 (cM_within G E Dd a2 (0 : Int32) (3 : Int32) r19 h20) kX12_95 ⟨rfl, rfl⟩ ⟨Nat.le_trans (Nat.le_of_ble_eq_true rfl) hRf, Nat.le_trans (Nat.le_of_ble_eq_true rfl) hRl⟩ rfl rfl hl.1 (Nat.le_of_ble_eq_true rfl) ⟨Nat.zero_le _, Nat.zero_le _⟩ dX12_result_24 ?_
      intro H_21 lo_21 I_21
      refine lv_if_eq (tgt := 34) hx hb dX12_result_27 (by decide) (fun c22 => ?_) (fun c22 => ?_)
      · replace hf := (if_pos c22).symm.trans hf
        refine lv_iconst (v := (2 : Int32)) hx hb dX12_result_34 (by decide) ?_
        cases hf
        exact J4 H_21 lo_21 I_21 ls (lv_sub hl [0, 1, 2, 3] rfl)
      · replace hf := (if_neg c22).symm.trans hf
        refine lv_iconst (v := (0 : Int32)) hx hb dX12_result_30 (by decide) ?_
        refine lv_goto (tgt := 35) hx hb dX12_result_31 (by decide) ?_
        cases hf
        exact J4 H_21 lo_21 I_21 ls (lv_sub hl [0, 1, 2, 3] rfl)
    · replace hf := (if_pos c23).symm.trans hf
      refine lv_iconst (v := (1 : Int32)) hx hb dX12_result_17 (by decide) ?_
      refine lv_goto (tgt := 35) hx hb dX12_result_18 (by decide) ?_
      cases hf
      exact J4 H_18 lo_18 I_18 ls (lv_sub hl [0, 1, 2, 3] rfl)
def M_pointsWithout_s1 (a0 : Int32) (a1 : Int32) (G : Nat → Nat → Int32) (x3 : Int32) (x4 : Int32) : Option ((Int32 × Int32) ⊕ (Int32)) :=
if G 4 0 ≤ x4 then
(some (.inr x3))
else
(bd (if x4 = a1 then
(some (0 : Int32))
else
(ri 48 x4 <|
if G 6 x4.toNatClampNeg = a0 then
(some (1 : Int32))
else
(ri 48 x4 <|
if G 7 x4.toNatClampNeg = a0 then
(some (1 : Int32))
else
(some (0 : Int32))))) fun x13 =>
ri 48 x4 <|
bd (if G 8 x4.toNatClampNeg = 0 then
(some (1 : Int32))
else
(bd (M_wonBy G x4) fun r39 =>
if r39 = a0 then
(some (2 : Int32))
else
(some (0 : Int32)))) fun x20 =>
bd (if x13 = 0 then
(some (0 : Int32))
else
(ri 48 x4 <|
ri 8 (G 5 x4.toNatClampNeg) <|
some (x20 * (G 3 (G 5 x4.toNatClampNeg).toNatClampNeg)))) fun x26 =>
nm (x3 + x26 : Int32) fun x30 =>
nm (x4 + (1 : Int32) : Int32) fun x32 =>
some (.inl (x30, x32)))
def M_pointsWithout (G : Nat → Nat → Int32) (a0 : Int32) (a1 : Int32) : Option (Int32) :=
bd (lp (fun q => M_pointsWithout_s1 a0 a1 G q.1 q.2) FU ((0 : Int32), (0 : Int32))) fun x5 =>
some x5
set_option maxRecDepth 100000 in
set_option maxHeartbeats 4000000 in
theorem cM_pointsWithout (G : Nat → Nat → Int32) (E : Nat → Nat → Int64) (Dd : Nat → Nat → UInt64) (a0 : Int32) (a1 : Int32) (rv : Int32)  (hf : M_pointsWithout G a0 a1 = some rv) : sMi D (mT cI cJ cD) (mW ad cI cJ cD) l yX12_pointsWithout (ws1 yX12_pointsWithout cX12_pointsWithout 7 (some .int)) ({ frames := 1, cells := 0, slots := 0, locals := 21 }) [.ref (ad 0), .int a0, .int a1] (G, E, Dd) (rv, (G, E, Dd)) := by
  unfold M_pointsWithout at hf
  refine sMi_of (by decide) (Nat.le_of_ble_eq_true rfl) ?_
  intro p e R s m args below meth c A Q ls H lo F hRf hRl I hl ret
  obtain ⟨hx, hb, hml, hown, hG⟩ := id F
  replace hl : lv_has ls 7 [(0, .ref (ad 0)), (1, .int a0), (2, .int a1)] := hl
  refine lv_iconst (v := (0 : Int32)) hx hb dX12_pointsWithout_0 (by decide) ?_
  refine lv_istore_n (lv' := [(3, .int (0 : Int32)), (0, .ref (ad 0)), (1, .int a0), (2, .int a1)]) hx hb dX12_pointsWithout_1 rfl hl (by decide) rfl (fun ls_1 hl_1 => ?_)
  refine lv_iconst (v := (0 : Int32)) hx hb dX12_pointsWithout_2 (by decide) ?_
  refine lv_istore (lv' := [(4, .int (0 : Int32)), (3, .int (0 : Int32)), (0, .ref (ad 0)), (1, .int a0), (2, .int a1)]) hx hb dX12_pointsWithout_3 hl_1 (by decide) rfl (fun ls_2 hl_2 => ?_)
  obtain ⟨x5, hq1, hf⟩ := bd_some hf
  have K1 : ∀ (H : Heap) (locs : List Loc), sInv D (mT cI cJ cD) (mW ad cI cJ cD) A s H locs (G, E, Dd) → ∀ (ls : Array Slot), lv_has ls 7 [(3, .int x5)] → W p l e R s m args below meth c H locs 0 0 Q (F0 m 113 ls []) := by
    intro H_6 lo_6 I_6 ls_7 hl_7
    refine lv_iload_n hx hb dX12_pointsWithout_113 rfl (lv_at hl_7 0 rfl) ?_
    cases hf
    exact ret H_6 lo_6 _ ls_7 I_6 dX12_pointsWithout_114
  have L1 : ∀ (n : Nat) (x3 : Int32) (x4 : Int32), lp (fun q => M_pointsWithout_s1 a0 a1 G q.1 q.2) n (x3, x4) = some x5 → ∀ (H : Heap) (locs : List Loc), sInv D (mT cI cJ cD) (mW ad cI cJ cD) A s H locs (G, E, Dd) → ∀ (ls : Array Slot), lv_has ls 7 [(0, .ref (ad 0)), (1, .int a0), (2, .int a1), (3, .int x3), (4, .int x4)] → W p l e R s m args below meth c H locs 0 0 Q (F0 m 5 ls []) := by
    intro n
    induction n with
    | zero => intro x3 x4 hq; exact (lp_0 hq).elim
    | succ n ih1 =>
      intro x3 x4 hq H_9 lo_9 I_9 ls_10 hl_10
      obtain ⟨y1, hf, hK1⟩ := lp_go hq
      replace hf : M_pointsWithout_s1 a0 a1 G x3 x4 = some y1 := hf
      unfold M_pointsWithout_s1 at hf
      refine lv_iload hx hb dX12_pointsWithout_5 (lv_at hl_10 4 rfl) ?_
      refine lv_aload_n hx hb dX12_pointsWithout_7 rfl (lv_at hl_10 0 rfl) ?_
      refine mgtX12_102_0 F I_9 dX12_pointsWithout_8 ?_
      refine lv_icmp_ge (tgt := 113) hx hb dX12_pointsWithout_11 (by decide) (fun c50 => ?_) (fun c50 => ?_)
      · replace hf := (if_pos c50).symm.trans hf
        cases hf
        cases (show x3 = x5 from hK1)
        exact K1 H_9 lo_9 I_9 ls_10 (lv_sub hl_10 [3] rfl)
      · replace hf := (if_neg c50).symm.trans hf
        refine lv_iload hx hb dX12_pointsWithout_14 (lv_at hl_10 4 rfl) ?_
        refine lv_iload_n hx hb dX12_pointsWithout_16 rfl (lv_at hl_10 2 rfl) ?_
        obtain ⟨x13, hv44, hf⟩ := bd_some hf
        have J12 : ∀ (H : Heap) (locs : List Loc), sInv D (mT cI cJ cD) (mW ad cI cJ cD) A s H locs (G, E, Dd) → ∀ (ls : Array Slot), lv_has ls 7 [(0, .ref (ad 0)), (1, .int a0), (2, .int a1), (3, .int x3), (4, .int x4)] → W p l e R s m args below meth c H locs 0 0 Q (F0 m 47 ls [.int x13]) := by
          intro H_14 lo_14 I_14 ls_15 hl_15
          refine lv_istore (lv' := [(5, .int x13), (0, .ref (ad 0)), (1, .int a0), (2, .int a1), (3, .int x3), (4, .int x4)]) hx hb dX12_pointsWithout_47 hl_15 (by decide) rfl (fun ls_17 hl_17 => ?_)
          refine lv_aload_n hx hb dX12_pointsWithout_49 rfl (lv_at hl_17 1 rfl) ?_
          refine mgtX12_22_0 F I_14 dX12_pointsWithout_50 ?_
          refine lv_iload hx hb dX12_pointsWithout_53 (lv_at hl_17 5 rfl) ?_
          obtain ⟨g18, hf⟩ := ri_some hf
          refine mal5 F I_14 g18 dX12_pointsWithout_55 ?_
          obtain ⟨x20, hv38, hf⟩ := bd_some hf
          have J19 : ∀ (H : Heap) (locs : List Loc), sInv D (mT cI cJ cD) (mW ad cI cJ cD) A s H locs (G, E, Dd) → ∀ (ls : Array Slot), lv_has ls 7 [(0, .ref (ad 0)), (1, .int a0), (2, .int a1), (3, .int x3), (4, .int x4), (5, .int x13)] → W p l e R s m args below meth c H locs 0 0 Q (F0 m 78 ls [.int x20]) := by
            intro H_21 lo_21 I_21 ls_22 hl_22
            refine lv_istore (lv' := [(6, .int x20), (0, .ref (ad 0)), (1, .int a0), (2, .int a1), (3, .int x3), (4, .int x4), (5, .int x13)]) hx hb dX12_pointsWithout_78 hl_22 (by decide) rfl (fun ls_24 hl_24 => ?_)
            refine lv_iload_n hx hb dX12_pointsWithout_80 rfl (lv_at hl_24 4 rfl) ?_
            refine lv_iload hx hb dX12_pointsWithout_81 (lv_at hl_24 6 rfl) ?_
            obtain ⟨x26, hv34, hf⟩ := bd_some hf
            have J25 : ∀ (H : Heap) (locs : List Loc), sInv D (mT cI cJ cD) (mW ad cI cJ cD) A s H locs (G, E, Dd) → ∀ (ls : Array Slot), lv_has ls 7 [(0, .ref (ad 0)), (1, .int a0), (2, .int a1), (4, .int x4)] → W p l e R s m args below meth c H locs 0 0 Q (F0 m 105 ls [.int x26, .int x3]) := by
              intro H_27 lo_27 I_27 ls_28 hl_28
              refine lv_iadd hx hb dX12_pointsWithout_105 ?_
              refine lv_topi (fun x30 ex30 => ?_)
              replace hf := nm_some ex30 hf
              refine lv_istore_n (lv' := [(3, .int x30), (0, .ref (ad 0)), (1, .int a0), (2, .int a1), (4, .int x4)]) hx hb dX12_pointsWithout_106 rfl hl_28 (by decide) rfl (fun ls_31 hl_31 => ?_)
              obtain ⟨x32, ex32⟩ : ∃ y : Int32, y = x4 + (1 : Int32) := ⟨_, rfl⟩
              replace hf := nm_some ex32 hf
              refine lv_iinc (v := x32) (lv' := [(4, .int x32), (3, .int x30), (0, .ref (ad 0)), (1, .int a0), (2, .int a1)]) hx hb dX12_pointsWithout_107 hl_31 (k := 4) rfl (by rw [ex32]; rfl) (by decide) rfl (fun ls_33 hl_33 => ?_)
              refine lv_goto (tgt := 5) hx hb dX12_pointsWithout_110 (by decide) ?_
              cases hf
              exact ih1 _ _ hK1 H_27 lo_27 I_27 ls_33 (lv_sub hl_33 [2, 3, 4, 1, 0] rfl)
            replace hf := hv34
            refine lv_if_eq (tgt := 104) hx hb dX12_pointsWithout_83 (by decide) (fun c37 => ?_) (fun c37 => ?_)
            · replace hf := (if_pos c37).symm.trans hf
              refine lv_iconst (v := (0 : Int32)) hx hb dX12_pointsWithout_104 (by decide) ?_
              cases hf
              exact J25 H_21 lo_21 I_21 ls_24 (lv_sub hl_24 [1, 2, 3, 5] rfl)
            · replace hf := (if_neg c37).symm.trans hf
              refine lv_iload hx hb dX12_pointsWithout_86 (lv_at hl_24 0 rfl) ?_
              refine lv_aload_n hx hb dX12_pointsWithout_88 rfl (lv_at hl_24 1 rfl) ?_
              refine mgtX12_7_0 F I_21 dX12_pointsWithout_89 ?_
              refine lv_aload_n hx hb dX12_pointsWithout_92 rfl (lv_at hl_24 1 rfl) ?_
              refine mgtX12_13_0 F I_21 dX12_pointsWithout_93 ?_
              refine lv_iload hx hb dX12_pointsWithout_96 (lv_at hl_24 5 rfl) ?_
              obtain ⟨g35, hf⟩ := ri_some hf
              refine mal2 F I_21 g35 dX12_pointsWithout_98 ?_
              obtain ⟨g36, hf⟩ := ri_some hf
              refine mal1 F I_21 g36 dX12_pointsWithout_99 ?_
              refine lv_imul hx hb dX12_pointsWithout_100 ?_
              refine lv_goto (tgt := 105) hx hb dX12_pointsWithout_101 (by decide) ?_
              cases hf
              exact J25 H_21 lo_21 I_21 ls_24 (lv_sub hl_24 [1, 2, 3, 5] rfl)
          replace hf := hv38
          refine lv_if_ne (tgt := 63) hx hb dX12_pointsWithout_56 (by decide) (fun c43 => ?_) (fun c43 => ?_)
          · replace hf := (if_neg c43).symm.trans hf
            refine lv_aload_n hx hb dX12_pointsWithout_63 rfl (lv_at hl_17 1 rfl) ?_
            refine lv_iload hx hb dX12_pointsWithout_64 (lv_at hl_17 5 rfl) ?_
            obtain ⟨r39, h40, hf⟩ := bd_some hf
            refine s_callVi (As := [.int x4]) (rest := []) F I_14 (cM_wonBy G E Dd x4 r39 h40) kX12_217 ⟨rfl, rfl⟩ ⟨Nat.le_trans (Nat.le_of_ble_eq_true rfl) hRf, Nat.le_trans (Nat.le_of_ble_eq_true rfl) hRl⟩ (0) 12 rfl rfl rfl rfl rfl hl_17.1 (Nat.le_of_ble_eq_true rfl) ⟨Nat.zero_le _, Nat.zero_le _⟩ dX12_pointsWithout_66 ?_
            intro H_41 lo_41 I_41
            refine lv_iload_n hx hb dX12_pointsWithout_69 rfl (lv_at hl_17 2 rfl) ?_
            refine lv_icmp_ne (tgt := 77) hx hb dX12_pointsWithout_70 (by decide) (fun c42 => ?_) (fun c42 => ?_)
            · replace hf := (if_neg c42).symm.trans hf
              refine lv_iconst (v := (0 : Int32)) hx hb dX12_pointsWithout_77 (by decide) ?_
              cases hf
              exact J19 H_41 lo_41 I_41 ls_17 (lv_sub hl_17 [1, 2, 3, 4, 5, 0] rfl)
            · replace hf := (if_pos c42).symm.trans hf
              refine lv_iconst (v := (2 : Int32)) hx hb dX12_pointsWithout_73 (by decide) ?_
              refine lv_goto (tgt := 78) hx hb dX12_pointsWithout_74 (by decide) ?_
              cases hf
              exact J19 H_41 lo_41 I_41 ls_17 (lv_sub hl_17 [1, 2, 3, 4, 5, 0] rfl)
          · replace hf := (if_pos c43).symm.trans hf
            refine lv_iconst (v := (1 : Int32)) hx hb dX12_pointsWithout_59 (by decide) ?_
            refine lv_goto (tgt := 78) hx hb dX12_pointsWithout_60 (by decide) ?_
            cases hf
            exact J19 H_14 lo_14 I_14 ls_17 (lv_sub hl_17 [1, 2, 3, 4, 5, 0] rfl)
        replace hf := hv44
        refine lv_icmp_eq (tgt := 46) hx hb dX12_pointsWithout_17 (by decide) (fun c49 => ?_) (fun c49 => ?_)
        · replace hf := (if_pos c49).symm.trans hf
          refine lv_iconst (v := (0 : Int32)) hx hb dX12_pointsWithout_46 (by decide) ?_
          cases hf
          exact J12 H_9 lo_9 I_9 ls_10 (lv_sub hl_10 [0, 1, 2, 3, 4] rfl)
        · replace hf := (if_neg c49).symm.trans hf
          refine lv_aload_n hx hb dX12_pointsWithout_20 rfl (lv_at hl_10 0 rfl) ?_
          refine mgtX12_16_0 F I_9 dX12_pointsWithout_21 ?_
          refine lv_iload hx hb dX12_pointsWithout_24 (lv_at hl_10 4 rfl) ?_
          obtain ⟨g45, hf⟩ := ri_some hf
          refine mal3 F I_9 g45 dX12_pointsWithout_26 ?_
          refine lv_iload_n hx hb dX12_pointsWithout_27 rfl (lv_at hl_10 1 rfl) ?_
          refine lv_icmp_eq (tgt := 42) hx hb dX12_pointsWithout_28 (by decide) (fun c48 => ?_) (fun c48 => ?_)
          · replace hf := (if_pos c48).symm.trans hf
            refine lv_iconst (v := (1 : Int32)) hx hb dX12_pointsWithout_42 (by decide) ?_
            refine lv_goto (tgt := 47) hx hb dX12_pointsWithout_43 (by decide) ?_
            cases hf
            exact J12 H_9 lo_9 I_9 ls_10 (lv_sub hl_10 [0, 1, 2, 3, 4] rfl)
          · replace hf := (if_neg c48).symm.trans hf
            refine lv_aload_n hx hb dX12_pointsWithout_31 rfl (lv_at hl_10 0 rfl) ?_
            refine mgtX12_19_0 F I_9 dX12_pointsWithout_32 ?_
            refine lv_iload hx hb dX12_pointsWithout_35 (lv_at hl_10 4 rfl) ?_
            obtain ⟨g46, hf⟩ := ri_some hf
            refine mal4 F I_9 g46 dX12_pointsWithout_37 ?_
            refine lv_iload_n hx hb dX12_pointsWithout_38 rfl (lv_at hl_10 1 rfl) ?_
            refine lv_icmp_ne (tgt := 46) hx hb dX12_pointsWithout_39 (by decide) (fun c47 => ?_) (fun c47 => ?_)
            · replace hf := (if_neg c47).symm.trans hf
              refine lv_iconst (v := (0 : Int32)) hx hb dX12_pointsWithout_46 (by decide) ?_
              cases hf
              exact J12 H_9 lo_9 I_9 ls_10 (lv_sub hl_10 [0, 1, 2, 3, 4] rfl)
            · replace hf := (if_pos c47).symm.trans hf
              refine lv_iconst (v := (1 : Int32)) hx hb dX12_pointsWithout_42 (by decide) ?_
              refine lv_goto (tgt := 47) hx hb dX12_pointsWithout_43 (by decide) ?_
              cases hf
              exact J12 H_9 lo_9 I_9 ls_10 (lv_sub hl_10 [0, 1, 2, 3, 4] rfl)
  exact L1 FU _ _ hq1 H lo I ls_2 (lv_sub hl_2 [2, 3, 4, 1, 0] rfl)
def M_rankWithout_s1 (a1 : Int32) (r2 : Int32) (G : Nat → Nat → Int32) (x7 : Int32) (x8 : Int32) : Option ((Int32 × Int32) ⊕ (Int32)) :=
if G 1 0 ≤ x8 then
(some (.inr x7))
else
(bd (M_pointsWithout G x8 a1) fun r16 =>
bd (if r16 ≤ r2 then
(some (0 : Int32))
else
(some (1 : Int32))) fun x20 =>
nm (x7 + x20 : Int32) fun x24 =>
nm (x8 + (1 : Int32) : Int32) fun x26 =>
some (.inl (x24, x26)))
def M_rankWithout (G : Nat → Nat → Int32) (a0 : Int32) (a1 : Int32) : Option (Int32) :=
bd (M_pointsWithout G a0 a1) fun r2 =>
bd (lp (fun q => M_rankWithout_s1 a1 r2 G q.1 q.2) FU ((1 : Int32), (0 : Int32))) fun x9 =>
some x9
set_option maxRecDepth 100000 in
set_option maxHeartbeats 4000000 in
theorem cM_rankWithout (G : Nat → Nat → Int32) (E : Nat → Nat → Int64) (Dd : Nat → Nat → UInt64) (a0 : Int32) (a1 : Int32) (rv : Int32)  (hf : M_rankWithout G a0 a1 = some rv) : sMi D (mT cI cJ cD) (mW ad cI cJ cD) l yX12_rankWithout (ws1 yX12_rankWithout cX12_rankWithout 6 (some .int)) ({ frames := 2, cells := 0, slots := 0, locals := 47 }) [.ref (ad 0), .int a0, .int a1] (G, E, Dd) (rv, (G, E, Dd)) := by
  unfold M_rankWithout at hf
  refine sMi_of (by decide) (Nat.le_of_ble_eq_true rfl) ?_
  intro p e R s m args below meth c A Q ls H lo F hRf hRl I hl ret
  obtain ⟨hx, hb, hml, hown, hG⟩ := id F
  replace hl : lv_has ls 6 [(0, .ref (ad 0)), (1, .int a0), (2, .int a1)] := hl
  refine lv_iconst (v := (1 : Int32)) hx hb dX12_rankWithout_0 (by decide) ?_
  refine lv_istore_n (lv' := [(3, .int (1 : Int32)), (0, .ref (ad 0)), (1, .int a0), (2, .int a1)]) hx hb dX12_rankWithout_1 rfl hl (by decide) rfl (fun ls_1 hl_1 => ?_)
  refine lv_aload_n hx hb dX12_rankWithout_2 rfl (lv_at hl_1 1 rfl) ?_
  refine lv_iload_n hx hb dX12_rankWithout_3 rfl (lv_at hl_1 2 rfl) ?_
  refine lv_iload_n hx hb dX12_rankWithout_4 rfl (lv_at hl_1 3 rfl) ?_
  obtain ⟨r2, h3, hf⟩ := bd_some hf
  refine s_callVi (As := [.int a0, .int a1]) (rest := []) F I (cM_pointsWithout G E Dd a0 a1 r2 h3) kX12_243 ⟨rfl, rfl⟩ ⟨Nat.le_trans (Nat.le_of_ble_eq_true rfl) hRf, Nat.le_trans (Nat.le_of_ble_eq_true rfl) hRl⟩ (0) 12 rfl rfl rfl rfl rfl hl_1.1 (Nat.le_of_ble_eq_true rfl) ⟨Nat.zero_le _, Nat.zero_le _⟩ dX12_rankWithout_5 ?_
  intro H_4 lo_4 I_4
  refine lv_istore (lv' := [(4, .int r2), (3, .int (1 : Int32)), (0, .ref (ad 0)), (1, .int a0), (2, .int a1)]) hx hb dX12_rankWithout_8 hl_1 (by decide) rfl (fun ls_5 hl_5 => ?_)
  refine lv_iconst (v := (0 : Int32)) hx hb dX12_rankWithout_10 (by decide) ?_
  refine lv_istore (lv' := [(5, .int (0 : Int32)), (4, .int r2), (3, .int (1 : Int32)), (0, .ref (ad 0)), (1, .int a0), (2, .int a1)]) hx hb dX12_rankWithout_11 hl_5 (by decide) rfl (fun ls_6 hl_6 => ?_)
  obtain ⟨x9, hq1, hf⟩ := bd_some hf
  have K1 : ∀ (H : Heap) (locs : List Loc), sInv D (mT cI cJ cD) (mW ad cI cJ cD) A s H locs (G, E, Dd) → ∀ (ls : Array Slot), lv_has ls 6 [(3, .int x9)] → W p l e R s m args below meth c H locs 0 0 Q (F0 m 48 ls []) := by
    intro H_10 lo_10 I_10 ls_11 hl_11
    refine lv_iload_n hx hb dX12_rankWithout_48 rfl (lv_at hl_11 0 rfl) ?_
    cases hf
    exact ret H_10 lo_10 _ ls_11 I_10 dX12_rankWithout_49
  have L1 : ∀ (n : Nat) (x7 : Int32) (x8 : Int32), lp (fun q => M_rankWithout_s1 a1 r2 G q.1 q.2) n (x7, x8) = some x9 → ∀ (H : Heap) (locs : List Loc), sInv D (mT cI cJ cD) (mW ad cI cJ cD) A s H locs (G, E, Dd) → ∀ (ls : Array Slot), lv_has ls 6 [(0, .ref (ad 0)), (2, .int a1), (3, .int x7), (4, .int r2), (5, .int x8)] → W p l e R s m args below meth c H locs 0 0 Q (F0 m 13 ls []) := by
    intro n
    induction n with
    | zero => intro x7 x8 hq; exact (lp_0 hq).elim
    | succ n ih1 =>
      intro x7 x8 hq H_13 lo_13 I_13 ls_14 hl_14
      obtain ⟨y1, hf, hK1⟩ := lp_go hq
      replace hf : M_rankWithout_s1 a1 r2 G x7 x8 = some y1 := hf
      unfold M_rankWithout_s1 at hf
      refine lv_iload hx hb dX12_rankWithout_13 (lv_at hl_14 4 rfl) ?_
      refine lv_aload_n hx hb dX12_rankWithout_15 rfl (lv_at hl_14 0 rfl) ?_
      refine mgtX12_92_0 F I_13 dX12_rankWithout_16 ?_
      refine lv_icmp_ge (tgt := 48) hx hb dX12_rankWithout_19 (by decide) (fun c30 => ?_) (fun c30 => ?_)
      · replace hf := (if_pos c30).symm.trans hf
        cases hf
        cases (show x7 = x9 from hK1)
        exact K1 H_13 lo_13 I_13 ls_14 (lv_sub hl_14 [2] rfl)
      · replace hf := (if_neg c30).symm.trans hf
        refine lv_iload_n hx hb dX12_rankWithout_22 rfl (lv_at hl_14 2 rfl) ?_
        refine lv_aload_n hx hb dX12_rankWithout_23 rfl (lv_at hl_14 0 rfl) ?_
        refine lv_iload hx hb dX12_rankWithout_24 (lv_at hl_14 4 rfl) ?_
        refine lv_iload_n hx hb dX12_rankWithout_26 rfl (lv_at hl_14 1 rfl) ?_
        obtain ⟨r16, h17, hf⟩ := bd_some hf
        refine s_callVi (As := [.int x8, .int a1]) (rest := [.int x7]) F I_13 (cM_pointsWithout G E Dd x8 a1 r16 h17) kX12_243 ⟨rfl, rfl⟩ ⟨Nat.le_trans (Nat.le_of_ble_eq_true rfl) hRf, Nat.le_trans (Nat.le_of_ble_eq_true rfl) hRl⟩ (0) 12 rfl rfl rfl rfl rfl hl_14.1 (Nat.le_of_ble_eq_true rfl) ⟨Nat.zero_le _, Nat.zero_le _⟩ dX12_rankWithout_27 ?_
        intro H_18 lo_18 I_18
        refine lv_iload hx hb dX12_rankWithout_30 (lv_at hl_14 3 rfl) ?_
        obtain ⟨x20, hv28, hf⟩ := bd_some hf
        have J19 : ∀ (H : Heap) (locs : List Loc), sInv D (mT cI cJ cD) (mW ad cI cJ cD) A s H locs (G, E, Dd) → ∀ (ls : Array Slot), lv_has ls 6 [(0, .ref (ad 0)), (2, .int a1), (4, .int r2), (5, .int x8)] → W p l e R s m args below meth c H locs 0 0 Q (F0 m 40 ls [.int x20, .int x7]) := by
          intro H_21 lo_21 I_21 ls_22 hl_22
          refine lv_iadd hx hb dX12_rankWithout_40 ?_
          refine lv_topi (fun x24 ex24 => ?_)
          replace hf := nm_some ex24 hf
          refine lv_istore_n (lv' := [(3, .int x24), (0, .ref (ad 0)), (2, .int a1), (4, .int r2), (5, .int x8)]) hx hb dX12_rankWithout_41 rfl hl_22 (by decide) rfl (fun ls_25 hl_25 => ?_)
          obtain ⟨x26, ex26⟩ : ∃ y : Int32, y = x8 + (1 : Int32) := ⟨_, rfl⟩
          replace hf := nm_some ex26 hf
          refine lv_iinc (v := x26) (lv' := [(5, .int x26), (3, .int x24), (0, .ref (ad 0)), (2, .int a1), (4, .int r2)]) hx hb dX12_rankWithout_42 hl_25 (k := 4) rfl (by rw [ex26]; rfl) (by decide) rfl (fun ls_27 hl_27 => ?_)
          refine lv_goto (tgt := 13) hx hb dX12_rankWithout_45 (by decide) ?_
          cases hf
          exact ih1 _ _ hK1 H_21 lo_21 I_21 ls_27 (lv_sub hl_27 [2, 3, 1, 4, 0] rfl)
        replace hf := hv28
        refine lv_icmp_le (tgt := 39) hx hb dX12_rankWithout_32 (by decide) (fun c29 => ?_) (fun c29 => ?_)
        · replace hf := (if_pos c29).symm.trans hf
          refine lv_iconst (v := (0 : Int32)) hx hb dX12_rankWithout_39 (by decide) ?_
          cases hf
          exact J19 H_18 lo_18 I_18 ls_14 (lv_sub hl_14 [0, 1, 3, 4] rfl)
        · replace hf := (if_neg c29).symm.trans hf
          refine lv_iconst (v := (1 : Int32)) hx hb dX12_rankWithout_35 (by decide) ?_
          refine lv_goto (tgt := 40) hx hb dX12_rankWithout_36 (by decide) ?_
          cases hf
          exact J19 H_18 lo_18 I_18 ls_14 (lv_sub hl_14 [0, 1, 3, 4] rfl)
  exact L1 FU _ _ hq1 H_4 lo_4 I_4 ls_6 (lv_sub hl_6 [3, 5, 2, 1, 0] rfl)
def M_isStable_s1 (a0 : Int32) (r1 : Int32) (G : Nat → Nat → Int32) (x7 : Int32) (x8 : Int32) : Option ((Int32 × Int32) ⊕ (Int32)) :=
if G 4 0 ≤ x8 then
(some (.inr x7))
else
(bd (if x7 = 0 then
(some (0 : Int32))
else
(bd (M_rankWithout G a0 x8) fun r26 =>
if r26 = r1 then
(some (1 : Int32))
else
(some (0 : Int32)))) fun x18 =>
nm (x8 + (1 : Int32) : Int32) fun x23 =>
some (.inl (x18, x23)))
def M_isStable (G : Nat → Nat → Int32) (a0 : Int32) : Option (Int32) :=
bd (M_rankWithout G a0 (-1 : Int32)) fun r1 =>
bd (lp (fun q => M_isStable_s1 a0 r1 G q.1 q.2) FU ((1 : Int32), (0 : Int32))) fun x9 =>
gd (x9 = 0 ∨ x9 = 1) <|
some x9
set_option maxRecDepth 100000 in
set_option maxHeartbeats 4000000 in
theorem cM_isStable (G : Nat → Nat → Int32) (E : Nat → Nat → Int64) (Dd : Nat → Nat → UInt64) (a0 : Int32) (rv : Int32)  (hf : M_isStable G a0 = some rv) : sMi D (mT cI cJ cD) (mW ad cI cJ cD) l yX12_isStable (ws1 yX12_isStable cX12_isStable 5 (some .boolean)) ({ frames := 3, cells := 0, slots := 0, locals := 72 }) [.ref (ad 0), .int a0] (G, E, Dd) (rv, (G, E, Dd)) := by
  unfold M_isStable at hf
  refine sMz_of (by decide) (Nat.le_of_ble_eq_true rfl) ?_
  intro p e R s m args below meth c A Q ls H lo F hRf hRl I hl ret
  obtain ⟨hx, hb, hml, hown, hG⟩ := id F
  replace hl : lv_has ls 5 [(0, .ref (ad 0)), (1, .int a0)] := hl
  refine lv_aload_n hx hb dX12_isStable_0 rfl (lv_at hl 0 rfl) ?_
  refine lv_iload_n hx hb dX12_isStable_1 rfl (lv_at hl 1 rfl) ?_
  refine lv_iconst (v := (-1 : Int32)) hx hb dX12_isStable_2 (by decide) ?_
  obtain ⟨r1, h2, hf⟩ := bd_some hf
  refine s_callVi (As := [.int a0, .int (-1 : Int32)]) (rest := []) F I (cM_rankWithout G E Dd a0 (-1 : Int32) r1 h2) kX12_246 ⟨rfl, rfl⟩ ⟨Nat.le_trans (Nat.le_of_ble_eq_true rfl) hRf, Nat.le_trans (Nat.le_of_ble_eq_true rfl) hRl⟩ (0) 12 rfl rfl rfl rfl rfl hl.1 (Nat.le_of_ble_eq_true rfl) ⟨Nat.zero_le _, Nat.zero_le _⟩ dX12_isStable_3 ?_
  intro H_3 lo_3 I_3
  refine lv_istore_n (lv' := [(2, .int r1), (0, .ref (ad 0)), (1, .int a0)]) hx hb dX12_isStable_6 rfl hl (by decide) rfl (fun ls_4 hl_4 => ?_)
  refine lv_iconst (v := (1 : Int32)) hx hb dX12_isStable_7 (by decide) ?_
  refine lv_istore_n (lv' := [(3, .int (1 : Int32)), (2, .int r1), (0, .ref (ad 0)), (1, .int a0)]) hx hb dX12_isStable_8 rfl hl_4 (by decide) rfl (fun ls_5 hl_5 => ?_)
  refine lv_iconst (v := (0 : Int32)) hx hb dX12_isStable_9 (by decide) ?_
  refine lv_istore (lv' := [(4, .int (0 : Int32)), (3, .int (1 : Int32)), (2, .int r1), (0, .ref (ad 0)), (1, .int a0)]) hx hb dX12_isStable_10 hl_5 (by decide) rfl (fun ls_6 hl_6 => ?_)
  obtain ⟨x9, hq1, hf⟩ := bd_some hf
  have K1 : ∀ (H : Heap) (locs : List Loc), sInv D (mT cI cJ cD) (mW ad cI cJ cD) A s H locs (G, E, Dd) → ∀ (ls : Array Slot), lv_has ls 5 [(3, .int x9)] → W p l e R s m args below meth c H locs 0 0 Q (F0 m 48 ls []) := by
    intro H_10 lo_10 I_10 ls_11 hl_11
    refine lv_iload_n hx hb dX12_isStable_48 rfl (lv_at hl_11 0 rfl) ?_
    obtain ⟨g13, hf⟩ := gd_some hf
    cases hf
    exact ret H_10 lo_10 _ ls_11 I_10 g13 dX12_isStable_49
  have L1 : ∀ (n : Nat) (x7 : Int32) (x8 : Int32), lp (fun q => M_isStable_s1 a0 r1 G q.1 q.2) n (x7, x8) = some x9 → ∀ (H : Heap) (locs : List Loc), sInv D (mT cI cJ cD) (mW ad cI cJ cD) A s H locs (G, E, Dd) → ∀ (ls : Array Slot), lv_has ls 5 [(0, .ref (ad 0)), (1, .int a0), (2, .int r1), (3, .int x7), (4, .int x8)] → W p l e R s m args below meth c H locs 0 0 Q (F0 m 12 ls []) := by
    intro n
    induction n with
    | zero => intro x7 x8 hq; exact (lp_0 hq).elim
    | succ n ih1 =>
      intro x7 x8 hq H_14 lo_14 I_14 ls_15 hl_15
      obtain ⟨y1, hf, hK1⟩ := lp_go hq
      replace hf : M_isStable_s1 a0 r1 G x7 x8 = some y1 := hf
      unfold M_isStable_s1 at hf
      refine lv_iload hx hb dX12_isStable_12 (lv_at hl_15 4 rfl) ?_
      refine lv_aload_n hx hb dX12_isStable_14 rfl (lv_at hl_15 0 rfl) ?_
      refine mgtX12_102_0 F I_14 dX12_isStable_15 ?_
      refine lv_icmp_ge (tgt := 48) hx hb dX12_isStable_18 (by decide) (fun c31 => ?_) (fun c31 => ?_)
      · replace hf := (if_pos c31).symm.trans hf
        cases hf
        cases (show x7 = x9 from hK1)
        exact K1 H_14 lo_14 I_14 ls_15 (lv_sub hl_15 [3] rfl)
      · replace hf := (if_neg c31).symm.trans hf
        refine lv_iload_n hx hb dX12_isStable_21 rfl (lv_at hl_15 3 rfl) ?_
        obtain ⟨x18, hv25, hf⟩ := bd_some hf
        have J17 : ∀ (H : Heap) (locs : List Loc), sInv D (mT cI cJ cD) (mW ad cI cJ cD) A s H locs (G, E, Dd) → ∀ (ls : Array Slot), lv_has ls 5 [(0, .ref (ad 0)), (1, .int a0), (2, .int r1), (4, .int x8)] → W p l e R s m args below meth c H locs 0 0 Q (F0 m 41 ls [.int x18]) := by
          intro H_19 lo_19 I_19 ls_20 hl_20
          refine lv_istore_n (lv' := [(3, .int x18), (0, .ref (ad 0)), (1, .int a0), (2, .int r1), (4, .int x8)]) hx hb dX12_isStable_41 rfl hl_20 (by decide) rfl (fun ls_22 hl_22 => ?_)
          obtain ⟨x23, ex23⟩ : ∃ y : Int32, y = x8 + (1 : Int32) := ⟨_, rfl⟩
          replace hf := nm_some ex23 hf
          refine lv_iinc (v := x23) (lv' := [(4, .int x23), (3, .int x18), (0, .ref (ad 0)), (1, .int a0), (2, .int r1)]) hx hb dX12_isStable_42 hl_22 (k := 4) rfl (by rw [ex23]; rfl) (by decide) rfl (fun ls_24 hl_24 => ?_)
          refine lv_goto (tgt := 12) hx hb dX12_isStable_45 (by decide) ?_
          cases hf
          exact ih1 _ _ hK1 H_19 lo_19 I_19 ls_24 (lv_sub hl_24 [2, 3, 4, 1, 0] rfl)
        replace hf := hv25
        refine lv_if_eq (tgt := 40) hx hb dX12_isStable_22 (by decide) (fun c30 => ?_) (fun c30 => ?_)
        · replace hf := (if_pos c30).symm.trans hf
          refine lv_iconst (v := (0 : Int32)) hx hb dX12_isStable_40 (by decide) ?_
          cases hf
          exact J17 H_14 lo_14 I_14 ls_15 (lv_sub hl_15 [0, 1, 2, 4] rfl)
        · replace hf := (if_neg c30).symm.trans hf
          refine lv_aload_n hx hb dX12_isStable_25 rfl (lv_at hl_15 0 rfl) ?_
          refine lv_iload_n hx hb dX12_isStable_26 rfl (lv_at hl_15 1 rfl) ?_
          refine lv_iload hx hb dX12_isStable_27 (lv_at hl_15 4 rfl) ?_
          obtain ⟨r26, h27, hf⟩ := bd_some hf
          refine s_callVi (As := [.int a0, .int x8]) (rest := []) F I_14 (cM_rankWithout G E Dd a0 x8 r26 h27) kX12_246 ⟨rfl, rfl⟩ ⟨Nat.le_trans (Nat.le_of_ble_eq_true rfl) hRf, Nat.le_trans (Nat.le_of_ble_eq_true rfl) hRl⟩ (0) 12 rfl rfl rfl rfl rfl hl_15.1 (Nat.le_of_ble_eq_true rfl) ⟨Nat.zero_le _, Nat.zero_le _⟩ dX12_isStable_29 ?_
          intro H_28 lo_28 I_28
          refine lv_iload_n hx hb dX12_isStable_32 rfl (lv_at hl_15 2 rfl) ?_
          refine lv_icmp_ne (tgt := 40) hx hb dX12_isStable_33 (by decide) (fun c29 => ?_) (fun c29 => ?_)
          · replace hf := (if_neg c29).symm.trans hf
            refine lv_iconst (v := (0 : Int32)) hx hb dX12_isStable_40 (by decide) ?_
            cases hf
            exact J17 H_28 lo_28 I_28 ls_15 (lv_sub hl_15 [0, 1, 2, 4] rfl)
          · replace hf := (if_pos c29).symm.trans hf
            refine lv_iconst (v := (1 : Int32)) hx hb dX12_isStable_36 (by decide) ?_
            refine lv_goto (tgt := 41) hx hb dX12_isStable_37 (by decide) ?_
            cases hf
            exact J17 H_28 lo_28 I_28 ls_15 (lv_sub hl_15 [0, 1, 2, 4] rfl)
  exact L1 FU _ _ hq1 H_3 lo_3 I_3 ls_6 (lv_sub hl_6 [3, 4, 2, 1, 0] rfl)
end Meth
