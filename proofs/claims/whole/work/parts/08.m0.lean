section Meth
variable {D : va_G} {l : Launch} {ad : Nat → Nat} {cI cJ cD : ClassId}
def M_thrown (G : Nat → Nat → Int32) : Int32 :=
(G 0 0)
set_option maxRecDepth 100000 in
set_option maxHeartbeats 4000000 in
theorem cM_thrown (G : Nat → Nat → Int32) (E : Nat → Nat → Int64) (Dd : Nat → Nat → UInt64)  (rv : Int32)  (hv : rv = M_thrown G) : sMi D (mT cI cJ cD) (mW ad cI cJ cD) l yX12_thrown (ws1 yX12_thrown cX12_thrown 1 (some .int)) ({ frames := 0, cells := 0, slots := 0, locals := 0 }) [.ref (ad 0)] (G, E, Dd) (rv, (G, E, Dd)) := by
  have hf : (some (G 0 0)) = some rv := by rw [hv]; rfl
  refine sMi_of (by decide) (Nat.le_of_ble_eq_true rfl) ?_
  intro p e R s m args below meth c A Q ls H locs F hRf hRl I hl ret
  obtain ⟨hx, hb, hml, hown, hG⟩ := id F
  replace hl : lv_has ls 1 [(0, .ref (ad 0))] := hl
  refine lv_aload_n hx hb dX12_thrown_0 rfl (lv_at hl 0 rfl) ?_
  refine mgtX12_89_0 F I dX12_thrown_1 ?_
  cases hf
  exact ret H locs _ ls I dX12_thrown_4
def M_within (a0 : Int32) (a1 : Int32) (a2 : Int32) : Option (Int32) :=
if a0 < a1 then
(some (0 : Int32))
else
(if a2 < a0 then
(some (0 : Int32))
else
(some (1 : Int32)))
set_option maxRecDepth 100000 in
set_option maxHeartbeats 4000000 in
theorem cM_within (G : Nat → Nat → Int32) (E : Nat → Nat → Int64) (Dd : Nat → Nat → UInt64) (a0 : Int32) (a1 : Int32) (a2 : Int32) (rv : Int32)  (hf : M_within a0 a1 a2 = some rv) : sMi D (mT cI cJ cD) (mW ad cI cJ cD) l yX12_within (ws1 yX12_within cX12_within 3 (some .boolean)) ({ frames := 0, cells := 0, slots := 0, locals := 0 }) [.int a0, .int a1, .int a2] (G, E, Dd) (rv, (G, E, Dd)) := by
  unfold M_within at hf
  refine sMz_of (by decide) (Nat.le_of_ble_eq_true rfl) ?_
  intro p e R s m args below meth c A Q ls H locs F hRf hRl I hl ret
  obtain ⟨hx, hb, hml, hown, hG⟩ := id F
  replace hl : lv_has ls 3 [(0, .int a0), (1, .int a1), (2, .int a2)] := hl
  refine lv_iload_n hx hb dX12_within_0 rfl (lv_at hl 0 rfl) ?_
  refine lv_iload_n hx hb dX12_within_1 rfl (lv_at hl 1 rfl) ?_
  refine lv_icmp_lt (tgt := 14) hx hb dX12_within_2 (by decide) (fun c2 => ?_) (fun c2 => ?_)
  · replace hf := (if_pos c2).symm.trans hf
    refine lv_iconst (v := (0 : Int32)) hx hb dX12_within_14 (by decide) ?_
    cases hf
    exact ret H locs _ ls I (Or.inl rfl) dX12_within_15
  · replace hf := (if_neg c2).symm.trans hf
    refine lv_iload_n hx hb dX12_within_5 rfl (lv_at hl 0 rfl) ?_
    refine lv_iload_n hx hb dX12_within_6 rfl (lv_at hl 2 rfl) ?_
    refine lv_icmp_gt (tgt := 14) hx hb dX12_within_7 (by decide) (fun c1 => ?_) (fun c1 => ?_)
    · replace hf := (if_pos c1).symm.trans hf
      refine lv_iconst (v := (0 : Int32)) hx hb dX12_within_14 (by decide) ?_
      cases hf
      exact ret H locs _ ls I (Or.inl rfl) dX12_within_15
    · replace hf := (if_neg c1).symm.trans hf
      refine lv_iconst (v := (1 : Int32)) hx hb dX12_within_10 (by decide) ?_
      refine lv_goto (tgt := 15) hx hb dX12_within_11 (by decide) ?_
      cases hf
      exact ret H locs _ ls I (Or.inr rfl) dX12_within_15
def M_isSample (G : Nat → Nat → Int32) (a0 : Int32) : Option (Int32) :=
bd (M_within a0 (0 : Int32) ((G 1 0) - (1 : Int32))) fun r1 =>
gd (r1 = 0 ∨ r1 = 1) <|
some r1
set_option maxRecDepth 100000 in
set_option maxHeartbeats 4000000 in
theorem cM_isSample (G : Nat → Nat → Int32) (E : Nat → Nat → Int64) (Dd : Nat → Nat → UInt64) (a0 : Int32) (rv : Int32)  (hf : M_isSample G a0 = some rv) : sMi D (mT cI cJ cD) (mW ad cI cJ cD) l yX12_isSample (ws1 yX12_isSample cX12_isSample 2 (some .boolean)) ({ frames := 1, cells := 0, slots := 0, locals := 22 }) [.ref (ad 0), .int a0] (G, E, Dd) (rv, (G, E, Dd)) := by
  unfold M_isSample at hf
  refine sMz_of (by decide) (Nat.le_of_ble_eq_true rfl) ?_
  intro p e R s m args below meth c A Q ls H locs F hRf hRl I hl ret
  obtain ⟨hx, hb, hml, hown, hG⟩ := id F
  replace hl : lv_has ls 2 [(0, .ref (ad 0)), (1, .int a0)] := hl
  refine lv_iload_n hx hb dX12_isSample_0 rfl (lv_at hl 1 rfl) ?_
  refine lv_iconst (v := (0 : Int32)) hx hb dX12_isSample_1 (by decide) ?_
  refine lv_aload_n hx hb dX12_isSample_2 rfl (lv_at hl 0 rfl) ?_
  refine mgtX12_92_0 F I dX12_isSample_3 ?_
  refine lv_iconst (v := (1 : Int32)) hx hb dX12_isSample_6 (by decide) ?_
  refine lv_isub hx hb dX12_isSample_7 ?_
  obtain ⟨r1, h2, hf⟩ := bd_some hf
  refine s_callSi (As := [.int a0, .int (0 : Int32), .int ((G 1 0) - (1 : Int32))]) (rest := []) F I (cM_within G E Dd a0 (0 : Int32) ((G 1 0) - (1 : Int32)) r1 h2) kX12_95 ⟨rfl, rfl⟩ ⟨Nat.le_trans (Nat.le_of_ble_eq_true rfl) hRf, Nat.le_trans (Nat.le_of_ble_eq_true rfl) hRl⟩ rfl rfl hl.1 (Nat.le_of_ble_eq_true rfl) ⟨Nat.zero_le _, Nat.zero_le _⟩ dX12_isSample_8 ?_
  intro H locs I
  obtain ⟨g3, hf⟩ := gd_some hf
  cases hf
  exact ret H locs _ ls I g3 dX12_isSample_11
def M_isListener (G : Nat → Nat → Int32) (a0 : Int32) : Option (Int32) :=
bd (M_within a0 (0 : Int32) ((G 2 0) - (1 : Int32))) fun r1 =>
gd (r1 = 0 ∨ r1 = 1) <|
some r1
set_option maxRecDepth 100000 in
set_option maxHeartbeats 4000000 in
theorem cM_isListener (G : Nat → Nat → Int32) (E : Nat → Nat → Int64) (Dd : Nat → Nat → UInt64) (a0 : Int32) (rv : Int32)  (hf : M_isListener G a0 = some rv) : sMi D (mT cI cJ cD) (mW ad cI cJ cD) l yX12_isListener (ws1 yX12_isListener cX12_isListener 2 (some .boolean)) ({ frames := 1, cells := 0, slots := 0, locals := 22 }) [.ref (ad 0), .int a0] (G, E, Dd) (rv, (G, E, Dd)) := by
  unfold M_isListener at hf
  refine sMz_of (by decide) (Nat.le_of_ble_eq_true rfl) ?_
  intro p e R s m args below meth c A Q ls H locs F hRf hRl I hl ret
  obtain ⟨hx, hb, hml, hown, hG⟩ := id F
  replace hl : lv_has ls 2 [(0, .ref (ad 0)), (1, .int a0)] := hl
  refine lv_iload_n hx hb dX12_isListener_0 rfl (lv_at hl 1 rfl) ?_
  refine lv_iconst (v := (0 : Int32)) hx hb dX12_isListener_1 (by decide) ?_
  refine lv_aload_n hx hb dX12_isListener_2 rfl (lv_at hl 0 rfl) ?_
  refine mgtX12_99_0 F I dX12_isListener_3 ?_
  refine lv_iconst (v := (1 : Int32)) hx hb dX12_isListener_6 (by decide) ?_
  refine lv_isub hx hb dX12_isListener_7 ?_
  obtain ⟨r1, h2, hf⟩ := bd_some hf
  refine s_callSi (As := [.int a0, .int (0 : Int32), .int ((G 2 0) - (1 : Int32))]) (rest := []) F I (cM_within G E Dd a0 (0 : Int32) ((G 2 0) - (1 : Int32)) r1 h2) kX12_95 ⟨rfl, rfl⟩ ⟨Nat.le_trans (Nat.le_of_ble_eq_true rfl) hRf, Nat.le_trans (Nat.le_of_ble_eq_true rfl) hRl⟩ rfl rfl hl.1 (Nat.le_of_ble_eq_true rfl) ⟨Nat.zero_le _, Nat.zero_le _⟩ dX12_isListener_8 ?_
  intro H locs I
  obtain ⟨g3, hf⟩ := gd_some hf
  cases hf
  exact ret H locs _ ls I g3 dX12_isListener_11
def M_start_s1  (x8 : Int32) (G9 : Nat → Nat → Int32) : Option ((Int32 × (Nat → Nat → Int32)) ⊕ ((Nat → Nat → Int32))) :=
if (8 : Int32) ≤ x8 then
(some (.inr G9))
else
(ri 8 x8 <|
nm (wr G9 3 x8 (1 : Int32)) fun G12 =>
nm (x8 + (1 : Int32) : Int32) fun x13 =>
some (.inl (x13, G12)))
def M_start (G : Nat → Nat → Int32) (a0 : Int32) (a1 : Int32) : Option ((Nat → Nat → Int32)) :=
nm (wf G 1 a0) fun G1 =>
nm (wf G1 2 a1) fun G2 =>
nm (wf G2 4 (0 : Int32)) fun G3 =>
nm (wf G3 9 (-1 : Int32)) fun G4 =>
nm (wf G4 10 (0 : Int32)) fun G5 =>
nm (wf G5 11 (0 : Int32)) fun G6 =>
nm (wf G6 13 (0 : Int32)) fun G7 =>
bd (lp (fun q => M_start_s1 q.1 q.2) FU ((0 : Int32), G7)) fun G10 =>
some G10
set_option maxRecDepth 100000 in
set_option maxHeartbeats 4000000 in
theorem cM_start (G : Nat → Nat → Int32) (E : Nat → Nat → Int64) (Dd : Nat → Nat → UInt64) (a0 : Int32) (a1 : Int32)  (newG : Nat → Nat → Int32) (hf : M_start G a0 a1 = some newG) : sMv D (mT cI cJ cD) (mW ad cI cJ cD) l yX12_start (ws1 yX12_start cX12_start 4 none) ({ frames := 0, cells := 0, slots := 0, locals := 0 }) [.ref (ad 0), .int a0, .int a1] (G, E, Dd) (newG, E, Dd) := by
  unfold M_start at hf
  refine sMv_of (by decide) (Nat.le_of_ble_eq_true rfl) ?_
  intro p e R s m args below meth c A Q ls H locs F hRf hRl I hl ret
  obtain ⟨hx, hb, hml, hown, hG⟩ := id F
  replace hl : lv_has ls 4 [(0, .ref (ad 0)), (1, .int a0), (2, .int a1)] := hl
  refine lv_aload_n hx hb dX12_start_0 rfl (lv_at hl 0 rfl) ?_
  refine lv_iload_n hx hb dX12_start_1 rfl (lv_at hl 1 rfl) ?_
  refine mptX12_92_0 F I dX12_start_2 ?_
  intro H locs G1 eG1 I
  replace hf := nm_some eG1 hf
  refine lv_aload_n hx hb dX12_start_5 rfl (lv_at hl 0 rfl) ?_
  refine lv_iload_n hx hb dX12_start_6 rfl (lv_at hl 2 rfl) ?_
  refine mptX12_99_0 F I dX12_start_7 ?_
  intro H locs G2 eG2 I
  replace hf := nm_some eG2 hf
  refine lv_aload_n hx hb dX12_start_10 rfl (lv_at hl 0 rfl) ?_
  refine lv_iconst (v := (0 : Int32)) hx hb dX12_start_11 (by decide) ?_
  refine mptX12_102_0 F I dX12_start_12 ?_
  intro H locs G3 eG3 I
  replace hf := nm_some eG3 hf
  refine lv_aload_n hx hb dX12_start_15 rfl (lv_at hl 0 rfl) ?_
  refine lv_iconst (v := (-1 : Int32)) hx hb dX12_start_16 (by decide) ?_
  refine mptX12_25_0 F I dX12_start_17 ?_
  intro H locs G4 eG4 I
  replace hf := nm_some eG4 hf
  refine lv_aload_n hx hb dX12_start_20 rfl (lv_at hl 0 rfl) ?_
  refine lv_iconst (v := (0 : Int32)) hx hb dX12_start_21 (by decide) ?_
  refine mptX12_105_0 F I dX12_start_22 ?_
  intro H locs G5 eG5 I
  replace hf := nm_some eG5 hf
  refine lv_aload_n hx hb dX12_start_25 rfl (lv_at hl 0 rfl) ?_
  refine lv_iconst (v := (0 : Int32)) hx hb dX12_start_26 (by decide) ?_
  refine mptX12_108_0 F I dX12_start_27 ?_
  intro H locs G6 eG6 I
  replace hf := nm_some eG6 hf
  refine lv_aload_n hx hb dX12_start_30 rfl (lv_at hl 0 rfl) ?_
  refine lv_iconst (v := (0 : Int32)) hx hb dX12_start_31 (by decide) ?_
  refine mptX12_111_0 F I dX12_start_32 ?_
  intro H locs G7 eG7 I
  replace hf := nm_some eG7 hf
  refine lv_iconst (v := (0 : Int32)) hx hb dX12_start_35 (by decide) ?_
  refine lv_istore_n (lv' := [(3, .int (0 : Int32)), (0, .ref (ad 0)), (1, .int a0), (2, .int a1)]) hx hb dX12_start_36 rfl hl (by decide) rfl (fun ls hl => ?_)
  obtain ⟨G10, hq1, hf⟩ := bd_some hf
  have K1 : ∀ (H : Heap) (locs : List Loc), sInv D (mT cI cJ cD) (mW ad cI cJ cD) A s H locs (G10, E, Dd) → ∀ (ls : Array Slot), lv_has ls 4 [] → W p l e R s m args below meth c H locs 0 0 Q (F0 m 56 ls []) := by
    intro H locs I ls hl
    cases hf
    exact ret H locs _ ls I dX12_start_56
  have L1 : ∀ (n : Nat) (x8 : Int32) (G9 : Nat → Nat → Int32), lp (fun q => M_start_s1 q.1 q.2) n (x8, G9) = some G10 → ∀ (H : Heap) (locs : List Loc), sInv D (mT cI cJ cD) (mW ad cI cJ cD) A s H locs (G9, E, Dd) → ∀ (ls : Array Slot), lv_has ls 4 [(0, .ref (ad 0)), (3, .int x8)] → W p l e R s m args below meth c H locs 0 0 Q (F0 m 37 ls []) := by
    intro n
    induction n with
    | zero => intro x8 G9 hq; exact (lp_0 hq).elim
    | succ n ih1 =>
      intro x8 G9 hq H locs I ls hl
      obtain ⟨y1, hf, hK1⟩ := lp_go hq
      replace hf : M_start_s1 x8 G9 = some y1 := hf
      unfold M_start_s1 at hf
      refine lv_iload_n hx hb dX12_start_37 rfl (lv_at hl 1 rfl) ?_
      refine lv_bipush (v := (8 : Int32)) hx hb dX12_start_38 (by decide) ?_
      refine lv_icmp_ge (tgt := 56) hx hb dX12_start_40 (by decide) (fun c14 => ?_) (fun c14 => ?_)
      · replace hf := (if_pos c14).symm.trans hf
        cases hf
        cases (show G9 = G10 from hK1)
        exact K1 H locs I ls (lv_sub hl [] rfl)
      · replace hf := (if_neg c14).symm.trans hf
        refine lv_aload_n hx hb dX12_start_43 rfl (lv_at hl 0 rfl) ?_
        refine mgtX12_7_0 F I dX12_start_44 ?_
        refine lv_iload_n hx hb dX12_start_47 rfl (lv_at hl 1 rfl) ?_
        refine lv_iconst (v := (1 : Int32)) hx hb dX12_start_48 (by decide) ?_
        obtain ⟨g11, hf⟩ := ri_some hf
        refine mas1 F I g11 dX12_start_49 ?_
        intro H locs G12 eG12 I
        replace hf := nm_some eG12 hf
        obtain ⟨x13, ex13⟩ : ∃ y : Int32, y = x8 + (1 : Int32) := ⟨_, rfl⟩
        replace hf := nm_some ex13 hf
        refine lv_iinc (v := x13) (lv' := [(3, .int x13), (0, .ref (ad 0))]) hx hb dX12_start_50 hl (k := 1) rfl (by rw [ex13]; rfl) (by decide) rfl (fun ls hl => ?_)
        refine lv_goto (tgt := 37) hx hb dX12_start_53 (by decide) ?_
        cases hf
        exact ih1 _ _ hK1 H locs I ls (lv_sub hl [1, 0] rfl)
  exact L1 FU _ _ hq1 H locs I ls (lv_sub hl [1, 0] rfl)
def M_begin (G : Nat → Nat → Int32) (a0 : Int32) (a1 : Int32) : Option (Int32 × (Nat → Nat → Int32)) :=
bd (M_within a0 (2 : Int32) (8 : Int32)) fun r1 =>
bd (if r1 = 0 then
(some (1 : Int32))
else
(bd (M_within a1 (1 : Int32) (8 : Int32)) fun r10 =>
if r10 = 0 then
(some (1 : Int32))
else
(some (0 : Int32)))) fun x4 =>
nm (wf G 0 x4) fun G5 =>
if G5 0 0 ≤ 0 then
(bd (M_start G5 a0 a1) fun G6 =>
some ((a0 * (a0 - (1 : Int32))) / (2 : Int32), G6))
else
(some ((0 : Int32), G5))
set_option maxRecDepth 100000 in
set_option maxHeartbeats 4000000 in
theorem cM_begin (G : Nat → Nat → Int32) (E : Nat → Nat → Int64) (Dd : Nat → Nat → UInt64) (a0 : Int32) (a1 : Int32) (rv : Int32) (newG : Nat → Nat → Int32) (hf : M_begin G a0 a1 = some (rv, newG)) : sMi D (mT cI cJ cD) (mW ad cI cJ cD) l yX12_begin (ws1 yX12_begin cX12_begin 3 (some .int)) ({ frames := 1, cells := 0, slots := 0, locals := 23 }) [.ref (ad 0), .int a0, .int a1] (G, E, Dd) (rv, (newG, E, Dd)) := by
  unfold M_begin at hf
  refine sMi_of (by decide) (Nat.le_of_ble_eq_true rfl) ?_
  intro p e R s m args below meth c A Q ls H locs F hRf hRl I hl ret
  obtain ⟨hx, hb, hml, hown, hG⟩ := id F
  replace hl : lv_has ls 3 [(0, .ref (ad 0)), (1, .int a0), (2, .int a1)] := hl
  refine lv_aload_n hx hb dX12_begin_0 rfl (lv_at hl 0 rfl) ?_
  refine lv_iload_n hx hb dX12_begin_1 rfl (lv_at hl 1 rfl) ?_
  refine lv_iconst (v := (2 : Int32)) hx hb dX12_begin_2 (by decide) ?_
  refine lv_bipush (v := (8 : Int32)) hx hb dX12_begin_3 (by decide) ?_
  obtain ⟨r1, h2, hf⟩ := bd_some hf
  refine s_callSi (As := [.int a0, .int (2 : Int32), .int (8 : Int32)]) (rest := [.ref (ad 0)]) F I (cM_within G E Dd a0 (2 : Int32) (8 : Int32) r1 h2) kX12_95 ⟨rfl, rfl⟩ ⟨Nat.le_trans (Nat.le_of_ble_eq_true rfl) hRf, Nat.le_trans (Nat.le_of_ble_eq_true rfl) hRl⟩ rfl rfl hl.1 (Nat.le_of_ble_eq_true rfl) ⟨Nat.zero_le _, Nat.zero_le _⟩ dX12_begin_5 ?_
  intro H locs I
  obtain ⟨x4, hv9, hf⟩ := bd_some hf
  have J3 : ∀ (H : Heap) (locs : List Loc), sInv D (mT cI cJ cD) (mW ad cI cJ cD) A s H locs (G, E, Dd) → ∀ (ls : Array Slot), lv_has ls 3 [(0, .ref (ad 0)), (1, .int a0), (2, .int a1)] → W p l e R s m args below meth c H locs 0 0 Q (F0 m 26 ls [.int x4, .ref (ad 0)]) := by
    intro H locs I ls hl
    refine mptX12_89_0 F I dX12_begin_26 ?_
    intro H locs G5 eG5 I
    replace hf := nm_some eG5 hf
    refine lv_aload_n hx hb dX12_begin_29 rfl (lv_at hl 0 rfl) ?_
    refine mgtX12_89_0 F I dX12_begin_30 ?_
    refine lv_if_le (tgt := 38) hx hb dX12_begin_33 (by decide) (fun c8 => ?_) (fun c8 => ?_)
    · replace hf := (if_pos c8).symm.trans hf
      refine lv_aload_n hx hb dX12_begin_38 rfl (lv_at hl 0 rfl) ?_
      refine lv_iload_n hx hb dX12_begin_39 rfl (lv_at hl 1 rfl) ?_
      refine lv_iload_n hx hb dX12_begin_40 rfl (lv_at hl 2 rfl) ?_
      obtain ⟨G6, h7, hf⟩ := bd_some hf
      refine s_callVv (As := [.int a0, .int a1]) (rest := []) F I (cM_start G5 E Dd a0 a1 G6 h7) kX12_85 ⟨rfl, rfl⟩ ⟨Nat.le_trans (Nat.le_of_ble_eq_true rfl) hRf, Nat.le_trans (Nat.le_of_ble_eq_true rfl) hRl⟩ 0 12 rfl rfl rfl rfl rfl hl.1 (Nat.le_of_ble_eq_true rfl) ⟨Nat.zero_le _, Nat.zero_le _⟩ dX12_begin_41 ?_
      intro H locs I
      refine lv_iload_n hx hb dX12_begin_44 rfl (lv_at hl 1 rfl) ?_
      refine lv_iload_n hx hb dX12_begin_45 rfl (lv_at hl 1 rfl) ?_
      refine lv_iconst (v := (1 : Int32)) hx hb dX12_begin_46 (by decide) ?_
      refine lv_isub hx hb dX12_begin_47 ?_
      refine lv_imul hx hb dX12_begin_48 ?_
      refine lv_iconst (v := (2 : Int32)) hx hb dX12_begin_49 (by decide) ?_
      refine lv_idiv hx hb dX12_begin_50 (by decide) ?_
      cases hf
      exact ret H locs _ ls I dX12_begin_51
    · replace hf := (if_neg c8).symm.trans hf
      refine lv_iconst (v := (0 : Int32)) hx hb dX12_begin_36 (by decide) ?_
      cases hf
      exact ret H locs _ ls I dX12_begin_37
  replace hf := hv9
  refine lv_if_eq (tgt := 25) hx hb dX12_begin_8 (by decide) (fun c13 => ?_) (fun c13 => ?_)
  · replace hf := (if_pos c13).symm.trans hf
    refine lv_iconst (v := (1 : Int32)) hx hb dX12_begin_25 (by decide) ?_
    cases hf
    exact J3 H locs I ls (lv_sub hl [0, 1, 2] rfl)
  · replace hf := (if_neg c13).symm.trans hf
    refine lv_iload_n hx hb dX12_begin_11 rfl (lv_at hl 2 rfl) ?_
    refine lv_iconst (v := (1 : Int32)) hx hb dX12_begin_12 (by decide) ?_
    refine lv_bipush (v := (8 : Int32)) hx hb dX12_begin_13 (by decide) ?_
    obtain ⟨r10, h11, hf⟩ := bd_some hf
    refine s_callSi (As := [.int a1, .int (1 : Int32), .int (8 : Int32)]) (rest := [.ref (ad 0)]) F I (cM_within G E Dd a1 (1 : Int32) (8 : Int32) r10 h11) kX12_95 ⟨rfl, rfl⟩ ⟨Nat.le_trans (Nat.le_of_ble_eq_true rfl) hRf, Nat.le_trans (Nat.le_of_ble_eq_true rfl) hRl⟩ rfl rfl hl.1 (Nat.le_of_ble_eq_true rfl) ⟨Nat.zero_le _, Nat.zero_le _⟩ dX12_begin_15 ?_
    intro H locs I
    refine lv_if_eq (tgt := 25) hx hb dX12_begin_18 (by decide) (fun c12 => ?_) (fun c12 => ?_)
    · replace hf := (if_pos c12).symm.trans hf
      refine lv_iconst (v := (1 : Int32)) hx hb dX12_begin_25 (by decide) ?_
      cases hf
      exact J3 H locs I ls (lv_sub hl [0, 1, 2] rfl)
    · replace hf := (if_neg c12).symm.trans hf
      refine lv_iconst (v := (0 : Int32)) hx hb dX12_begin_21 (by decide) ?_
      refine lv_goto (tgt := 26) hx hb dX12_begin_22 (by decide) ?_
      cases hf
      exact J3 H locs I ls (lv_sub hl [0, 1, 2] rfl)
def M_setWeight (G : Nat → Nat → Int32) (a0 : Int32) (a1 : Int32) : Option (Int32 × (Nat → Nat → Int32)) :=
bd (M_isListener G a0) fun r1 =>
bd (if r1 = 0 then
(some (1 : Int32))
else
(bd (M_within a1 (0 : Int32) (9 : Int32)) fun r12 =>
if r12 = 0 then
(some (2 : Int32))
else
(some (0 : Int32)))) fun x4 =>
nm (wf G 0 x4) fun G5 =>
if G5 0 0 ≤ 0 then
(ri 8 a0 <|
nm (G5 3 a0.toNatClampNeg : Int32) fun x7 =>
ri 8 a0 <|
nm (wr G5 3 a0 a1) fun G9 =>
some (x7, G9))
else
(some ((0 : Int32), G5))
set_option maxRecDepth 100000 in
set_option maxHeartbeats 4000000 in
theorem cM_setWeight (G : Nat → Nat → Int32) (E : Nat → Nat → Int64) (Dd : Nat → Nat → UInt64) (a0 : Int32) (a1 : Int32) (rv : Int32) (newG : Nat → Nat → Int32) (hf : M_setWeight G a0 a1 = some (rv, newG)) : sMi D (mT cI cJ cD) (mW ad cI cJ cD) l yX12_setWeight (ws1 yX12_setWeight cX12_setWeight 4 (some .int)) ({ frames := 2, cells := 0, slots := 0, locals := 43 }) [.ref (ad 0), .int a0, .int a1] (G, E, Dd) (rv, (newG, E, Dd)) := by
  unfold M_setWeight at hf
  refine sMi_of (by decide) (Nat.le_of_ble_eq_true rfl) ?_
  intro p e R s m args below meth c A Q ls H locs F hRf hRl I hl ret
  obtain ⟨hx, hb, hml, hown, hG⟩ := id F
  replace hl : lv_has ls 4 [(0, .ref (ad 0)), (1, .int a0), (2, .int a1)] := hl
  refine lv_aload_n hx hb dX12_setWeight_0 rfl (lv_at hl 0 rfl) ?_
  refine lv_aload_n hx hb dX12_setWeight_1 rfl (lv_at hl 0 rfl) ?_
  refine lv_iload_n hx hb dX12_setWeight_2 rfl (lv_at hl 1 rfl) ?_
  obtain ⟨r1, h2, hf⟩ := bd_some hf
  refine s_callVi (As := [.int a0]) (rest := [.ref (ad 0)]) F I (cM_isListener G E Dd a0 r1 h2) kX12_114 ⟨rfl, rfl⟩ ⟨Nat.le_trans (Nat.le_of_ble_eq_true rfl) hRf, Nat.le_trans (Nat.le_of_ble_eq_true rfl) hRl⟩ 0 12 rfl rfl rfl rfl rfl hl.1 (Nat.le_of_ble_eq_true rfl) ⟨Nat.zero_le _, Nat.zero_le _⟩ dX12_setWeight_3 ?_
  intro H locs I
  obtain ⟨x4, hv11, hf⟩ := bd_some hf
  have J3 : ∀ (H : Heap) (locs : List Loc), sInv D (mT cI cJ cD) (mW ad cI cJ cD) A s H locs (G, E, Dd) → ∀ (ls : Array Slot), lv_has ls 4 [(0, .ref (ad 0)), (1, .int a0), (2, .int a1)] → W p l e R s m args below meth c H locs 0 0 Q (F0 m 28 ls [.int x4, .ref (ad 0)]) := by
    intro H locs I ls hl
    refine mptX12_89_0 F I dX12_setWeight_28 ?_
    intro H locs G5 eG5 I
    replace hf := nm_some eG5 hf
    refine lv_aload_n hx hb dX12_setWeight_31 rfl (lv_at hl 0 rfl) ?_
    refine mgtX12_89_0 F I dX12_setWeight_32 ?_
    refine lv_if_le (tgt := 40) hx hb dX12_setWeight_35 (by decide) (fun c10 => ?_) (fun c10 => ?_)
    · replace hf := (if_pos c10).symm.trans hf
      refine lv_aload_n hx hb dX12_setWeight_40 rfl (lv_at hl 0 rfl) ?_
      refine mgtX12_7_0 F I dX12_setWeight_41 ?_
      refine lv_iload_n hx hb dX12_setWeight_44 rfl (lv_at hl 1 rfl) ?_
      obtain ⟨g6, hf⟩ := ri_some hf
      refine mal1 F I g6 dX12_setWeight_45 ?_
      refine lv_topi (fun x7 ex7 => ?_)
      replace hf := nm_some ex7 hf
      refine lv_istore_n (lv' := [(3, .int x7), (0, .ref (ad 0)), (1, .int a0), (2, .int a1)]) hx hb dX12_setWeight_46 rfl hl (by decide) rfl (fun ls hl => ?_)
      refine lv_aload_n hx hb dX12_setWeight_47 rfl (lv_at hl 1 rfl) ?_
      refine mgtX12_7_0 F I dX12_setWeight_48 ?_
      refine lv_iload_n hx hb dX12_setWeight_51 rfl (lv_at hl 2 rfl) ?_
      refine lv_iload_n hx hb dX12_setWeight_52 rfl (lv_at hl 3 rfl) ?_
      obtain ⟨g8, hf⟩ := ri_some hf
      refine mas1 F I g8 dX12_setWeight_53 ?_
      intro H locs G9 eG9 I
      replace hf := nm_some eG9 hf
      refine lv_iload_n hx hb dX12_setWeight_54 rfl (lv_at hl 0 rfl) ?_
      cases hf
      exact ret H locs _ ls I dX12_setWeight_55
    · replace hf := (if_neg c10).symm.trans hf
      refine lv_iconst (v := (0 : Int32)) hx hb dX12_setWeight_38 (by decide) ?_
      cases hf
      exact ret H locs _ ls I dX12_setWeight_39
  replace hf := hv11
  refine lv_if_ne (tgt := 13) hx hb dX12_setWeight_6 (by decide) (fun c15 => ?_) (fun c15 => ?_)
  · replace hf := (if_neg c15).symm.trans hf
    refine lv_iload_n hx hb dX12_setWeight_13 rfl (lv_at hl 2 rfl) ?_
    refine lv_iconst (v := (0 : Int32)) hx hb dX12_setWeight_14 (by decide) ?_
    refine lv_bipush (v := (9 : Int32)) hx hb dX12_setWeight_15 (by decide) ?_
    obtain ⟨r12, h13, hf⟩ := bd_some hf
    refine s_callSi (As := [.int a1, .int (0 : Int32), .int (9 : Int32)]) (rest := [.ref (ad 0)]) F I (cM_within G E Dd a1 (0 : Int32) (9 : Int32) r12 h13) kX12_95 ⟨rfl, rfl⟩ ⟨Nat.le_trans (Nat.le_of_ble_eq_true rfl) hRf, Nat.le_trans (Nat.le_of_ble_eq_true rfl) hRl⟩ rfl rfl hl.1 (Nat.le_of_ble_eq_true rfl) ⟨Nat.zero_le _, Nat.zero_le _⟩ dX12_setWeight_17 ?_
    intro H locs I
    refine lv_if_eq (tgt := 27) hx hb dX12_setWeight_20 (by decide) (fun c14 => ?_) (fun c14 => ?_)
    · replace hf := (if_pos c14).symm.trans hf
      refine lv_iconst (v := (2 : Int32)) hx hb dX12_setWeight_27 (by decide) ?_
      cases hf
      exact J3 H locs I ls (lv_sub hl [0, 1, 2] rfl)
    · replace hf := (if_neg c14).symm.trans hf
      refine lv_iconst (v := (0 : Int32)) hx hb dX12_setWeight_23 (by decide) ?_
      refine lv_goto (tgt := 28) hx hb dX12_setWeight_24 (by decide) ?_
      cases hf
      exact J3 H locs I ls (lv_sub hl [0, 1, 2] rfl)
  · replace hf := (if_pos c15).symm.trans hf
    refine lv_iconst (v := (1 : Int32)) hx hb dX12_setWeight_9 (by decide) ?_
    refine lv_goto (tgt := 28) hx hb dX12_setWeight_10 (by decide) ?_
    cases hf
    exact J3 H locs I ls (lv_sub hl [0, 1, 2] rfl)
def M_draw (E : Nat → Nat → Int64) (a0 : Int32) : Option (Int32 × (Nat → Nat → Int64)) :=
nm (wf E 22 ((((1103515245 : Int64) * (E 22 0)) + (12345 : Int64)) - (((1103515245 : Int64) * (E 22 0)) + (12345 : Int64)) / (2147483648 : Int64) * (2147483648 : Int64))) fun E1 =>
gd (¬ a0.toInt64 = 0) <|
some ((((E1 22 0) / (65536 : Int64)) - ((E1 22 0) / (65536 : Int64)) / a0.toInt64 * a0.toInt64).toInt32, E1)
set_option maxRecDepth 100000 in
set_option maxHeartbeats 4000000 in
theorem cM_draw (G : Nat → Nat → Int32) (E : Nat → Nat → Int64) (Dd : Nat → Nat → UInt64) (a0 : Int32) (rv : Int32) (newE : Nat → Nat → Int64) (hf : M_draw E a0 = some (rv, newE)) : sMi D (mT cI cJ cD) (mW ad cI cJ cD) l yX12_draw (ws1 yX12_draw cX12_draw 2 (some .int)) ({ frames := 0, cells := 0, slots := 0, locals := 0 }) [.ref (ad 0), .int a0] (G, E, Dd) (rv, (G, newE, Dd)) := by
  unfold M_draw at hf
  refine sMi_of (by decide) (Nat.le_of_ble_eq_true rfl) ?_
  intro p e R s m args below meth c A Q ls H locs F hRf hRl I hl ret
  obtain ⟨hx, hb, hml, hown, hG⟩ := id F
  replace hl : lv_has ls 2 [(0, .ref (ad 0)), (1, .int a0)] := hl
  refine lv_aload_n hx hb dX12_draw_0 rfl (lv_at hl 0 rfl) ?_
  refine lv_ldc2 (v := (1103515245 : Int64)) hx hb hown (hG _ q1359) dX12_draw_1 ?_
  refine lv_aload_n hx hb dX12_draw_4 rfl (lv_at hl 0 rfl) ?_
  refine mgtX12_120_0 F I dX12_draw_5 ?_
  refine lv_lmul hx hb dX12_draw_8 ?_
  refine lv_ldc2 (v := (12345 : Int64)) hx hb hown (hG _ q1360) dX12_draw_9 ?_
  refine lv_ladd hx hb dX12_draw_12 ?_
  refine lv_ldc2 (v := (2147483648 : Int64)) hx hb hown (hG _ q1361) dX12_draw_13 ?_
  refine lv_lrem hx hb dX12_draw_16 (by decide) ?_
  refine mptX12_120_0 F I dX12_draw_17 ?_
  intro H locs E1 eE1 I
  replace hf := nm_some eE1 hf
  refine lv_aload_n hx hb dX12_draw_20 rfl (lv_at hl 0 rfl) ?_
  refine mgtX12_120_0 F I dX12_draw_21 ?_
  refine lv_ldc2 (v := (65536 : Int64)) hx hb hown (hG _ q1362) dX12_draw_24 ?_
  refine lv_ldiv hx hb dX12_draw_27 (by decide) ?_
  refine lv_iload_n hx hb dX12_draw_28 rfl (lv_at hl 1 rfl) ?_
  refine lv_i2l hx hb dX12_draw_29 rfl ?_
  obtain ⟨g2, hf⟩ := gd_some hf
  refine lv_lrem hx hb dX12_draw_30 g2 ?_
  refine lv_l2i hx hb dX12_draw_31 rfl ?_
  cases hf
  exact ret H locs _ ls I dX12_draw_32
def M_listTrials_s3 (x5 : Int32) (x10 : Int32) (G11 : Nat → Nat → Int32) : Option ((Int32 × (Nat → Nat → Int32)) ⊕ ((Nat → Nat → Int32))) :=
if G11 1 0 ≤ x10 then
(some (.inr G11))
else
(ri 56 (G11 10 0) <|
nm (wr G11 12 (G11 10 0) (((10 : Int32) * x5) + x10)) fun G15 =>
nm (wf G15 10 ((G15 10 0) + (1 : Int32))) fun G16 =>
nm (x10 + (1 : Int32) : Int32) fun x17 =>
some (.inl (x17, G16)))
def M_listTrials_s2  (x5 : Int32) (G6 : Nat → Nat → Int32) : Option ((Int32 × (Nat → Nat → Int32)) ⊕ ((Nat → Nat → Int32))) :=
if G6 1 0 ≤ x5 then
(some (.inr G6))
else
(nm (x5 + (1 : Int32) : Int32) fun x9 =>
bd (lp (fun q => M_listTrials_s3 x5 q.1 q.2) FU (x9, G6)) fun G12 =>
nm (x5 + (1 : Int32) : Int32) fun x13 =>
some (.inl (x13, G12)))
def M_listTrials_s1 (a0 : Int32) (x2 : Int32) (G3 : Nat → Nat → Int32) : Option ((Int32 × (Nat → Nat → Int32)) ⊕ ((Nat → Nat → Int32))) :=
if a0 ≤ x2 then
(some (.inr G3))
else
(bd (lp (fun q => M_listTrials_s2 q.1 q.2) FU ((0 : Int32), G3)) fun G7 =>
nm (x2 + (1 : Int32) : Int32) fun x8 =>
some (.inl (x8, G7)))
def M_listTrials (G : Nat → Nat → Int32) (a0 : Int32) : Option ((Nat → Nat → Int32)) :=
nm (wf G 10 (0 : Int32)) fun G1 =>
bd (lp (fun q => M_listTrials_s1 a0 q.1 q.2) FU ((0 : Int32), G1)) fun G4 =>
some G4
set_option maxRecDepth 100000 in
set_option maxHeartbeats 4000000 in
theorem cM_listTrials (G : Nat → Nat → Int32) (E : Nat → Nat → Int64) (Dd : Nat → Nat → UInt64) (a0 : Int32)  (newG : Nat → Nat → Int32) (hf : M_listTrials G a0 = some newG) : sMv D (mT cI cJ cD) (mW ad cI cJ cD) l yX12_listTrials (ws1 yX12_listTrials cX12_listTrials 5 none) ({ frames := 0, cells := 0, slots := 0, locals := 0 }) [.ref (ad 0), .int a0] (G, E, Dd) (newG, E, Dd) := by
  unfold M_listTrials at hf
  refine sMv_of (by decide) (Nat.le_of_ble_eq_true rfl) ?_
  intro p e R s m args below meth c A Q ls H locs F hRf hRl I hl ret
  obtain ⟨hx, hb, hml, hown, hG⟩ := id F
  replace hl : lv_has ls 5 [(0, .ref (ad 0)), (1, .int a0)] := hl
  refine lv_aload_n hx hb dX12_listTrials_0 rfl (lv_at hl 0 rfl) ?_
  refine lv_iconst (v := (0 : Int32)) hx hb dX12_listTrials_1 (by decide) ?_
  refine mptX12_105_0 F I dX12_listTrials_2 ?_
  intro H locs G1 eG1 I
  replace hf := nm_some eG1 hf
  refine lv_iconst (v := (0 : Int32)) hx hb dX12_listTrials_5 (by decide) ?_
  refine lv_istore_n (lv' := [(2, .int (0 : Int32)), (0, .ref (ad 0)), (1, .int a0)]) hx hb dX12_listTrials_6 rfl hl (by decide) rfl (fun ls hl => ?_)
  obtain ⟨G4, hq1, hf⟩ := bd_some hf
  have K1 : ∀ (H : Heap) (locs : List Loc), sInv D (mT cI cJ cD) (mW ad cI cJ cD) A s H locs (G4, E, Dd) → ∀ (ls : Array Slot), lv_has ls 5 [] → W p l e R s m args below meth c H locs 0 0 Q (F0 m 80 ls []) := by
    intro H locs I ls hl
    cases hf
    exact ret H locs _ ls I dX12_listTrials_80
  have L1 : ∀ (n : Nat) (x2 : Int32) (G3 : Nat → Nat → Int32), lp (fun q => M_listTrials_s1 a0 q.1 q.2) n (x2, G3) = some G4 → ∀ (H : Heap) (locs : List Loc), sInv D (mT cI cJ cD) (mW ad cI cJ cD) A s H locs (G3, E, Dd) → ∀ (ls : Array Slot), lv_has ls 5 [(0, .ref (ad 0)), (1, .int a0), (2, .int x2)] → W p l e R s m args below meth c H locs 0 0 Q (F0 m 7 ls []) := by
    intro n
    induction n with
    | zero => intro x2 G3 hq; exact (lp_0 hq).elim
    | succ n ih1 =>
      intro x2 G3 hq H locs I ls hl
      obtain ⟨y1, hf, hK1⟩ := lp_go hq
      replace hf : M_listTrials_s1 a0 x2 G3 = some y1 := hf
      unfold M_listTrials_s1 at hf
      refine lv_iload_n hx hb dX12_listTrials_7 rfl (lv_at hl 2 rfl) ?_
      refine lv_iload_n hx hb dX12_listTrials_8 rfl (lv_at hl 1 rfl) ?_
      refine lv_icmp_ge (tgt := 80) hx hb dX12_listTrials_9 (by decide) (fun c20 => ?_) (fun c20 => ?_)
      · replace hf := (if_pos c20).symm.trans hf
        cases hf
        cases (show G3 = G4 from hK1)
        exact K1 H locs I ls (lv_sub hl [] rfl)
      · replace hf := (if_neg c20).symm.trans hf
        refine lv_iconst (v := (0 : Int32)) hx hb dX12_listTrials_12 (by decide) ?_
        refine lv_istore_n (lv' := [(3, .int (0 : Int32)), (0, .ref (ad 0)), (1, .int a0), (2, .int x2)]) hx hb dX12_listTrials_13 rfl hl (by decide) rfl (fun ls hl => ?_)
        obtain ⟨G7, hq2, hf⟩ := bd_some hf
        have K2 : ∀ (H : Heap) (locs : List Loc), sInv D (mT cI cJ cD) (mW ad cI cJ cD) A s H locs (G7, E, Dd) → ∀ (ls : Array Slot), lv_has ls 5 [(0, .ref (ad 0)), (1, .int a0), (2, .int x2)] → W p l e R s m args below meth c H locs 0 0 Q (F0 m 74 ls []) := by
          intro H locs I ls hl
          obtain ⟨x8, ex8⟩ : ∃ y : Int32, y = x2 + (1 : Int32) := ⟨_, rfl⟩
          replace hf := nm_some ex8 hf
          refine lv_iinc (v := x8) (lv' := [(2, .int x8), (0, .ref (ad 0)), (1, .int a0)]) hx hb dX12_listTrials_74 hl (k := 2) rfl (by rw [ex8]; rfl) (by decide) rfl (fun ls hl => ?_)
          refine lv_goto (tgt := 7) hx hb dX12_listTrials_77 (by decide) ?_
          cases hf
          exact ih1 _ _ hK1 H locs I ls (lv_sub hl [1, 2, 0] rfl)
        have L2 : ∀ (n : Nat) (x5 : Int32) (G6 : Nat → Nat → Int32), lp (fun q => M_listTrials_s2 q.1 q.2) n (x5, G6) = some G7 → ∀ (H : Heap) (locs : List Loc), sInv D (mT cI cJ cD) (mW ad cI cJ cD) A s H locs (G6, E, Dd) → ∀ (ls : Array Slot), lv_has ls 5 [(0, .ref (ad 0)), (1, .int a0), (2, .int x2), (3, .int x5)] → W p l e R s m args below meth c H locs 0 0 Q (F0 m 14 ls []) := by
          intro n
          induction n with
          | zero => intro x5 G6 hq; exact (lp_0 hq).elim
          | succ n ih2 =>
            intro x5 G6 hq H locs I ls hl
            obtain ⟨y2, hf, hK2⟩ := lp_go hq
            replace hf : M_listTrials_s2 x5 G6 = some y2 := hf
            unfold M_listTrials_s2 at hf
            refine lv_iload_n hx hb dX12_listTrials_14 rfl (lv_at hl 3 rfl) ?_
            refine lv_aload_n hx hb dX12_listTrials_15 rfl (lv_at hl 0 rfl) ?_
            refine mgtX12_92_0 F I dX12_listTrials_16 ?_
            refine lv_icmp_ge (tgt := 74) hx hb dX12_listTrials_19 (by decide) (fun c19 => ?_) (fun c19 => ?_)
            · replace hf := (if_pos c19).symm.trans hf
              cases hf
              cases (show G6 = G7 from hK2)
              exact K2 H locs I ls (lv_sub hl [0, 1, 2] rfl)
            · replace hf := (if_neg c19).symm.trans hf
              refine lv_iload_n hx hb dX12_listTrials_22 rfl (lv_at hl 3 rfl) ?_
              refine lv_iconst (v := (1 : Int32)) hx hb dX12_listTrials_23 (by decide) ?_
              refine lv_iadd hx hb dX12_listTrials_24 ?_
              refine lv_topi (fun x9 ex9 => ?_)
              replace hf := nm_some ex9 hf
              refine lv_istore (lv' := [(4, .int x9), (0, .ref (ad 0)), (1, .int a0), (2, .int x2), (3, .int x5)]) hx hb dX12_listTrials_25 hl (by decide) rfl (fun ls hl => ?_)
              obtain ⟨G12, hq3, hf⟩ := bd_some hf
              have K3 : ∀ (H : Heap) (locs : List Loc), sInv D (mT cI cJ cD) (mW ad cI cJ cD) A s H locs (G12, E, Dd) → ∀ (ls : Array Slot), lv_has ls 5 [(0, .ref (ad 0)), (1, .int a0), (2, .int x2), (3, .int x5)] → W p l e R s m args below meth c H locs 0 0 Q (F0 m 68 ls []) := by
                intro H locs I ls hl
                obtain ⟨x13, ex13⟩ : ∃ y : Int32, y = x5 + (1 : Int32) := ⟨_, rfl⟩
                replace hf := nm_some ex13 hf
                refine lv_iinc (v := x13) (lv' := [(3, .int x13), (0, .ref (ad 0)), (1, .int a0), (2, .int x2)]) hx hb dX12_listTrials_68 hl (k := 3) rfl (by rw [ex13]; rfl) (by decide) rfl (fun ls hl => ?_)
                refine lv_goto (tgt := 14) hx hb dX12_listTrials_71 (by decide) ?_
                cases hf
                exact ih2 _ _ hK2 H locs I ls (lv_sub hl [1, 2, 3, 0] rfl)
              have L3 : ∀ (n : Nat) (x10 : Int32) (G11 : Nat → Nat → Int32), lp (fun q => M_listTrials_s3 x5 q.1 q.2) n (x10, G11) = some G12 → ∀ (H : Heap) (locs : List Loc), sInv D (mT cI cJ cD) (mW ad cI cJ cD) A s H locs (G11, E, Dd) → ∀ (ls : Array Slot), lv_has ls 5 [(0, .ref (ad 0)), (1, .int a0), (2, .int x2), (3, .int x5), (4, .int x10)] → W p l e R s m args below meth c H locs 0 0 Q (F0 m 27 ls []) := by
                intro n
                induction n with
                | zero => intro x10 G11 hq; exact (lp_0 hq).elim
                | succ n ih3 =>
                  intro x10 G11 hq H locs I ls hl
                  obtain ⟨y3, hf, hK3⟩ := lp_go hq
                  replace hf : M_listTrials_s3 x5 x10 G11 = some y3 := hf
                  unfold M_listTrials_s3 at hf
                  refine lv_iload hx hb dX12_listTrials_27 (lv_at hl 4 rfl) ?_
                  refine lv_aload_n hx hb dX12_listTrials_29 rfl (lv_at hl 0 rfl) ?_
                  refine mgtX12_92_0 F I dX12_listTrials_30 ?_
                  refine lv_icmp_ge (tgt := 68) hx hb dX12_listTrials_33 (by decide) (fun c18 => ?_) (fun c18 => ?_)
                  · replace hf := (if_pos c18).symm.trans hf
                    cases hf
                    cases (show G11 = G12 from hK3)
                    exact K3 H locs I ls (lv_sub hl [0, 1, 2, 3] rfl)
                  · replace hf := (if_neg c18).symm.trans hf
                    refine lv_aload_n hx hb dX12_listTrials_36 rfl (lv_at hl 0 rfl) ?_
                    refine mgtX12_29_0 F I dX12_listTrials_37 ?_
                    refine lv_aload_n hx hb dX12_listTrials_40 rfl (lv_at hl 0 rfl) ?_
                    refine mgtX12_105_0 F I dX12_listTrials_41 ?_
                    refine lv_bipush (v := (10 : Int32)) hx hb dX12_listTrials_44 (by decide) ?_
                    refine lv_iload_n hx hb dX12_listTrials_46 rfl (lv_at hl 3 rfl) ?_
                    refine lv_imul hx hb dX12_listTrials_47 ?_
                    refine lv_iload hx hb dX12_listTrials_48 (lv_at hl 4 rfl) ?_
                    refine lv_iadd hx hb dX12_listTrials_50 ?_
                    obtain ⟨g14, hf⟩ := ri_some hf
                    refine mas6 F I g14 dX12_listTrials_51 ?_
                    intro H locs G15 eG15 I
                    replace hf := nm_some eG15 hf
                    refine lv_aload_n hx hb dX12_listTrials_52 rfl (lv_at hl 0 rfl) ?_
                    refine lv_dup hx hb dX12_listTrials_53 rfl ?_
                    refine mgtX12_105_0 F I dX12_listTrials_54 ?_
                    refine lv_iconst (v := (1 : Int32)) hx hb dX12_listTrials_57 (by decide) ?_
                    refine lv_iadd hx hb dX12_listTrials_58 ?_
                    refine mptX12_105_0 F I dX12_listTrials_59 ?_
                    intro H locs G16 eG16 I
                    replace hf := nm_some eG16 hf
                    obtain ⟨x17, ex17⟩ : ∃ y : Int32, y = x10 + (1 : Int32) := ⟨_, rfl⟩
                    replace hf := nm_some ex17 hf
                    refine lv_iinc (v := x17) (lv' := [(4, .int x17), (0, .ref (ad 0)), (1, .int a0), (2, .int x2), (3, .int x5)]) hx hb dX12_listTrials_62 hl (k := 4) rfl (by rw [ex17]; rfl) (by decide) rfl (fun ls hl => ?_)
                    refine lv_goto (tgt := 27) hx hb dX12_listTrials_65 (by decide) ?_
                    cases hf
                    exact ih3 _ _ hK3 H locs I ls (lv_sub hl [1, 2, 3, 4, 0] rfl)
              exact L3 FU _ _ hq3 H locs I ls (lv_sub hl [1, 2, 3, 4, 0] rfl)
        exact L2 FU _ _ hq2 H locs I ls (lv_sub hl [1, 2, 3, 0] rfl)
  exact L1 FU _ _ hq1 H locs I ls (lv_sub hl [1, 2, 0] rfl)
def M_plan_s2  (x17 : Int32) (G18 : Nat → Nat → Int32) (E19 : Nat → Nat → Int64) : Option ((Int32 × (Nat → Nat → Int32) × (Nat → Nat → Int64)) ⊕ ((Nat → Nat → Int32) × (Nat → Nat → Int64))) :=
if x17 ≤ 0 then
(some (.inr (G18, E19)))
else
(bd2 (M_draw E19 (x17 + (1 : Int32))) fun r22 E23 =>
ri 56 x17 <|
nm (G18 12 x17.toNatClampNeg : Int32) fun x26 =>
ri 56 r22 <|
ri 56 x17 <|
nm (wr G18 12 x17 (G18 12 r22.toNatClampNeg)) fun G29 =>
ri 56 r22 <|
nm (wr G29 12 r22 x26) fun G31 =>
nm (x17 + (-1 : Int32) : Int32) fun x32 =>
some (.inl (x32, G31, E23)))
def M_plan_s1  (x11 : Int32) (G12 : Nat → Nat → Int32) (E13 : Nat → Nat → Int64) : Option ((Int32 × (Nat → Nat → Int32) × (Nat → Nat → Int64)) ⊕ ((Nat → Nat → Int32) × (Nat → Nat → Int64))) :=
if G12 10 0 ≤ x11 then
(some (.inr (G12, E13)))
else
(bd2 (M_draw E13 (2 : Int32)) fun r34 E35 =>
bd (if r34 = (1 : Int32) then
(ri 56 x11 <|
ri 56 x11 <|
some (((10 : Int32) * ((G12 12 x11.toNatClampNeg) - (G12 12 x11.toNatClampNeg) / (10 : Int32) * (10 : Int32))) + ((G12 12 x11.toNatClampNeg) / (10 : Int32))))
else
(ri 56 x11 <|
some (G12 12 x11.toNatClampNeg))) fun x38 =>
ri 56 x11 <|
nm (wr G12 12 x11 x38) fun G40 =>
nm (x11 + (1 : Int32) : Int32) fun x41 =>
some (.inl (x41, G40, E35)))
def M_plan (G : Nat → Nat → Int32) (E : Nat → Nat → Int64) (a0 : Int32) (a1 : Int32) (a2 : Int32) : Option (Int32 × (Nat → Nat → Int32) × (Nat → Nat → Int64)) :=
bd (M_isListener G a0) fun r1 =>
bd (if r1 = 0 then
(some (1 : Int32))
else
(bd (M_within a1 (1 : Int32) (2 : Int32)) fun r50 =>
if r50 = 0 then
(some (2 : Int32))
else
(if a2 < 0 then
(some (2 : Int32))
else
(some (0 : Int32))))) fun x4 =>
nm (wf G 0 x4) fun G5 =>
if G5 0 0 ≤ 0 then
(nm (wf G5 9 a0) fun G6 =>
nm (wf G6 11 (0 : Int32)) fun G7 =>
nm (wf E 22 a2.toInt64) fun E8 =>
bd (M_listTrials G7 a1) fun G9 =>
bd2 (lp (fun q => M_plan_s1 q.1 q.2.1 q.2.2) FU ((0 : Int32), G9, E8)) fun G14 E15 =>
nm ((G14 10 0) - (1 : Int32) : Int32) fun x16 =>
bd2 (lp (fun q => M_plan_s2 q.1 q.2.1 q.2.2) FU (x16, G14, E15)) fun G20 E21 =>
some (G20 10 0, G20, E21))
else
(some ((0 : Int32), G5, E))
set_option maxRecDepth 100000 in
set_option maxHeartbeats 4000000 in
theorem cM_plan (G : Nat → Nat → Int32) (E : Nat → Nat → Int64) (Dd : Nat → Nat → UInt64) (a0 : Int32) (a1 : Int32) (a2 : Int32) (rv : Int32) (newG : Nat → Nat → Int32) (newE : Nat → Nat → Int64) (hf : M_plan G E a0 a1 a2 = some (rv, newG, newE)) : sMi D (mT cI cJ cD) (mW ad cI cJ cD) l yX12_plan (ws1 yX12_plan cX12_plan 7 (some .int)) ({ frames := 2, cells := 0, slots := 0, locals := 43 }) [.ref (ad 0), .int a0, .int a1, .int a2] (G, E, Dd) (rv, (newG, newE, Dd)) := by
  unfold M_plan at hf
  refine sMi_of (by decide) (Nat.le_of_ble_eq_true rfl) ?_
  intro p e R s m args below meth c A Q ls H locs F hRf hRl I hl ret
  obtain ⟨hx, hb, hml, hown, hG⟩ := id F
  replace hl : lv_has ls 7 [(0, .ref (ad 0)), (1, .int a0), (2, .int a1), (3, .int a2)] := hl
  refine lv_aload_n hx hb dX12_plan_0 rfl (lv_at hl 0 rfl) ?_
  refine lv_aload_n hx hb dX12_plan_1 rfl (lv_at hl 0 rfl) ?_
  refine lv_iload_n hx hb dX12_plan_2 rfl (lv_at hl 1 rfl) ?_
  obtain ⟨r1, h2, hf⟩ := bd_some hf
  refine s_callVi (As := [.int a0]) (rest := [.ref (ad 0)]) F I (cM_isListener G E Dd a0 r1 h2) kX12_114 ⟨rfl, rfl⟩ ⟨Nat.le_trans (Nat.le_of_ble_eq_true rfl) hRf, Nat.le_trans (Nat.le_of_ble_eq_true rfl) hRl⟩ 0 12 rfl rfl rfl rfl rfl hl.1 (Nat.le_of_ble_eq_true rfl) ⟨Nat.zero_le _, Nat.zero_le _⟩ dX12_plan_3 ?_
  intro H locs I
  obtain ⟨x4, hv49, hf⟩ := bd_some hf
  have J3 : ∀ (H : Heap) (locs : List Loc), sInv D (mT cI cJ cD) (mW ad cI cJ cD) A s H locs (G, E, Dd) → ∀ (ls : Array Slot), lv_has ls 7 [(0, .ref (ad 0)), (1, .int a0), (2, .int a1), (3, .int a2)] → W p l e R s m args below meth c H locs 0 0 Q (F0 m 31 ls [.int x4, .ref (ad 0)]) := by
    intro H locs I ls hl
    refine mptX12_89_0 F I dX12_plan_31 ?_
    intro H locs G5 eG5 I
    replace hf := nm_some eG5 hf
    refine lv_aload_n hx hb dX12_plan_34 rfl (lv_at hl 0 rfl) ?_
    refine mgtX12_89_0 F I dX12_plan_35 ?_
    refine lv_if_le (tgt := 43) hx hb dX12_plan_38 (by decide) (fun c48 => ?_) (fun c48 => ?_)
    · replace hf := (if_pos c48).symm.trans hf
      refine lv_aload_n hx hb dX12_plan_43 rfl (lv_at hl 0 rfl) ?_
      refine lv_iload_n hx hb dX12_plan_44 rfl (lv_at hl 1 rfl) ?_
      refine mptX12_25_0 F I dX12_plan_45 ?_
      intro H locs G6 eG6 I
      replace hf := nm_some eG6 hf
      refine lv_aload_n hx hb dX12_plan_48 rfl (lv_at hl 0 rfl) ?_
      refine lv_iconst (v := (0 : Int32)) hx hb dX12_plan_49 (by decide) ?_
      refine mptX12_108_0 F I dX12_plan_50 ?_
      intro H locs G7 eG7 I
      replace hf := nm_some eG7 hf
      refine lv_aload_n hx hb dX12_plan_53 rfl (lv_at hl 0 rfl) ?_
      refine lv_iload_n hx hb dX12_plan_54 rfl (lv_at hl 3 rfl) ?_
      refine lv_i2l hx hb dX12_plan_55 rfl ?_
      refine mptX12_120_0 F I dX12_plan_56 ?_
      intro H locs E8 eE8 I
      replace hf := nm_some eE8 hf
      refine lv_aload_n hx hb dX12_plan_59 rfl (lv_at hl 0 rfl) ?_
      refine lv_iload_n hx hb dX12_plan_60 rfl (lv_at hl 2 rfl) ?_
      obtain ⟨G9, h10, hf⟩ := bd_some hf
      refine s_callVv (As := [.int a1]) (rest := []) F I (cM_listTrials G7 E8 Dd a1 G9 h10) kX12_130 ⟨rfl, rfl⟩ ⟨Nat.le_trans (Nat.le_of_ble_eq_true rfl) hRf, Nat.le_trans (Nat.le_of_ble_eq_true rfl) hRl⟩ 0 12 rfl rfl rfl rfl rfl hl.1 (Nat.le_of_ble_eq_true rfl) ⟨Nat.zero_le _, Nat.zero_le _⟩ dX12_plan_61 ?_
      intro H locs I
      refine lv_iconst (v := (0 : Int32)) hx hb dX12_plan_64 (by decide) ?_
      refine lv_istore (lv' := [(4, .int (0 : Int32)), (0, .ref (ad 0)), (1, .int a0), (2, .int a1), (3, .int a2)]) hx hb dX12_plan_65 hl (by decide) rfl (fun ls hl => ?_)
      obtain ⟨G14, E15, hq1, hf⟩ := bd2_some hf
      have K1 : ∀ (H : Heap) (locs : List Loc), sInv D (mT cI cJ cD) (mW ad cI cJ cD) A s H locs (G14, E15, Dd) → ∀ (ls : Array Slot), lv_has ls 7 [(0, .ref (ad 0))] → W p l e R s m args below meth c H locs 0 0 Q (F0 m 132 ls []) := by
        intro H locs I ls hl
        refine lv_aload_n hx hb dX12_plan_132 rfl (lv_at hl 0 rfl) ?_
        refine mgtX12_105_0 F I dX12_plan_133 ?_
        refine lv_iconst (v := (1 : Int32)) hx hb dX12_plan_136 (by decide) ?_
        refine lv_isub hx hb dX12_plan_137 ?_
        refine lv_topi (fun x16 ex16 => ?_)
        replace hf := nm_some ex16 hf
        refine lv_istore (lv' := [(4, .int x16), (0, .ref (ad 0))]) hx hb dX12_plan_138 hl (by decide) rfl (fun ls hl => ?_)
        obtain ⟨G20, E21, hq2, hf⟩ := bd2_some hf
        have K2 : ∀ (H : Heap) (locs : List Loc), sInv D (mT cI cJ cD) (mW ad cI cJ cD) A s H locs (G20, E21, Dd) → ∀ (ls : Array Slot), lv_has ls 7 [(0, .ref (ad 0))] → W p l e R s m args below meth c H locs 0 0 Q (F0 m 193 ls []) := by
          intro H locs I ls hl
          refine lv_aload_n hx hb dX12_plan_193 rfl (lv_at hl 0 rfl) ?_
          refine mgtX12_105_0 F I dX12_plan_194 ?_
          cases hf
          exact ret H locs _ ls I dX12_plan_197
        have L2 : ∀ (n : Nat) (x17 : Int32) (G18 : Nat → Nat → Int32) (E19 : Nat → Nat → Int64), lp (fun q => M_plan_s2 q.1 q.2.1 q.2.2) n (x17, G18, E19) = some (G20, E21) → ∀ (H : Heap) (locs : List Loc), sInv D (mT cI cJ cD) (mW ad cI cJ cD) A s H locs (G18, E19, Dd) → ∀ (ls : Array Slot), lv_has ls 7 [(0, .ref (ad 0)), (4, .int x17)] → W p l e R s m args below meth c H locs 0 0 Q (F0 m 140 ls []) := by
          intro n
          induction n with
          | zero => intro x17 G18 E19 hq; exact (lp_0 hq).elim
          | succ n ih2 =>
            intro x17 G18 E19 hq H locs I ls hl
            obtain ⟨y2, hf, hK2⟩ := lp_go hq
            replace hf : M_plan_s2 x17 G18 E19 = some y2 := hf
            unfold M_plan_s2 at hf
            refine lv_iload hx hb dX12_plan_140 (lv_at hl 1 rfl) ?_
            refine lv_if_le (tgt := 193) hx hb dX12_plan_142 (by decide) (fun c33 => ?_) (fun c33 => ?_)
            · replace hf := (if_pos c33).symm.trans hf
              cases hf
              cases (show (G18, E19) = (G20, E21) from hK2)
              exact K2 H locs I ls (lv_sub hl [0] rfl)
            · replace hf := (if_neg c33).symm.trans hf
              refine lv_aload_n hx hb dX12_plan_145 rfl (lv_at hl 0 rfl) ?_
              refine lv_iload hx hb dX12_plan_146 (lv_at hl 1 rfl) ?_
              refine lv_iconst (v := (1 : Int32)) hx hb dX12_plan_148 (by decide) ?_
              refine lv_iadd hx hb dX12_plan_149 ?_
              obtain ⟨r22, E23, h24, hf⟩ := bd2_some hf
              refine s_callVi (As := [.int (x17 + (1 : Int32))]) (rest := []) F I (cM_draw G18 E19 Dd (x17 + (1 : Int32)) r22 E23 h24) kX12_134 ⟨rfl, rfl⟩ ⟨Nat.le_trans (Nat.le_of_ble_eq_true rfl) hRf, Nat.le_trans (Nat.le_of_ble_eq_true rfl) hRl⟩ 0 12 rfl rfl rfl rfl rfl hl.1 (Nat.le_of_ble_eq_true rfl) ⟨Nat.zero_le _, Nat.zero_le _⟩ dX12_plan_150 ?_
              intro H locs I
              refine lv_istore (lv' := [(5, .int r22), (0, .ref (ad 0)), (4, .int x17)]) hx hb dX12_plan_153 hl (by decide) rfl (fun ls hl => ?_)
              refine lv_aload_n hx hb dX12_plan_155 rfl (lv_at hl 1 rfl) ?_
              refine mgtX12_29_0 F I dX12_plan_156 ?_
              refine lv_iload hx hb dX12_plan_159 (lv_at hl 2 rfl) ?_
              obtain ⟨g25, hf⟩ := ri_some hf
              refine mal6 F I g25 dX12_plan_161 ?_
              refine lv_topi (fun x26 ex26 => ?_)
              replace hf := nm_some ex26 hf
              refine lv_istore (lv' := [(6, .int x26), (5, .int r22), (0, .ref (ad 0)), (4, .int x17)]) hx hb dX12_plan_162 hl (by decide) rfl (fun ls hl => ?_)
              refine lv_aload_n hx hb dX12_plan_164 rfl (lv_at hl 2 rfl) ?_
              refine mgtX12_29_0 F I dX12_plan_165 ?_
              refine lv_iload hx hb dX12_plan_168 (lv_at hl 3 rfl) ?_
              refine lv_aload_n hx hb dX12_plan_170 rfl (lv_at hl 2 rfl) ?_
              refine mgtX12_29_0 F I dX12_plan_171 ?_
              refine lv_iload hx hb dX12_plan_174 (lv_at hl 1 rfl) ?_
              obtain ⟨g27, hf⟩ := ri_some hf
              refine mal6 F I g27 dX12_plan_176 ?_
              obtain ⟨g28, hf⟩ := ri_some hf
              refine mas6 F I g28 dX12_plan_177 ?_
              intro H locs G29 eG29 I
              replace hf := nm_some eG29 hf
              refine lv_aload_n hx hb dX12_plan_178 rfl (lv_at hl 2 rfl) ?_
              refine mgtX12_29_0 F I dX12_plan_179 ?_
              refine lv_iload hx hb dX12_plan_182 (lv_at hl 1 rfl) ?_
              refine lv_iload hx hb dX12_plan_184 (lv_at hl 0 rfl) ?_
              obtain ⟨g30, hf⟩ := ri_some hf
              refine mas6 F I g30 dX12_plan_186 ?_
              intro H locs G31 eG31 I
              replace hf := nm_some eG31 hf
              obtain ⟨x32, ex32⟩ : ∃ y : Int32, y = x17 + (-1 : Int32) := ⟨_, rfl⟩
              replace hf := nm_some ex32 hf
              refine lv_iinc (v := x32) (lv' := [(4, .int x32), (6, .int x26), (5, .int r22), (0, .ref (ad 0))]) hx hb dX12_plan_187 hl (k := 3) rfl (by rw [ex32]; rfl) (by decide) rfl (fun ls hl => ?_)
              refine lv_goto (tgt := 140) hx hb dX12_plan_190 (by decide) ?_
              cases hf
              exact ih2 _ _ _ hK2 H locs I ls (lv_sub hl [3, 0] rfl)
        exact L2 FU _ _ _ hq2 H locs I ls (lv_sub hl [1, 0] rfl)
      have L1 : ∀ (n : Nat) (x11 : Int32) (G12 : Nat → Nat → Int32) (E13 : Nat → Nat → Int64), lp (fun q => M_plan_s1 q.1 q.2.1 q.2.2) n (x11, G12, E13) = some (G14, E15) → ∀ (H : Heap) (locs : List Loc), sInv D (mT cI cJ cD) (mW ad cI cJ cD) A s H locs (G12, E13, Dd) → ∀ (ls : Array Slot), lv_has ls 7 [(0, .ref (ad 0)), (4, .int x11)] → W p l e R s m args below meth c H locs 0 0 Q (F0 m 67 ls []) := by
        intro n
        induction n with
        | zero => intro x11 G12 E13 hq; exact (lp_0 hq).elim
        | succ n ih1 =>
          intro x11 G12 E13 hq H locs I ls hl
          obtain ⟨y1, hf, hK1⟩ := lp_go hq
          replace hf : M_plan_s1 x11 G12 E13 = some y1 := hf
          unfold M_plan_s1 at hf
          refine lv_iload hx hb dX12_plan_67 (lv_at hl 1 rfl) ?_
          refine lv_aload_n hx hb dX12_plan_69 rfl (lv_at hl 0 rfl) ?_
          refine mgtX12_105_0 F I dX12_plan_70 ?_
          refine lv_icmp_ge (tgt := 132) hx hb dX12_plan_73 (by decide) (fun c47 => ?_) (fun c47 => ?_)
          · replace hf := (if_pos c47).symm.trans hf
            cases hf
            cases (show (G12, E13) = (G14, E15) from hK1)
            exact K1 H locs I ls (lv_sub hl [0] rfl)
          · replace hf := (if_neg c47).symm.trans hf
            refine lv_aload_n hx hb dX12_plan_76 rfl (lv_at hl 0 rfl) ?_
            refine mgtX12_29_0 F I dX12_plan_77 ?_
            refine lv_iload hx hb dX12_plan_80 (lv_at hl 1 rfl) ?_
            refine lv_aload_n hx hb dX12_plan_82 rfl (lv_at hl 0 rfl) ?_
            refine lv_iconst (v := (2 : Int32)) hx hb dX12_plan_83 (by decide) ?_
            obtain ⟨r34, E35, h36, hf⟩ := bd2_some hf
            refine s_callVi (As := [.int (2 : Int32)]) (rest := [.int x11, .ref (ad 6)]) F I (cM_draw G12 E13 Dd (2 : Int32) r34 E35 h36) kX12_134 ⟨rfl, rfl⟩ ⟨Nat.le_trans (Nat.le_of_ble_eq_true rfl) hRf, Nat.le_trans (Nat.le_of_ble_eq_true rfl) hRl⟩ 0 12 rfl rfl rfl rfl rfl hl.1 (Nat.le_of_ble_eq_true rfl) ⟨Nat.zero_le _, Nat.zero_le _⟩ dX12_plan_84 ?_
            intro H locs I
            refine lv_iconst (v := (1 : Int32)) hx hb dX12_plan_87 (by decide) ?_
            obtain ⟨x38, hv42, hf⟩ := bd_some hf
            have J37 : ∀ (H : Heap) (locs : List Loc), sInv D (mT cI cJ cD) (mW ad cI cJ cD) A s H locs (G12, E35, Dd) → ∀ (ls : Array Slot), lv_has ls 7 [(0, .ref (ad 0)), (4, .int x11)] → W p l e R s m args below meth c H locs 0 0 Q (F0 m 125 ls [.int x38, .int x11, .ref (ad 6)]) := by
              intro H locs I ls hl
              obtain ⟨g39, hf⟩ := ri_some hf
              refine mas6 F I g39 dX12_plan_125 ?_
              intro H locs G40 eG40 I
              replace hf := nm_some eG40 hf
              obtain ⟨x41, ex41⟩ : ∃ y : Int32, y = x11 + (1 : Int32) := ⟨_, rfl⟩
              replace hf := nm_some ex41 hf
              refine lv_iinc (v := x41) (lv' := [(4, .int x41), (0, .ref (ad 0))]) hx hb dX12_plan_126 hl (k := 1) rfl (by rw [ex41]; rfl) (by decide) rfl (fun ls hl => ?_)
              refine lv_goto (tgt := 67) hx hb dX12_plan_129 (by decide) ?_
              cases hf
              exact ih1 _ _ _ hK1 H locs I ls (lv_sub hl [1, 0] rfl)
            replace hf := hv42
            refine lv_icmp_ne (tgt := 118) hx hb dX12_plan_88 (by decide) (fun c46 => ?_) (fun c46 => ?_)
            · replace hf := (if_neg c46).symm.trans hf
              refine lv_aload_n hx hb dX12_plan_118 rfl (lv_at hl 0 rfl) ?_
              refine mgtX12_29_0 F I dX12_plan_119 ?_
              refine lv_iload hx hb dX12_plan_122 (lv_at hl 1 rfl) ?_
              obtain ⟨g43, hf⟩ := ri_some hf
              refine mal6 F I g43 dX12_plan_124 ?_
              cases hf
              exact J37 H locs I ls (lv_sub hl [0, 1] rfl)
            · replace hf := (if_pos c46).symm.trans hf
              refine lv_bipush (v := (10 : Int32)) hx hb dX12_plan_91 (by decide) ?_
              refine lv_aload_n hx hb dX12_plan_93 rfl (lv_at hl 0 rfl) ?_
              refine mgtX12_29_0 F I dX12_plan_94 ?_
              refine lv_iload hx hb dX12_plan_97 (lv_at hl 1 rfl) ?_
              obtain ⟨g44, hf⟩ := ri_some hf
              refine mal6 F I g44 dX12_plan_99 ?_
              refine lv_bipush (v := (10 : Int32)) hx hb dX12_plan_100 (by decide) ?_
              refine lv_irem hx hb dX12_plan_102 (by decide) ?_
              refine lv_imul hx hb dX12_plan_103 ?_
              refine lv_aload_n hx hb dX12_plan_104 rfl (lv_at hl 0 rfl) ?_
              refine mgtX12_29_0 F I dX12_plan_105 ?_
              refine lv_iload hx hb dX12_plan_108 (lv_at hl 1 rfl) ?_
              obtain ⟨g45, hf⟩ := ri_some hf
              refine mal6 F I g45 dX12_plan_110 ?_
              refine lv_bipush (v := (10 : Int32)) hx hb dX12_plan_111 (by decide) ?_
              refine lv_idiv hx hb dX12_plan_113 (by decide) ?_
              refine lv_iadd hx hb dX12_plan_114 ?_
              refine lv_goto (tgt := 125) hx hb dX12_plan_115 (by decide) ?_
              cases hf
              exact J37 H locs I ls (lv_sub hl [0, 1] rfl)
      exact L1 FU _ _ _ hq1 H locs I ls (lv_sub hl [1, 0] rfl)
    · replace hf := (if_neg c48).symm.trans hf
      refine lv_iconst (v := (0 : Int32)) hx hb dX12_plan_41 (by decide) ?_
      cases hf
      exact ret H locs _ ls I dX12_plan_42
  replace hf := hv49
  refine lv_if_ne (tgt := 13) hx hb dX12_plan_6 (by decide) (fun c54 => ?_) (fun c54 => ?_)
  · replace hf := (if_neg c54).symm.trans hf
    refine lv_iload_n hx hb dX12_plan_13 rfl (lv_at hl 2 rfl) ?_
    refine lv_iconst (v := (1 : Int32)) hx hb dX12_plan_14 (by decide) ?_
    refine lv_iconst (v := (2 : Int32)) hx hb dX12_plan_15 (by decide) ?_
    obtain ⟨r50, h51, hf⟩ := bd_some hf
    refine s_callSi (As := [.int a1, .int (1 : Int32), .int (2 : Int32)]) (rest := [.ref (ad 0)]) F I (cM_within G E Dd a1 (1 : Int32) (2 : Int32) r50 h51) kX12_95 ⟨rfl, rfl⟩ ⟨Nat.le_trans (Nat.le_of_ble_eq_true rfl) hRf, Nat.le_trans (Nat.le_of_ble_eq_true rfl) hRl⟩ rfl rfl hl.1 (Nat.le_of_ble_eq_true rfl) ⟨Nat.zero_le _, Nat.zero_le _⟩ dX12_plan_16 ?_
    intro H locs I
    refine lv_if_eq (tgt := 30) hx hb dX12_plan_19 (by decide) (fun c53 => ?_) (fun c53 => ?_)
    · replace hf := (if_pos c53).symm.trans hf
      refine lv_iconst (v := (2 : Int32)) hx hb dX12_plan_30 (by decide) ?_
      cases hf
      exact J3 H locs I ls (lv_sub hl [0, 1, 2, 3] rfl)
    · replace hf := (if_neg c53).symm.trans hf
      refine lv_iload_n hx hb dX12_plan_22 rfl (lv_at hl 3 rfl) ?_
      refine lv_if_lt (tgt := 30) hx hb dX12_plan_23 (by decide) (fun c52 => ?_) (fun c52 => ?_)
      · replace hf := (if_pos c52).symm.trans hf
        refine lv_iconst (v := (2 : Int32)) hx hb dX12_plan_30 (by decide) ?_
        cases hf
        exact J3 H locs I ls (lv_sub hl [0, 1, 2, 3] rfl)
      · replace hf := (if_neg c52).symm.trans hf
        refine lv_iconst (v := (0 : Int32)) hx hb dX12_plan_26 (by decide) ?_
        refine lv_goto (tgt := 31) hx hb dX12_plan_27 (by decide) ?_
        cases hf
        exact J3 H locs I ls (lv_sub hl [0, 1, 2, 3] rfl)
  · replace hf := (if_pos c54).symm.trans hf
    refine lv_iconst (v := (1 : Int32)) hx hb dX12_plan_9 (by decide) ?_
    refine lv_goto (tgt := 31) hx hb dX12_plan_10 (by decide) ?_
    cases hf
    exact J3 H locs I ls (lv_sub hl [0, 1, 2, 3] rfl)
def M_trial (G : Nat → Nat → Int32) (a0 : Int32) (a1 : Int32) : Option (Int32 × (Nat → Nat → Int32)) :=
bd (if G 9 0 = (-1 : Int32) then
(some (1 : Int32))
else
(bd (M_within a0 (0 : Int32) ((G 10 0) - (1 : Int32))) fun r9 =>
if r9 = 0 then
(some (2 : Int32))
else
(some (0 : Int32)))) fun x2 =>
nm (wf G 0 x2) fun G3 =>
if G3 0 0 ≤ 0 then
(if a1 = 0 then
(ri 56 a0 <|
some ((G3 12 a0.toNatClampNeg) / (10 : Int32), G3))
else
(ri 56 a0 <|
some ((G3 12 a0.toNatClampNeg) - (G3 12 a0.toNatClampNeg) / (10 : Int32) * (10 : Int32), G3)))
else
(some ((0 : Int32), G3))
set_option maxRecDepth 100000 in
set_option maxHeartbeats 4000000 in
theorem cM_trial (G : Nat → Nat → Int32) (E : Nat → Nat → Int64) (Dd : Nat → Nat → UInt64) (a0 : Int32) (a1 : Int32) (rv : Int32) (newG : Nat → Nat → Int32) (hf : M_trial G a0 a1 = some (rv, newG)) : sMi D (mT cI cJ cD) (mW ad cI cJ cD) l yX12_trial (ws1 yX12_trial cX12_trial 3 (some .int)) ({ frames := 1, cells := 0, slots := 0, locals := 22 }) [.ref (ad 0), .int a0, .int a1] (G, E, Dd) (rv, (newG, E, Dd)) := by
  unfold M_trial at hf
  refine sMi_of (by decide) (Nat.le_of_ble_eq_true rfl) ?_
  intro p e R s m args below meth c A Q ls H locs F hRf hRl I hl ret
  obtain ⟨hx, hb, hml, hown, hG⟩ := id F
  replace hl : lv_has ls 3 [(0, .ref (ad 0)), (1, .int a0), (2, .int a1)] := hl
  refine lv_aload_n hx hb dX12_trial_0 rfl (lv_at hl 0 rfl) ?_
  refine lv_aload_n hx hb dX12_trial_1 rfl (lv_at hl 0 rfl) ?_
  refine mgtX12_25_0 F I dX12_trial_2 ?_
  refine lv_iconst (v := (-1 : Int32)) hx hb dX12_trial_5 (by decide) ?_
  obtain ⟨x2, hv8, hf⟩ := bd_some hf
  have J1 : ∀ (H : Heap) (locs : List Loc), sInv D (mT cI cJ cD) (mW ad cI cJ cD) A s H locs (G, E, Dd) → ∀ (ls : Array Slot), lv_has ls 3 [(0, .ref (ad 0)), (1, .int a0), (2, .int a1)] → W p l e R s m args below meth c H locs 0 0 Q (F0 m 32 ls [.int x2, .ref (ad 0)]) := by
    intro H locs I ls hl
    refine mptX12_89_0 F I dX12_trial_32 ?_
    intro H locs G3 eG3 I
    replace hf := nm_some eG3 hf
    refine lv_aload_n hx hb dX12_trial_35 rfl (lv_at hl 0 rfl) ?_
    refine mgtX12_89_0 F I dX12_trial_36 ?_
    refine lv_if_le (tgt := 46) hx hb dX12_trial_39 (by decide) (fun c7 => ?_) (fun c7 => ?_)
    · replace hf := (if_pos c7).symm.trans hf
      refine lv_iload_n hx hb dX12_trial_46 rfl (lv_at hl 2 rfl) ?_
      refine lv_if_eq (tgt := 62) hx hb dX12_trial_47 (by decide) (fun c6 => ?_) (fun c6 => ?_)
      · replace hf := (if_pos c6).symm.trans hf
        refine lv_aload_n hx hb dX12_trial_62 rfl (lv_at hl 0 rfl) ?_
        refine mgtX12_29_0 F I dX12_trial_63 ?_
        refine lv_iload_n hx hb dX12_trial_66 rfl (lv_at hl 1 rfl) ?_
        obtain ⟨g4, hf⟩ := ri_some hf
        refine mal6 F I g4 dX12_trial_67 ?_
        refine lv_bipush (v := (10 : Int32)) hx hb dX12_trial_68 (by decide) ?_
        refine lv_idiv hx hb dX12_trial_70 (by decide) ?_
        cases hf
        exact ret H locs _ ls I dX12_trial_71
      · replace hf := (if_neg c6).symm.trans hf
        refine lv_aload_n hx hb dX12_trial_50 rfl (lv_at hl 0 rfl) ?_
        refine mgtX12_29_0 F I dX12_trial_51 ?_
        refine lv_iload_n hx hb dX12_trial_54 rfl (lv_at hl 1 rfl) ?_
        obtain ⟨g5, hf⟩ := ri_some hf
        refine mal6 F I g5 dX12_trial_55 ?_
        refine lv_bipush (v := (10 : Int32)) hx hb dX12_trial_56 (by decide) ?_
        refine lv_irem hx hb dX12_trial_58 (by decide) ?_
        refine lv_goto (tgt := 71) hx hb dX12_trial_59 (by decide) ?_
        cases hf
        exact ret H locs _ ls I dX12_trial_71
    · replace hf := (if_neg c7).symm.trans hf
      refine lv_iconst (v := (0 : Int32)) hx hb dX12_trial_42 (by decide) ?_
      refine lv_goto (tgt := 71) hx hb dX12_trial_43 (by decide) ?_
      cases hf
      exact ret H locs _ ls I dX12_trial_71
  replace hf := hv8
  refine lv_icmp_ne (tgt := 13) hx hb dX12_trial_6 (by decide) (fun c12 => ?_) (fun c12 => ?_)
  · replace hf := (if_neg c12).symm.trans hf
    refine lv_iload_n hx hb dX12_trial_13 rfl (lv_at hl 1 rfl) ?_
    refine lv_iconst (v := (0 : Int32)) hx hb dX12_trial_14 (by decide) ?_
    refine lv_aload_n hx hb dX12_trial_15 rfl (lv_at hl 0 rfl) ?_
    refine mgtX12_105_0 F I dX12_trial_16 ?_
    refine lv_iconst (v := (1 : Int32)) hx hb dX12_trial_19 (by decide) ?_
    refine lv_isub hx hb dX12_trial_20 ?_
    obtain ⟨r9, h10, hf⟩ := bd_some hf
    refine s_callSi (As := [.int a0, .int (0 : Int32), .int ((G 10 0) - (1 : Int32))]) (rest := [.ref (ad 0)]) F I (cM_within G E Dd a0 (0 : Int32) ((G 10 0) - (1 : Int32)) r9 h10) kX12_95 ⟨rfl, rfl⟩ ⟨Nat.le_trans (Nat.le_of_ble_eq_true rfl) hRf, Nat.le_trans (Nat.le_of_ble_eq_true rfl) hRl⟩ rfl rfl hl.1 (Nat.le_of_ble_eq_true rfl) ⟨Nat.zero_le _, Nat.zero_le _⟩ dX12_trial_21 ?_
    intro H locs I
    refine lv_if_eq (tgt := 31) hx hb dX12_trial_24 (by decide) (fun c11 => ?_) (fun c11 => ?_)
    · replace hf := (if_pos c11).symm.trans hf
      refine lv_iconst (v := (2 : Int32)) hx hb dX12_trial_31 (by decide) ?_
      cases hf
      exact J1 H locs I ls (lv_sub hl [0, 1, 2] rfl)
    · replace hf := (if_neg c11).symm.trans hf
      refine lv_iconst (v := (0 : Int32)) hx hb dX12_trial_27 (by decide) ?_
      refine lv_goto (tgt := 32) hx hb dX12_trial_28 (by decide) ?_
      cases hf
      exact J1 H locs I ls (lv_sub hl [0, 1, 2] rfl)
  · replace hf := (if_pos c12).symm.trans hf
    refine lv_iconst (v := (1 : Int32)) hx hb dX12_trial_9 (by decide) ?_
    refine lv_goto (tgt := 32) hx hb dX12_trial_10 (by decide) ?_
    cases hf
    exact J1 H locs I ls (lv_sub hl [0, 1, 2] rfl)
def M_packed (G : Nat → Nat → Int32) (a0 : Int32) : Option (Int32) :=
ri 48 a0 <|
ri 48 a0 <|
ri 48 a0 <|
ri 48 a0 <|
some (((((1000 : Int32) * (G 5 a0.toNatClampNeg)) + ((100 : Int32) * (G 6 a0.toNatClampNeg))) + ((10 : Int32) * (G 7 a0.toNatClampNeg))) + (G 8 a0.toNatClampNeg))
set_option maxRecDepth 100000 in
set_option maxHeartbeats 4000000 in
theorem cM_packed (G : Nat → Nat → Int32) (E : Nat → Nat → Int64) (Dd : Nat → Nat → UInt64) (a0 : Int32) (rv : Int32)  (hf : M_packed G a0 = some rv) : sMi D (mT cI cJ cD) (mW ad cI cJ cD) l yX12_packed (ws1 yX12_packed cX12_packed 2 (some .int)) ({ frames := 0, cells := 0, slots := 0, locals := 0 }) [.ref (ad 0), .int a0] (G, E, Dd) (rv, (G, E, Dd)) := by
  unfold M_packed at hf
  refine sMi_of (by decide) (Nat.le_of_ble_eq_true rfl) ?_
  intro p e R s m args below meth c A Q ls H locs F hRf hRl I hl ret
  obtain ⟨hx, hb, hml, hown, hG⟩ := id F
  replace hl : lv_has ls 2 [(0, .ref (ad 0)), (1, .int a0)] := hl
  refine lv_sipush (v := (1000 : Int32)) hx hb dX12_packed_0 (by decide) ?_
  refine lv_aload_n hx hb dX12_packed_3 rfl (lv_at hl 0 rfl) ?_
  refine mgtX12_13_0 F I dX12_packed_4 ?_
  refine lv_iload_n hx hb dX12_packed_7 rfl (lv_at hl 1 rfl) ?_
  obtain ⟨g1, hf⟩ := ri_some hf
  refine mal2 F I g1 dX12_packed_8 ?_
  refine lv_imul hx hb dX12_packed_9 ?_
  refine lv_bipush (v := (100 : Int32)) hx hb dX12_packed_10 (by decide) ?_
  refine lv_aload_n hx hb dX12_packed_12 rfl (lv_at hl 0 rfl) ?_
  refine mgtX12_16_0 F I dX12_packed_13 ?_
  refine lv_iload_n hx hb dX12_packed_16 rfl (lv_at hl 1 rfl) ?_
  obtain ⟨g2, hf⟩ := ri_some hf
  refine mal3 F I g2 dX12_packed_17 ?_
  refine lv_imul hx hb dX12_packed_18 ?_
  refine lv_iadd hx hb dX12_packed_19 ?_
  refine lv_bipush (v := (10 : Int32)) hx hb dX12_packed_20 (by decide) ?_
  refine lv_aload_n hx hb dX12_packed_22 rfl (lv_at hl 0 rfl) ?_
  refine mgtX12_19_0 F I dX12_packed_23 ?_
  refine lv_iload_n hx hb dX12_packed_26 rfl (lv_at hl 1 rfl) ?_
  obtain ⟨g3, hf⟩ := ri_some hf
  refine mal4 F I g3 dX12_packed_27 ?_
  refine lv_imul hx hb dX12_packed_28 ?_
  refine lv_iadd hx hb dX12_packed_29 ?_
  refine lv_aload_n hx hb dX12_packed_30 rfl (lv_at hl 0 rfl) ?_
  refine mgtX12_22_0 F I dX12_packed_31 ?_
  refine lv_iload_n hx hb dX12_packed_34 rfl (lv_at hl 1 rfl) ?_
  obtain ⟨g4, hf⟩ := ri_some hf
  refine mal5 F I g4 dX12_packed_35 ?_
  refine lv_iadd hx hb dX12_packed_36 ?_
  cases hf
  exact ret H locs _ ls I dX12_packed_37
def M_unpack (G : Nat → Nat → Int32) (a0 : Int32) (a1 : Int32) : Option ((Nat → Nat → Int32)) :=
ri 48 a0 <|
nm (wr G 5 a0 (a1 / (1000 : Int32))) fun G2 =>
ri 48 a0 <|
nm (wr G2 6 a0 ((a1 / (100 : Int32)) - (a1 / (100 : Int32)) / (10 : Int32) * (10 : Int32))) fun G4 =>
ri 48 a0 <|
nm (wr G4 7 a0 ((a1 / (10 : Int32)) - (a1 / (10 : Int32)) / (10 : Int32) * (10 : Int32))) fun G6 =>
ri 48 a0 <|
nm (wr G6 8 a0 (a1 - a1 / (10 : Int32) * (10 : Int32))) fun G8 =>
some G8
set_option maxRecDepth 100000 in
set_option maxHeartbeats 4000000 in
theorem cM_unpack (G : Nat → Nat → Int32) (E : Nat → Nat → Int64) (Dd : Nat → Nat → UInt64) (a0 : Int32) (a1 : Int32)  (newG : Nat → Nat → Int32) (hf : M_unpack G a0 a1 = some newG) : sMv D (mT cI cJ cD) (mW ad cI cJ cD) l yX12_unpack (ws1 yX12_unpack cX12_unpack 3 none) ({ frames := 0, cells := 0, slots := 0, locals := 0 }) [.ref (ad 0), .int a0, .int a1] (G, E, Dd) (newG, E, Dd) := by
  unfold M_unpack at hf
  refine sMv_of (by decide) (Nat.le_of_ble_eq_true rfl) ?_
  intro p e R s m args below meth c A Q ls H locs F hRf hRl I hl ret
  obtain ⟨hx, hb, hml, hown, hG⟩ := id F
  replace hl : lv_has ls 3 [(0, .ref (ad 0)), (1, .int a0), (2, .int a1)] := hl
  refine lv_aload_n hx hb dX12_unpack_0 rfl (lv_at hl 0 rfl) ?_
  refine mgtX12_13_0 F I dX12_unpack_1 ?_
  refine lv_iload_n hx hb dX12_unpack_4 rfl (lv_at hl 1 rfl) ?_
  refine lv_iload_n hx hb dX12_unpack_5 rfl (lv_at hl 2 rfl) ?_
  refine lv_sipush (v := (1000 : Int32)) hx hb dX12_unpack_6 (by decide) ?_
  refine lv_idiv hx hb dX12_unpack_9 (by decide) ?_
  obtain ⟨g1, hf⟩ := ri_some hf
  refine mas2 F I g1 dX12_unpack_10 ?_
  intro H locs G2 eG2 I
  replace hf := nm_some eG2 hf
  refine lv_aload_n hx hb dX12_unpack_11 rfl (lv_at hl 0 rfl) ?_
  refine mgtX12_16_0 F I dX12_unpack_12 ?_
  refine lv_iload_n hx hb dX12_unpack_15 rfl (lv_at hl 1 rfl) ?_
  refine lv_iload_n hx hb dX12_unpack_16 rfl (lv_at hl 2 rfl) ?_
  refine lv_bipush (v := (100 : Int32)) hx hb dX12_unpack_17 (by decide) ?_
  refine lv_idiv hx hb dX12_unpack_19 (by decide) ?_
  refine lv_bipush (v := (10 : Int32)) hx hb dX12_unpack_20 (by decide) ?_
  refine lv_irem hx hb dX12_unpack_22 (by decide) ?_
  obtain ⟨g3, hf⟩ := ri_some hf
  refine mas3 F I g3 dX12_unpack_23 ?_
  intro H locs G4 eG4 I
  replace hf := nm_some eG4 hf
  refine lv_aload_n hx hb dX12_unpack_24 rfl (lv_at hl 0 rfl) ?_
  refine mgtX12_19_0 F I dX12_unpack_25 ?_
  refine lv_iload_n hx hb dX12_unpack_28 rfl (lv_at hl 1 rfl) ?_
  refine lv_iload_n hx hb dX12_unpack_29 rfl (lv_at hl 2 rfl) ?_
  refine lv_bipush (v := (10 : Int32)) hx hb dX12_unpack_30 (by decide) ?_
  refine lv_idiv hx hb dX12_unpack_32 (by decide) ?_
  refine lv_bipush (v := (10 : Int32)) hx hb dX12_unpack_33 (by decide) ?_
  refine lv_irem hx hb dX12_unpack_35 (by decide) ?_
  obtain ⟨g5, hf⟩ := ri_some hf
  refine mas4 F I g5 dX12_unpack_36 ?_
  intro H locs G6 eG6 I
  replace hf := nm_some eG6 hf
  refine lv_aload_n hx hb dX12_unpack_37 rfl (lv_at hl 0 rfl) ?_
  refine mgtX12_22_0 F I dX12_unpack_38 ?_
  refine lv_iload_n hx hb dX12_unpack_41 rfl (lv_at hl 1 rfl) ?_
  refine lv_iload_n hx hb dX12_unpack_42 rfl (lv_at hl 2 rfl) ?_
  refine lv_bipush (v := (10 : Int32)) hx hb dX12_unpack_43 (by decide) ?_
  refine lv_irem hx hb dX12_unpack_45 (by decide) ?_
  obtain ⟨g7, hf⟩ := ri_some hf
  refine mas5 F I g7 dX12_unpack_46 ?_
  intro H locs G8 eG8 I
  replace hf := nm_some eG8 hf
  cases hf
  exact ret H locs _ ls I dX12_unpack_47
def M_dropOldest_s3  (x7 : Int32) (G8 : Nat → Nat → Int32) : Option ((Int32 × (Nat → Nat → Int32)) ⊕ ((Nat → Nat → Int32))) :=
if (672 : Int32) ≤ x7 then
(some (.inr G8))
else
(ri 672 x7 <|
ri 672 (x7 - (56 : Int32)) <|
nm (wr G8 19 (x7 - (56 : Int32)) (G8 19 x7.toNatClampNeg)) fun G13 =>
nm (x7 + (1 : Int32) : Int32) fun x14 =>
some (.inl (x14, G13)))
def M_dropOldest_s2  (x4 : Int32) (G5 : Nat → Nat → Int32) : Option ((Int32 × (Nat → Nat → Int32)) ⊕ ((Nat → Nat → Int32))) :=
if (576 : Int32) ≤ x4 then
(some (.inr G5))
else
(ri 576 x4 <|
ri 576 (x4 - (48 : Int32)) <|
nm (wr G5 15 (x4 - (48 : Int32)) (G5 15 x4.toNatClampNeg)) fun G18 =>
nm (x4 + (1 : Int32) : Int32) fun x19 =>
some (.inl (x19, G18)))
def M_dropOldest_s1  (x1 : Int32) (G2 : Nat → Nat → Int32) : Option ((Int32 × (Nat → Nat → Int32)) ⊕ ((Nat → Nat → Int32))) :=
if (12 : Int32) ≤ x1 then
(some (.inr G2))
else
(ri 12 x1 <|
ri 12 (x1 - (1 : Int32)) <|
nm (wr G2 14 (x1 - (1 : Int32)) (G2 14 x1.toNatClampNeg)) fun G23 =>
ri 12 x1 <|
ri 12 (x1 - (1 : Int32)) <|
nm (wr G23 16 (x1 - (1 : Int32)) (G23 16 x1.toNatClampNeg)) fun G26 =>
ri 12 x1 <|
ri 12 (x1 - (1 : Int32)) <|
nm (wr G26 17 (x1 - (1 : Int32)) (G26 17 x1.toNatClampNeg)) fun G29 =>
ri 12 x1 <|
ri 12 (x1 - (1 : Int32)) <|
nm (wr G29 18 (x1 - (1 : Int32)) (G29 18 x1.toNatClampNeg)) fun G32 =>
nm (x1 + (1 : Int32) : Int32) fun x33 =>
some (.inl (x33, G32)))
def M_dropOldest (G : Nat → Nat → Int32) : Option ((Nat → Nat → Int32)) :=
bd (lp (fun q => M_dropOldest_s1 q.1 q.2) FU ((1 : Int32), G)) fun G3 =>
bd (lp (fun q => M_dropOldest_s2 q.1 q.2) FU ((48 : Int32), G3)) fun G6 =>
bd (lp (fun q => M_dropOldest_s3 q.1 q.2) FU ((56 : Int32), G6)) fun G9 =>
nm (wf G9 13 ((G9 13 0) - (1 : Int32))) fun G10 =>
some G10
set_option maxRecDepth 100000 in
set_option maxHeartbeats 4000000 in
theorem cM_dropOldest (G : Nat → Nat → Int32) (E : Nat → Nat → Int64) (Dd : Nat → Nat → UInt64)   (newG : Nat → Nat → Int32) (hf : M_dropOldest G = some newG) : sMv D (mT cI cJ cD) (mW ad cI cJ cD) l yX12_dropOldest (ws1 yX12_dropOldest cX12_dropOldest 2 none) ({ frames := 0, cells := 0, slots := 0, locals := 0 }) [.ref (ad 0)] (G, E, Dd) (newG, E, Dd) := by
  unfold M_dropOldest at hf
  refine sMv_of (by decide) (Nat.le_of_ble_eq_true rfl) ?_
  intro p e R s m args below meth c A Q ls H locs F hRf hRl I hl ret
  obtain ⟨hx, hb, hml, hown, hG⟩ := id F
  replace hl : lv_has ls 2 [(0, .ref (ad 0))] := hl
  refine lv_iconst (v := (1 : Int32)) hx hb dX12_dropOldest_0 (by decide) ?_
  refine lv_istore_n (lv' := [(1, .int (1 : Int32)), (0, .ref (ad 0))]) hx hb dX12_dropOldest_1 rfl hl (by decide) rfl (fun ls hl => ?_)
  obtain ⟨G3, hq1, hf⟩ := bd_some hf
  have K1 : ∀ (H : Heap) (locs : List Loc), sInv D (mT cI cJ cD) (mW ad cI cJ cD) A s H locs (G3, E, Dd) → ∀ (ls : Array Slot), lv_has ls 2 [(0, .ref (ad 0))] → W p l e R s m args below meth c H locs 0 0 Q (F0 m 70 ls []) := by
    intro H locs I ls hl
    refine lv_bipush (v := (48 : Int32)) hx hb dX12_dropOldest_70 (by decide) ?_
    refine lv_istore_n (lv' := [(1, .int (48 : Int32)), (0, .ref (ad 0))]) hx hb dX12_dropOldest_72 rfl hl (by decide) rfl (fun ls hl => ?_)
    obtain ⟨G6, hq2, hf⟩ := bd_some hf
    have K2 : ∀ (H : Heap) (locs : List Loc), sInv D (mT cI cJ cD) (mW ad cI cJ cD) A s H locs (G6, E, Dd) → ∀ (ls : Array Slot), lv_has ls 2 [(0, .ref (ad 0))] → W p l e R s m args below meth c H locs 0 0 Q (F0 m 101 ls []) := by
      intro H locs I ls hl
      refine lv_bipush (v := (56 : Int32)) hx hb dX12_dropOldest_101 (by decide) ?_
      refine lv_istore_n (lv' := [(1, .int (56 : Int32)), (0, .ref (ad 0))]) hx hb dX12_dropOldest_103 rfl hl (by decide) rfl (fun ls hl => ?_)
      obtain ⟨G9, hq3, hf⟩ := bd_some hf
      have K3 : ∀ (H : Heap) (locs : List Loc), sInv D (mT cI cJ cD) (mW ad cI cJ cD) A s H locs (G9, E, Dd) → ∀ (ls : Array Slot), lv_has ls 2 [(0, .ref (ad 0))] → W p l e R s m args below meth c H locs 0 0 Q (F0 m 132 ls []) := by
        intro H locs I ls hl
        refine lv_aload_n hx hb dX12_dropOldest_132 rfl (lv_at hl 0 rfl) ?_
        refine lv_dup hx hb dX12_dropOldest_133 rfl ?_
        refine mgtX12_111_0 F I dX12_dropOldest_134 ?_
        refine lv_iconst (v := (1 : Int32)) hx hb dX12_dropOldest_137 (by decide) ?_
        refine lv_isub hx hb dX12_dropOldest_138 ?_
        refine mptX12_111_0 F I dX12_dropOldest_139 ?_
        intro H locs G10 eG10 I
        replace hf := nm_some eG10 hf
        cases hf
        exact ret H locs _ ls I dX12_dropOldest_142
      have L3 : ∀ (n : Nat) (x7 : Int32) (G8 : Nat → Nat → Int32), lp (fun q => M_dropOldest_s3 q.1 q.2) n (x7, G8) = some G9 → ∀ (H : Heap) (locs : List Loc), sInv D (mT cI cJ cD) (mW ad cI cJ cD) A s H locs (G8, E, Dd) → ∀ (ls : Array Slot), lv_has ls 2 [(0, .ref (ad 0)), (1, .int x7)] → W p l e R s m args below meth c H locs 0 0 Q (F0 m 104 ls []) := by
        intro n
        induction n with
        | zero => intro x7 G8 hq; exact (lp_0 hq).elim
        | succ n ih3 =>
          intro x7 G8 hq H locs I ls hl
          obtain ⟨y3, hf, hK3⟩ := lp_go hq
          replace hf : M_dropOldest_s3 x7 G8 = some y3 := hf
          unfold M_dropOldest_s3 at hf
          refine lv_iload_n hx hb dX12_dropOldest_104 rfl (lv_at hl 1 rfl) ?_
          refine lv_sipush (v := (672 : Int32)) hx hb dX12_dropOldest_105 (by decide) ?_
          refine lv_icmp_ge (tgt := 132) hx hb dX12_dropOldest_108 (by decide) (fun c15 => ?_) (fun c15 => ?_)
          · replace hf := (if_pos c15).symm.trans hf
            cases hf
            cases (show G8 = G9 from hK3)
            exact K3 H locs I ls (lv_sub hl [0] rfl)
          · replace hf := (if_neg c15).symm.trans hf
            refine lv_aload_n hx hb dX12_dropOldest_111 rfl (lv_at hl 0 rfl) ?_
            refine mgtX12_47_0 F I dX12_dropOldest_112 ?_
            refine lv_iload_n hx hb dX12_dropOldest_115 rfl (lv_at hl 1 rfl) ?_
            refine lv_bipush (v := (56 : Int32)) hx hb dX12_dropOldest_116 (by decide) ?_
            refine lv_isub hx hb dX12_dropOldest_118 ?_
            refine lv_aload_n hx hb dX12_dropOldest_119 rfl (lv_at hl 0 rfl) ?_
            refine mgtX12_47_0 F I dX12_dropOldest_120 ?_
            refine lv_iload_n hx hb dX12_dropOldest_123 rfl (lv_at hl 1 rfl) ?_
            obtain ⟨g11, hf⟩ := ri_some hf
            refine mal12 F I g11 dX12_dropOldest_124 ?_
            obtain ⟨g12, hf⟩ := ri_some hf
            refine mas12 F I g12 dX12_dropOldest_125 ?_
            intro H locs G13 eG13 I
            replace hf := nm_some eG13 hf
            obtain ⟨x14, ex14⟩ : ∃ y : Int32, y = x7 + (1 : Int32) := ⟨_, rfl⟩
            replace hf := nm_some ex14 hf
            refine lv_iinc (v := x14) (lv' := [(1, .int x14), (0, .ref (ad 0))]) hx hb dX12_dropOldest_126 hl (k := 1) rfl (by rw [ex14]; rfl) (by decide) rfl (fun ls hl => ?_)
            refine lv_goto (tgt := 104) hx hb dX12_dropOldest_129 (by decide) ?_
            cases hf
            exact ih3 _ _ hK3 H locs I ls (lv_sub hl [1, 0] rfl)
      exact L3 FU _ _ hq3 H locs I ls (lv_sub hl [1, 0] rfl)
    have L2 : ∀ (n : Nat) (x4 : Int32) (G5 : Nat → Nat → Int32), lp (fun q => M_dropOldest_s2 q.1 q.2) n (x4, G5) = some G6 → ∀ (H : Heap) (locs : List Loc), sInv D (mT cI cJ cD) (mW ad cI cJ cD) A s H locs (G5, E, Dd) → ∀ (ls : Array Slot), lv_has ls 2 [(0, .ref (ad 0)), (1, .int x4)] → W p l e R s m args below meth c H locs 0 0 Q (F0 m 73 ls []) := by
      intro n
      induction n with
      | zero => intro x4 G5 hq; exact (lp_0 hq).elim
      | succ n ih2 =>
        intro x4 G5 hq H locs I ls hl
        obtain ⟨y2, hf, hK2⟩ := lp_go hq
        replace hf : M_dropOldest_s2 x4 G5 = some y2 := hf
        unfold M_dropOldest_s2 at hf
        refine lv_iload_n hx hb dX12_dropOldest_73 rfl (lv_at hl 1 rfl) ?_
        refine lv_sipush (v := (576 : Int32)) hx hb dX12_dropOldest_74 (by decide) ?_
        refine lv_icmp_ge (tgt := 101) hx hb dX12_dropOldest_77 (by decide) (fun c20 => ?_) (fun c20 => ?_)
        · replace hf := (if_pos c20).symm.trans hf
          cases hf
          cases (show G5 = G6 from hK2)
          exact K2 H locs I ls (lv_sub hl [0] rfl)
        · replace hf := (if_neg c20).symm.trans hf
          refine lv_aload_n hx hb dX12_dropOldest_80 rfl (lv_at hl 0 rfl) ?_
          refine mgtX12_35_0 F I dX12_dropOldest_81 ?_
          refine lv_iload_n hx hb dX12_dropOldest_84 rfl (lv_at hl 1 rfl) ?_
          refine lv_bipush (v := (48 : Int32)) hx hb dX12_dropOldest_85 (by decide) ?_
          refine lv_isub hx hb dX12_dropOldest_87 ?_
          refine lv_aload_n hx hb dX12_dropOldest_88 rfl (lv_at hl 0 rfl) ?_
          refine mgtX12_35_0 F I dX12_dropOldest_89 ?_
          refine lv_iload_n hx hb dX12_dropOldest_92 rfl (lv_at hl 1 rfl) ?_
          obtain ⟨g16, hf⟩ := ri_some hf
          refine mal8 F I g16 dX12_dropOldest_93 ?_
          obtain ⟨g17, hf⟩ := ri_some hf
          refine mas8 F I g17 dX12_dropOldest_94 ?_
          intro H locs G18 eG18 I
          replace hf := nm_some eG18 hf
          obtain ⟨x19, ex19⟩ : ∃ y : Int32, y = x4 + (1 : Int32) := ⟨_, rfl⟩
          replace hf := nm_some ex19 hf
          refine lv_iinc (v := x19) (lv' := [(1, .int x19), (0, .ref (ad 0))]) hx hb dX12_dropOldest_95 hl (k := 1) rfl (by rw [ex19]; rfl) (by decide) rfl (fun ls hl => ?_)
          refine lv_goto (tgt := 73) hx hb dX12_dropOldest_98 (by decide) ?_
          cases hf
          exact ih2 _ _ hK2 H locs I ls (lv_sub hl [1, 0] rfl)
    exact L2 FU _ _ hq2 H locs I ls (lv_sub hl [1, 0] rfl)
  have L1 : ∀ (n : Nat) (x1 : Int32) (G2 : Nat → Nat → Int32), lp (fun q => M_dropOldest_s1 q.1 q.2) n (x1, G2) = some G3 → ∀ (H : Heap) (locs : List Loc), sInv D (mT cI cJ cD) (mW ad cI cJ cD) A s H locs (G2, E, Dd) → ∀ (ls : Array Slot), lv_has ls 2 [(0, .ref (ad 0)), (1, .int x1)] → W p l e R s m args below meth c H locs 0 0 Q (F0 m 2 ls []) := by
    intro n
    induction n with
    | zero => intro x1 G2 hq; exact (lp_0 hq).elim
    | succ n ih1 =>
      intro x1 G2 hq H locs I ls hl
      obtain ⟨y1, hf, hK1⟩ := lp_go hq
      replace hf : M_dropOldest_s1 x1 G2 = some y1 := hf
      unfold M_dropOldest_s1 at hf
      refine lv_iload_n hx hb dX12_dropOldest_2 rfl (lv_at hl 1 rfl) ?_
      refine lv_bipush (v := (12 : Int32)) hx hb dX12_dropOldest_3 (by decide) ?_
      refine lv_icmp_ge (tgt := 70) hx hb dX12_dropOldest_5 (by decide) (fun c34 => ?_) (fun c34 => ?_)
      · replace hf := (if_pos c34).symm.trans hf
        cases hf
        cases (show G2 = G3 from hK1)
        exact K1 H locs I ls (lv_sub hl [0] rfl)
      · replace hf := (if_neg c34).symm.trans hf
        refine lv_aload_n hx hb dX12_dropOldest_8 rfl (lv_at hl 0 rfl) ?_
        refine mgtX12_32_0 F I dX12_dropOldest_9 ?_
        refine lv_iload_n hx hb dX12_dropOldest_12 rfl (lv_at hl 1 rfl) ?_
        refine lv_iconst (v := (1 : Int32)) hx hb dX12_dropOldest_13 (by decide) ?_
        refine lv_isub hx hb dX12_dropOldest_14 ?_
        refine lv_aload_n hx hb dX12_dropOldest_15 rfl (lv_at hl 0 rfl) ?_
        refine mgtX12_32_0 F I dX12_dropOldest_16 ?_
        refine lv_iload_n hx hb dX12_dropOldest_19 rfl (lv_at hl 1 rfl) ?_
        obtain ⟨g21, hf⟩ := ri_some hf
        refine mal7 F I g21 dX12_dropOldest_20 ?_
        obtain ⟨g22, hf⟩ := ri_some hf
        refine mas7 F I g22 dX12_dropOldest_21 ?_
        intro H locs G23 eG23 I
        replace hf := nm_some eG23 hf
        refine lv_aload_n hx hb dX12_dropOldest_22 rfl (lv_at hl 0 rfl) ?_
        refine mgtX12_38_0 F I dX12_dropOldest_23 ?_
        refine lv_iload_n hx hb dX12_dropOldest_26 rfl (lv_at hl 1 rfl) ?_
        refine lv_iconst (v := (1 : Int32)) hx hb dX12_dropOldest_27 (by decide) ?_
        refine lv_isub hx hb dX12_dropOldest_28 ?_
        refine lv_aload_n hx hb dX12_dropOldest_29 rfl (lv_at hl 0 rfl) ?_
        refine mgtX12_38_0 F I dX12_dropOldest_30 ?_
        refine lv_iload_n hx hb dX12_dropOldest_33 rfl (lv_at hl 1 rfl) ?_
        obtain ⟨g24, hf⟩ := ri_some hf
        refine mal9 F I g24 dX12_dropOldest_34 ?_
        obtain ⟨g25, hf⟩ := ri_some hf
        refine mas9 F I g25 dX12_dropOldest_35 ?_
        intro H locs G26 eG26 I
        replace hf := nm_some eG26 hf
        refine lv_aload_n hx hb dX12_dropOldest_36 rfl (lv_at hl 0 rfl) ?_
        refine mgtX12_41_0 F I dX12_dropOldest_37 ?_
        refine lv_iload_n hx hb dX12_dropOldest_40 rfl (lv_at hl 1 rfl) ?_
        refine lv_iconst (v := (1 : Int32)) hx hb dX12_dropOldest_41 (by decide) ?_
        refine lv_isub hx hb dX12_dropOldest_42 ?_
        refine lv_aload_n hx hb dX12_dropOldest_43 rfl (lv_at hl 0 rfl) ?_
        refine mgtX12_41_0 F I dX12_dropOldest_44 ?_
        refine lv_iload_n hx hb dX12_dropOldest_47 rfl (lv_at hl 1 rfl) ?_
        obtain ⟨g27, hf⟩ := ri_some hf
        refine mal10 F I g27 dX12_dropOldest_48 ?_
        obtain ⟨g28, hf⟩ := ri_some hf
        refine mas10 F I g28 dX12_dropOldest_49 ?_
        intro H locs G29 eG29 I
        replace hf := nm_some eG29 hf
        refine lv_aload_n hx hb dX12_dropOldest_50 rfl (lv_at hl 0 rfl) ?_
        refine mgtX12_44_0 F I dX12_dropOldest_51 ?_
        refine lv_iload_n hx hb dX12_dropOldest_54 rfl (lv_at hl 1 rfl) ?_
        refine lv_iconst (v := (1 : Int32)) hx hb dX12_dropOldest_55 (by decide) ?_
        refine lv_isub hx hb dX12_dropOldest_56 ?_
        refine lv_aload_n hx hb dX12_dropOldest_57 rfl (lv_at hl 0 rfl) ?_
        refine mgtX12_44_0 F I dX12_dropOldest_58 ?_
        refine lv_iload_n hx hb dX12_dropOldest_61 rfl (lv_at hl 1 rfl) ?_
        obtain ⟨g30, hf⟩ := ri_some hf
        refine mal11 F I g30 dX12_dropOldest_62 ?_
        obtain ⟨g31, hf⟩ := ri_some hf
        refine mas11 F I g31 dX12_dropOldest_63 ?_
        intro H locs G32 eG32 I
        replace hf := nm_some eG32 hf
        obtain ⟨x33, ex33⟩ : ∃ y : Int32, y = x1 + (1 : Int32) := ⟨_, rfl⟩
        replace hf := nm_some ex33 hf
        refine lv_iinc (v := x33) (lv' := [(1, .int x33), (0, .ref (ad 0))]) hx hb dX12_dropOldest_64 hl (k := 1) rfl (by rw [ex33]; rfl) (by decide) rfl (fun ls hl => ?_)
        refine lv_goto (tgt := 2) hx hb dX12_dropOldest_67 (by decide) ?_
        cases hf
        exact ih1 _ _ hK1 H locs I ls (lv_sub hl [1, 0] rfl)
  exact L1 FU _ _ hq1 H locs I ls (lv_sub hl [1, 0] rfl)
def M_keep_s2  (x14 : Int32) (G15 : Nat → Nat → Int32) : Option ((Int32 × (Nat → Nat → Int32)) ⊕ ((Nat → Nat → Int32))) :=
if G15 10 0 ≤ x14 then
(some (.inr G15))
else
(ri 56 x14 <|
ri 672 (((56 : Int32) * (G15 13 0)) + x14) <|
nm (wr G15 19 (((56 : Int32) * (G15 13 0)) + x14) (G15 12 x14.toNatClampNeg)) fun G20 =>
nm (x14 + (1 : Int32) : Int32) fun x21 =>
some (.inl (x21, G20)))
def M_keep_s1  (x11 : Int32) (G12 : Nat → Nat → Int32) : Option ((Int32 × (Nat → Nat → Int32)) ⊕ ((Nat → Nat → Int32))) :=
if G12 4 0 ≤ x11 then
(some (.inr G12))
else
(bd (M_packed G12 x11) fun r23 =>
ri 576 (((48 : Int32) * (G12 13 0)) + x11) <|
nm (wr G12 15 (((48 : Int32) * (G12 13 0)) + x11) r23) fun G26 =>
nm (x11 + (1 : Int32) : Int32) fun x27 =>
some (.inl (x27, G26)))
def M_keep (G : Nat → Nat → Int32) : Option ((Nat → Nat → Int32)) :=
bd (if G 13 0 = (12 : Int32) then
(bd (M_dropOldest G) fun G30 =>
some G30)
else
(some G)) fun G2 =>
ri 12 (G2 13 0) <|
nm (wr G2 14 (G2 13 0) (G2 4 0)) fun G4 =>
ri 12 (G4 13 0) <|
nm (wr G4 16 (G4 13 0) (G4 9 0)) fun G6 =>
ri 12 (G6 13 0) <|
nm (wr G6 17 (G6 13 0) (G6 10 0)) fun G8 =>
ri 12 (G8 13 0) <|
nm (wr G8 18 (G8 13 0) (G8 11 0)) fun G10 =>
bd (lp (fun q => M_keep_s1 q.1 q.2) FU ((0 : Int32), G10)) fun G13 =>
bd (lp (fun q => M_keep_s2 q.1 q.2) FU ((0 : Int32), G13)) fun G16 =>
nm (wf G16 13 ((G16 13 0) + (1 : Int32))) fun G17 =>
some G17
set_option maxRecDepth 100000 in
set_option maxHeartbeats 4000000 in
theorem cM_keep (G : Nat → Nat → Int32) (E : Nat → Nat → Int64) (Dd : Nat → Nat → UInt64)   (newG : Nat → Nat → Int32) (hf : M_keep G = some newG) : sMv D (mT cI cJ cD) (mW ad cI cJ cD) l yX12_keep (ws1 yX12_keep cX12_keep 2 none) ({ frames := 1, cells := 0, slots := 0, locals := 21 }) [.ref (ad 0)] (G, E, Dd) (newG, E, Dd) := by
  unfold M_keep at hf
  refine sMv_of (by decide) (Nat.le_of_ble_eq_true rfl) ?_
  intro p e R s m args below meth c A Q ls H locs F hRf hRl I hl ret
  obtain ⟨hx, hb, hml, hown, hG⟩ := id F
  replace hl : lv_has ls 2 [(0, .ref (ad 0))] := hl
  refine lv_aload_n hx hb dX12_keep_0 rfl (lv_at hl 0 rfl) ?_
  refine mgtX12_111_0 F I dX12_keep_1 ?_
  refine lv_bipush (v := (12 : Int32)) hx hb dX12_keep_4 (by decide) ?_
  obtain ⟨G2, hv29, hf⟩ := bd_some hf
  have J1 : ∀ (H : Heap) (locs : List Loc), sInv D (mT cI cJ cD) (mW ad cI cJ cD) A s H locs (G2, E, Dd) → ∀ (ls : Array Slot), lv_has ls 2 [(0, .ref (ad 0))] → W p l e R s m args below meth c H locs 0 0 Q (F0 m 13 ls []) := by
    intro H locs I ls hl
    refine lv_aload_n hx hb dX12_keep_13 rfl (lv_at hl 0 rfl) ?_
    refine mgtX12_32_0 F I dX12_keep_14 ?_
    refine lv_aload_n hx hb dX12_keep_17 rfl (lv_at hl 0 rfl) ?_
    refine mgtX12_111_0 F I dX12_keep_18 ?_
    refine lv_aload_n hx hb dX12_keep_21 rfl (lv_at hl 0 rfl) ?_
    refine mgtX12_102_0 F I dX12_keep_22 ?_
    obtain ⟨g3, hf⟩ := ri_some hf
    refine mas7 F I g3 dX12_keep_25 ?_
    intro H locs G4 eG4 I
    replace hf := nm_some eG4 hf
    refine lv_aload_n hx hb dX12_keep_26 rfl (lv_at hl 0 rfl) ?_
    refine mgtX12_38_0 F I dX12_keep_27 ?_
    refine lv_aload_n hx hb dX12_keep_30 rfl (lv_at hl 0 rfl) ?_
    refine mgtX12_111_0 F I dX12_keep_31 ?_
    refine lv_aload_n hx hb dX12_keep_34 rfl (lv_at hl 0 rfl) ?_
    refine mgtX12_25_0 F I dX12_keep_35 ?_
    obtain ⟨g5, hf⟩ := ri_some hf
    refine mas9 F I g5 dX12_keep_38 ?_
    intro H locs G6 eG6 I
    replace hf := nm_some eG6 hf
    refine lv_aload_n hx hb dX12_keep_39 rfl (lv_at hl 0 rfl) ?_
    refine mgtX12_41_0 F I dX12_keep_40 ?_
    refine lv_aload_n hx hb dX12_keep_43 rfl (lv_at hl 0 rfl) ?_
    refine mgtX12_111_0 F I dX12_keep_44 ?_
    refine lv_aload_n hx hb dX12_keep_47 rfl (lv_at hl 0 rfl) ?_
    refine mgtX12_105_0 F I dX12_keep_48 ?_
    obtain ⟨g7, hf⟩ := ri_some hf
    refine mas10 F I g7 dX12_keep_51 ?_
    intro H locs G8 eG8 I
    replace hf := nm_some eG8 hf
    refine lv_aload_n hx hb dX12_keep_52 rfl (lv_at hl 0 rfl) ?_
    refine mgtX12_44_0 F I dX12_keep_53 ?_
    refine lv_aload_n hx hb dX12_keep_56 rfl (lv_at hl 0 rfl) ?_
    refine mgtX12_111_0 F I dX12_keep_57 ?_
    refine lv_aload_n hx hb dX12_keep_60 rfl (lv_at hl 0 rfl) ?_
    refine mgtX12_108_0 F I dX12_keep_61 ?_
    obtain ⟨g9, hf⟩ := ri_some hf
    refine mas11 F I g9 dX12_keep_64 ?_
    intro H locs G10 eG10 I
    replace hf := nm_some eG10 hf
    refine lv_iconst (v := (0 : Int32)) hx hb dX12_keep_65 (by decide) ?_
    refine lv_istore_n (lv' := [(1, .int (0 : Int32)), (0, .ref (ad 0))]) hx hb dX12_keep_66 rfl hl (by decide) rfl (fun ls hl => ?_)
    obtain ⟨G13, hq1, hf⟩ := bd_some hf
    have K1 : ∀ (H : Heap) (locs : List Loc), sInv D (mT cI cJ cD) (mW ad cI cJ cD) A s H locs (G13, E, Dd) → ∀ (ls : Array Slot), lv_has ls 2 [(0, .ref (ad 0))] → W p l e R s m args below meth c H locs 0 0 Q (F0 m 100 ls []) := by
      intro H locs I ls hl
      refine lv_iconst (v := (0 : Int32)) hx hb dX12_keep_100 (by decide) ?_
      refine lv_istore_n (lv' := [(1, .int (0 : Int32)), (0, .ref (ad 0))]) hx hb dX12_keep_101 rfl hl (by decide) rfl (fun ls hl => ?_)
      obtain ⟨G16, hq2, hf⟩ := bd_some hf
      have K2 : ∀ (H : Heap) (locs : List Loc), sInv D (mT cI cJ cD) (mW ad cI cJ cD) A s H locs (G16, E, Dd) → ∀ (ls : Array Slot), lv_has ls 2 [(0, .ref (ad 0))] → W p l e R s m args below meth c H locs 0 0 Q (F0 m 136 ls []) := by
        intro H locs I ls hl
        refine lv_aload_n hx hb dX12_keep_136 rfl (lv_at hl 0 rfl) ?_
        refine lv_dup hx hb dX12_keep_137 rfl ?_
        refine mgtX12_111_0 F I dX12_keep_138 ?_
        refine lv_iconst (v := (1 : Int32)) hx hb dX12_keep_141 (by decide) ?_
        refine lv_iadd hx hb dX12_keep_142 ?_
        refine mptX12_111_0 F I dX12_keep_143 ?_
        intro H locs G17 eG17 I
        replace hf := nm_some eG17 hf
        cases hf
        exact ret H locs _ ls I dX12_keep_146
      have L2 : ∀ (n : Nat) (x14 : Int32) (G15 : Nat → Nat → Int32), lp (fun q => M_keep_s2 q.1 q.2) n (x14, G15) = some G16 → ∀ (H : Heap) (locs : List Loc), sInv D (mT cI cJ cD) (mW ad cI cJ cD) A s H locs (G15, E, Dd) → ∀ (ls : Array Slot), lv_has ls 2 [(0, .ref (ad 0)), (1, .int x14)] → W p l e R s m args below meth c H locs 0 0 Q (F0 m 102 ls []) := by
        intro n
        induction n with
        | zero => intro x14 G15 hq; exact (lp_0 hq).elim
        | succ n ih2 =>
          intro x14 G15 hq H locs I ls hl
          obtain ⟨y2, hf, hK2⟩ := lp_go hq
          replace hf : M_keep_s2 x14 G15 = some y2 := hf
          unfold M_keep_s2 at hf
          refine lv_iload_n hx hb dX12_keep_102 rfl (lv_at hl 1 rfl) ?_
          refine lv_aload_n hx hb dX12_keep_103 rfl (lv_at hl 0 rfl) ?_
          refine mgtX12_105_0 F I dX12_keep_104 ?_
          refine lv_icmp_ge (tgt := 136) hx hb dX12_keep_107 (by decide) (fun c22 => ?_) (fun c22 => ?_)
          · replace hf := (if_pos c22).symm.trans hf
            cases hf
            cases (show G15 = G16 from hK2)
            exact K2 H locs I ls (lv_sub hl [0] rfl)
          · replace hf := (if_neg c22).symm.trans hf
            refine lv_aload_n hx hb dX12_keep_110 rfl (lv_at hl 0 rfl) ?_
            refine mgtX12_47_0 F I dX12_keep_111 ?_
            refine lv_bipush (v := (56 : Int32)) hx hb dX12_keep_114 (by decide) ?_
            refine lv_aload_n hx hb dX12_keep_116 rfl (lv_at hl 0 rfl) ?_
            refine mgtX12_111_0 F I dX12_keep_117 ?_
            refine lv_imul hx hb dX12_keep_120 ?_
            refine lv_iload_n hx hb dX12_keep_121 rfl (lv_at hl 1 rfl) ?_
            refine lv_iadd hx hb dX12_keep_122 ?_
            refine lv_aload_n hx hb dX12_keep_123 rfl (lv_at hl 0 rfl) ?_
            refine mgtX12_29_0 F I dX12_keep_124 ?_
            refine lv_iload_n hx hb dX12_keep_127 rfl (lv_at hl 1 rfl) ?_
            obtain ⟨g18, hf⟩ := ri_some hf
            refine mal6 F I g18 dX12_keep_128 ?_
            obtain ⟨g19, hf⟩ := ri_some hf
            refine mas12 F I g19 dX12_keep_129 ?_
            intro H locs G20 eG20 I
            replace hf := nm_some eG20 hf
            obtain ⟨x21, ex21⟩ : ∃ y : Int32, y = x14 + (1 : Int32) := ⟨_, rfl⟩
            replace hf := nm_some ex21 hf
            refine lv_iinc (v := x21) (lv' := [(1, .int x21), (0, .ref (ad 0))]) hx hb dX12_keep_130 hl (k := 1) rfl (by rw [ex21]; rfl) (by decide) rfl (fun ls hl => ?_)
            refine lv_goto (tgt := 102) hx hb dX12_keep_133 (by decide) ?_
            cases hf
            exact ih2 _ _ hK2 H locs I ls (lv_sub hl [1, 0] rfl)
      exact L2 FU _ _ hq2 H locs I ls (lv_sub hl [1, 0] rfl)
    have L1 : ∀ (n : Nat) (x11 : Int32) (G12 : Nat → Nat → Int32), lp (fun q => M_keep_s1 q.1 q.2) n (x11, G12) = some G13 → ∀ (H : Heap) (locs : List Loc), sInv D (mT cI cJ cD) (mW ad cI cJ cD) A s H locs (G12, E, Dd) → ∀ (ls : Array Slot), lv_has ls 2 [(0, .ref (ad 0)), (1, .int x11)] → W p l e R s m args below meth c H locs 0 0 Q (F0 m 67 ls []) := by
      intro n
      induction n with
      | zero => intro x11 G12 hq; exact (lp_0 hq).elim
      | succ n ih1 =>
        intro x11 G12 hq H locs I ls hl
        obtain ⟨y1, hf, hK1⟩ := lp_go hq
        replace hf : M_keep_s1 x11 G12 = some y1 := hf
        unfold M_keep_s1 at hf
        refine lv_iload_n hx hb dX12_keep_67 rfl (lv_at hl 1 rfl) ?_
        refine lv_aload_n hx hb dX12_keep_68 rfl (lv_at hl 0 rfl) ?_
        refine mgtX12_102_0 F I dX12_keep_69 ?_
        refine lv_icmp_ge (tgt := 100) hx hb dX12_keep_72 (by decide) (fun c28 => ?_) (fun c28 => ?_)
        · replace hf := (if_pos c28).symm.trans hf
          cases hf
          cases (show G12 = G13 from hK1)
          exact K1 H locs I ls (lv_sub hl [0] rfl)
        · replace hf := (if_neg c28).symm.trans hf
          refine lv_aload_n hx hb dX12_keep_75 rfl (lv_at hl 0 rfl) ?_
          refine mgtX12_35_0 F I dX12_keep_76 ?_
          refine lv_bipush (v := (48 : Int32)) hx hb dX12_keep_79 (by decide) ?_
          refine lv_aload_n hx hb dX12_keep_81 rfl (lv_at hl 0 rfl) ?_
          refine mgtX12_111_0 F I dX12_keep_82 ?_
          refine lv_imul hx hb dX12_keep_85 ?_
          refine lv_iload_n hx hb dX12_keep_86 rfl (lv_at hl 1 rfl) ?_
          refine lv_iadd hx hb dX12_keep_87 ?_
          refine lv_aload_n hx hb dX12_keep_88 rfl (lv_at hl 0 rfl) ?_
          refine lv_iload_n hx hb dX12_keep_89 rfl (lv_at hl 1 rfl) ?_
          obtain ⟨r23, h24, hf⟩ := bd_some hf
          refine s_callVi (As := [.int x11]) (rest := [.int (((48 : Int32) * (G12 13 0)) + x11), .ref (ad 8)]) F I (cM_packed G12 E Dd x11 r23 h24) kX12_141 ⟨rfl, rfl⟩ ⟨Nat.le_trans (Nat.le_of_ble_eq_true rfl) hRf, Nat.le_trans (Nat.le_of_ble_eq_true rfl) hRl⟩ 0 12 rfl rfl rfl rfl rfl hl.1 (Nat.le_of_ble_eq_true rfl) ⟨Nat.zero_le _, Nat.zero_le _⟩ dX12_keep_90 ?_
          intro H locs I
          obtain ⟨g25, hf⟩ := ri_some hf
          refine mas8 F I g25 dX12_keep_93 ?_
          intro H locs G26 eG26 I
          replace hf := nm_some eG26 hf
          obtain ⟨x27, ex27⟩ : ∃ y : Int32, y = x11 + (1 : Int32) := ⟨_, rfl⟩
          replace hf := nm_some ex27 hf
          refine lv_iinc (v := x27) (lv' := [(1, .int x27), (0, .ref (ad 0))]) hx hb dX12_keep_94 hl (k := 1) rfl (by rw [ex27]; rfl) (by decide) rfl (fun ls hl => ?_)
          refine lv_goto (tgt := 67) hx hb dX12_keep_97 (by decide) ?_
          cases hf
          exact ih1 _ _ hK1 H locs I ls (lv_sub hl [1, 0] rfl)
    exact L1 FU _ _ hq1 H locs I ls (lv_sub hl [1, 0] rfl)
  replace hf := hv29
  refine lv_icmp_ne (tgt := 13) hx hb dX12_keep_6 (by decide) (fun c32 => ?_) (fun c32 => ?_)
  · replace hf := (if_neg c32).symm.trans hf
    cases hf
    exact J1 H locs I ls (lv_sub hl [0] rfl)
  · replace hf := (if_pos c32).symm.trans hf
    refine lv_aload_n hx hb dX12_keep_9 rfl (lv_at hl 0 rfl) ?_
    obtain ⟨G30, h31, hf⟩ := bd_some hf
    refine s_callVv (As := []) (rest := []) F I (cM_dropOldest G E Dd G30 h31) kX12_138 ⟨rfl, rfl⟩ ⟨Nat.le_trans (Nat.le_of_ble_eq_true rfl) hRf, Nat.le_trans (Nat.le_of_ble_eq_true rfl) hRl⟩ 0 12 rfl rfl rfl rfl rfl hl.1 (Nat.le_of_ble_eq_true rfl) ⟨Nat.zero_le _, Nat.zero_le _⟩ dX12_keep_10 ?_
    intro H locs I
    cases hf
    exact J1 H locs I ls (lv_sub hl [0] rfl)
def M_add (G : Nat → Nat → Int32) (a0 : Int32) (a1 : Int32) (a2 : Int32) (a3 : Int32) : Option ((Nat → Nat → Int32)) :=
ri 48 (G 4 0) <|
nm (wr G 5 (G 4 0) a0) fun G2 =>
ri 48 (G2 4 0) <|
nm (wr G2 6 (G2 4 0) a1) fun G4 =>
ri 48 (G4 4 0) <|
nm (wr G4 7 (G4 4 0) a2) fun G6 =>
ri 48 (G6 4 0) <|
nm (wr G6 8 (G6 4 0) a3) fun G8 =>
nm (wf G8 4 ((G8 4 0) + (1 : Int32))) fun G9 =>
some G9
set_option maxRecDepth 100000 in
set_option maxHeartbeats 4000000 in
theorem cM_add (G : Nat → Nat → Int32) (E : Nat → Nat → Int64) (Dd : Nat → Nat → UInt64) (a0 : Int32) (a1 : Int32) (a2 : Int32) (a3 : Int32)  (newG : Nat → Nat → Int32) (hf : M_add G a0 a1 a2 a3 = some newG) : sMv D (mT cI cJ cD) (mW ad cI cJ cD) l yX12_add (ws1 yX12_add cX12_add 5 none) ({ frames := 0, cells := 0, slots := 0, locals := 0 }) [.ref (ad 0), .int a0, .int a1, .int a2, .int a3] (G, E, Dd) (newG, E, Dd) := by
  unfold M_add at hf
  refine sMv_of (by decide) (Nat.le_of_ble_eq_true rfl) ?_
  intro p e R s m args below meth c A Q ls H locs F hRf hRl I hl ret
  obtain ⟨hx, hb, hml, hown, hG⟩ := id F
  replace hl : lv_has ls 5 [(0, .ref (ad 0)), (1, .int a0), (2, .int a1), (3, .int a2), (4, .int a3)] := hl
  refine lv_aload_n hx hb dX12_add_0 rfl (lv_at hl 0 rfl) ?_
  refine mgtX12_13_0 F I dX12_add_1 ?_
  refine lv_aload_n hx hb dX12_add_4 rfl (lv_at hl 0 rfl) ?_
  refine mgtX12_102_0 F I dX12_add_5 ?_
  refine lv_iload_n hx hb dX12_add_8 rfl (lv_at hl 1 rfl) ?_
  obtain ⟨g1, hf⟩ := ri_some hf
  refine mas2 F I g1 dX12_add_9 ?_
  intro H locs G2 eG2 I
  replace hf := nm_some eG2 hf
  refine lv_aload_n hx hb dX12_add_10 rfl (lv_at hl 0 rfl) ?_
  refine mgtX12_16_0 F I dX12_add_11 ?_
  refine lv_aload_n hx hb dX12_add_14 rfl (lv_at hl 0 rfl) ?_
  refine mgtX12_102_0 F I dX12_add_15 ?_
  refine lv_iload_n hx hb dX12_add_18 rfl (lv_at hl 2 rfl) ?_
  obtain ⟨g3, hf⟩ := ri_some hf
  refine mas3 F I g3 dX12_add_19 ?_
  intro H locs G4 eG4 I
  replace hf := nm_some eG4 hf
  refine lv_aload_n hx hb dX12_add_20 rfl (lv_at hl 0 rfl) ?_
  refine mgtX12_19_0 F I dX12_add_21 ?_
  refine lv_aload_n hx hb dX12_add_24 rfl (lv_at hl 0 rfl) ?_
  refine mgtX12_102_0 F I dX12_add_25 ?_
  refine lv_iload_n hx hb dX12_add_28 rfl (lv_at hl 3 rfl) ?_
  obtain ⟨g5, hf⟩ := ri_some hf
  refine mas4 F I g5 dX12_add_29 ?_
  intro H locs G6 eG6 I
  replace hf := nm_some eG6 hf
  refine lv_aload_n hx hb dX12_add_30 rfl (lv_at hl 0 rfl) ?_
  refine mgtX12_22_0 F I dX12_add_31 ?_
  refine lv_aload_n hx hb dX12_add_34 rfl (lv_at hl 0 rfl) ?_
  refine mgtX12_102_0 F I dX12_add_35 ?_
  refine lv_iload hx hb dX12_add_38 (lv_at hl 4 rfl) ?_
  obtain ⟨g7, hf⟩ := ri_some hf
  refine mas5 F I g7 dX12_add_40 ?_
  intro H locs G8 eG8 I
  replace hf := nm_some eG8 hf
  refine lv_aload_n hx hb dX12_add_41 rfl (lv_at hl 0 rfl) ?_
  refine lv_dup hx hb dX12_add_42 rfl ?_
  refine mgtX12_102_0 F I dX12_add_43 ?_
  refine lv_iconst (v := (1 : Int32)) hx hb dX12_add_46 (by decide) ?_
  refine lv_iadd hx hb dX12_add_47 ?_
  refine mptX12_102_0 F I dX12_add_48 ?_
  intro H locs G9 eG9 I
  replace hf := nm_some eG9 hf
  cases hf
  exact ret H locs _ ls I dX12_add_51
def M_answer (G : Nat → Nat → Int32) (a0 : Int32) : Option (Int32 × (Nat → Nat → Int32)) :=
bd (if G 9 0 = (-1 : Int32) then
(some (0 : Int32))
else
(if G 10 0 ≤ G 11 0 then
(some (0 : Int32))
else
(if (48 : Int32) ≤ G 4 0 then
(some (0 : Int32))
else
(some (1 : Int32))))) fun x2 =>
bd (if x2 = 0 then
(some (1 : Int32))
else
(bd (M_within a0 (0 : Int32) (2 : Int32)) fun r15 =>
if r15 = 0 then
(some (2 : Int32))
else
(some (0 : Int32)))) fun x4 =>
nm (wf G 0 x4) fun G5 =>
if G5 0 0 ≤ 0 then
(bd (M_keep G5) fun G6 =>
ri 56 (G6 11 0) <|
ri 56 (G6 11 0) <|
bd (M_add G6 (G6 9 0) ((G6 12 (G6 11 0).toNatClampNeg) / (10 : Int32)) ((G6 12 (G6 11 0).toNatClampNeg) - (G6 12 (G6 11 0).toNatClampNeg) / (10 : Int32) * (10 : Int32)) a0) fun G10 =>
nm (wf G10 11 ((G10 11 0) + (1 : Int32))) fun G12 =>
some ((G12 10 0) - (G12 11 0), G12))
else
(some ((0 : Int32), G5))
set_option maxRecDepth 100000 in
set_option maxHeartbeats 4000000 in
theorem cM_answer (G : Nat → Nat → Int32) (E : Nat → Nat → Int64) (Dd : Nat → Nat → UInt64) (a0 : Int32) (rv : Int32) (newG : Nat → Nat → Int32) (hf : M_answer G a0 = some (rv, newG)) : sMi D (mT cI cJ cD) (mW ad cI cJ cD) l yX12_answer (ws1 yX12_answer cX12_answer 3 (some .int)) ({ frames := 2, cells := 0, slots := 0, locals := 42 }) [.ref (ad 0), .int a0] (G, E, Dd) (rv, (newG, E, Dd)) := by
  unfold M_answer at hf
  refine sMi_of (by decide) (Nat.le_of_ble_eq_true rfl) ?_
  intro p e R s m args below meth c A Q ls H locs F hRf hRl I hl ret
  obtain ⟨hx, hb, hml, hown, hG⟩ := id F
  replace hl : lv_has ls 3 [(0, .ref (ad 0)), (1, .int a0)] := hl
  refine lv_aload_n hx hb dX12_answer_0 rfl (lv_at hl 0 rfl) ?_
  refine mgtX12_25_0 F I dX12_answer_1 ?_
  refine lv_iconst (v := (-1 : Int32)) hx hb dX12_answer_4 (by decide) ?_
  obtain ⟨x2, hv19, hf⟩ := bd_some hf
  have J1 : ∀ (H : Heap) (locs : List Loc), sInv D (mT cI cJ cD) (mW ad cI cJ cD) A s H locs (G, E, Dd) → ∀ (ls : Array Slot), lv_has ls 3 [(0, .ref (ad 0)), (1, .int a0)] → W p l e R s m args below meth c H locs 0 0 Q (F0 m 33 ls [.int x2]) := by
    intro H locs I ls hl
    refine lv_istore_n (lv' := [(2, .int x2), (0, .ref (ad 0)), (1, .int a0)]) hx hb dX12_answer_33 rfl hl (by decide) rfl (fun ls hl => ?_)
    refine lv_aload_n hx hb dX12_answer_34 rfl (lv_at hl 1 rfl) ?_
    refine lv_iload_n hx hb dX12_answer_35 rfl (lv_at hl 0 rfl) ?_
    obtain ⟨x4, hv14, hf⟩ := bd_some hf
    have J3 : ∀ (H : Heap) (locs : List Loc), sInv D (mT cI cJ cD) (mW ad cI cJ cD) A s H locs (G, E, Dd) → ∀ (ls : Array Slot), lv_has ls 3 [(0, .ref (ad 0)), (1, .int a0)] → W p l e R s m args below meth c H locs 0 0 Q (F0 m 57 ls [.int x4, .ref (ad 0)]) := by
      intro H locs I ls hl
      refine mptX12_89_0 F I dX12_answer_57 ?_
      intro H locs G5 eG5 I
      replace hf := nm_some eG5 hf
      refine lv_aload_n hx hb dX12_answer_60 rfl (lv_at hl 0 rfl) ?_
      refine mgtX12_89_0 F I dX12_answer_61 ?_
      refine lv_if_le (tgt := 69) hx hb dX12_answer_64 (by decide) (fun c13 => ?_) (fun c13 => ?_)
      · replace hf := (if_pos c13).symm.trans hf
        refine lv_aload_n hx hb dX12_answer_69 rfl (lv_at hl 0 rfl) ?_
        obtain ⟨G6, h7, hf⟩ := bd_some hf
        refine s_callVv (As := []) (rest := []) F I (cM_keep G5 E Dd G6 h7) kX12_144 ⟨rfl, rfl⟩ ⟨Nat.le_trans (Nat.le_of_ble_eq_true rfl) hRf, Nat.le_trans (Nat.le_of_ble_eq_true rfl) hRl⟩ 0 12 rfl rfl rfl rfl rfl hl.1 (Nat.le_of_ble_eq_true rfl) ⟨Nat.zero_le _, Nat.zero_le _⟩ dX12_answer_70 ?_
        intro H locs I
        refine lv_aload_n hx hb dX12_answer_73 rfl (lv_at hl 0 rfl) ?_
        refine lv_aload_n hx hb dX12_answer_74 rfl (lv_at hl 0 rfl) ?_
        refine mgtX12_25_0 F I dX12_answer_75 ?_
        refine lv_aload_n hx hb dX12_answer_78 rfl (lv_at hl 0 rfl) ?_
        refine mgtX12_29_0 F I dX12_answer_79 ?_
        refine lv_aload_n hx hb dX12_answer_82 rfl (lv_at hl 0 rfl) ?_
        refine mgtX12_108_0 F I dX12_answer_83 ?_
        obtain ⟨g8, hf⟩ := ri_some hf
        refine mal6 F I g8 dX12_answer_86 ?_
        refine lv_bipush (v := (10 : Int32)) hx hb dX12_answer_87 (by decide) ?_
        refine lv_idiv hx hb dX12_answer_89 (by decide) ?_
        refine lv_aload_n hx hb dX12_answer_90 rfl (lv_at hl 0 rfl) ?_
        refine mgtX12_29_0 F I dX12_answer_91 ?_
        refine lv_aload_n hx hb dX12_answer_94 rfl (lv_at hl 0 rfl) ?_
        refine mgtX12_108_0 F I dX12_answer_95 ?_
        obtain ⟨g9, hf⟩ := ri_some hf
        refine mal6 F I g9 dX12_answer_98 ?_
        refine lv_bipush (v := (10 : Int32)) hx hb dX12_answer_99 (by decide) ?_
        refine lv_irem hx hb dX12_answer_101 (by decide) ?_
        refine lv_iload_n hx hb dX12_answer_102 rfl (lv_at hl 1 rfl) ?_
        obtain ⟨G10, h11, hf⟩ := bd_some hf
        refine s_callVv (As := [.int (G6 9 0), .int ((G6 12 (G6 11 0).toNatClampNeg) / (10 : Int32)), .int ((G6 12 (G6 11 0).toNatClampNeg) - (G6 12 (G6 11 0).toNatClampNeg) / (10 : Int32) * (10 : Int32)), .int a0]) (rest := []) F I (cM_add G6 E Dd (G6 9 0) ((G6 12 (G6 11 0).toNatClampNeg) / (10 : Int32)) ((G6 12 (G6 11 0).toNatClampNeg) - (G6 12 (G6 11 0).toNatClampNeg) / (10 : Int32) * (10 : Int32)) a0 G10 h11) kX12_147 ⟨rfl, rfl⟩ ⟨Nat.le_trans (Nat.le_of_ble_eq_true rfl) hRf, Nat.le_trans (Nat.le_of_ble_eq_true rfl) hRl⟩ 0 12 rfl rfl rfl rfl rfl hl.1 (Nat.le_of_ble_eq_true rfl) ⟨Nat.zero_le _, Nat.zero_le _⟩ dX12_answer_103 ?_
        intro H locs I
        refine lv_aload_n hx hb dX12_answer_106 rfl (lv_at hl 0 rfl) ?_
        refine lv_dup hx hb dX12_answer_107 rfl ?_
        refine mgtX12_108_0 F I dX12_answer_108 ?_
        refine lv_iconst (v := (1 : Int32)) hx hb dX12_answer_111 (by decide) ?_
        refine lv_iadd hx hb dX12_answer_112 ?_
        refine mptX12_108_0 F I dX12_answer_113 ?_
        intro H locs G12 eG12 I
        replace hf := nm_some eG12 hf
        refine lv_aload_n hx hb dX12_answer_116 rfl (lv_at hl 0 rfl) ?_
        refine mgtX12_105_0 F I dX12_answer_117 ?_
        refine lv_aload_n hx hb dX12_answer_120 rfl (lv_at hl 0 rfl) ?_
        refine mgtX12_108_0 F I dX12_answer_121 ?_
        refine lv_isub hx hb dX12_answer_124 ?_
        cases hf
        exact ret H locs _ ls I dX12_answer_125
      · replace hf := (if_neg c13).symm.trans hf
        refine lv_iconst (v := (0 : Int32)) hx hb dX12_answer_67 (by decide) ?_
        cases hf
        exact ret H locs _ ls I dX12_answer_68
    replace hf := hv14
    refine lv_if_ne (tgt := 43) hx hb dX12_answer_36 (by decide) (fun c18 => ?_) (fun c18 => ?_)
    · replace hf := (if_neg c18).symm.trans hf
      refine lv_iload_n hx hb dX12_answer_43 rfl (lv_at hl 2 rfl) ?_
      refine lv_iconst (v := (0 : Int32)) hx hb dX12_answer_44 (by decide) ?_
      refine lv_iconst (v := (2 : Int32)) hx hb dX12_answer_45 (by decide) ?_
      obtain ⟨r15, h16, hf⟩ := bd_some hf
      refine s_callSi (As := [.int a0, .int (0 : Int32), .int (2 : Int32)]) (rest := [.ref (ad 0)]) F I (cM_within G E Dd a0 (0 : Int32) (2 : Int32) r15 h16) kX12_95 ⟨rfl, rfl⟩ ⟨Nat.le_trans (Nat.le_of_ble_eq_true rfl) hRf, Nat.le_trans (Nat.le_of_ble_eq_true rfl) hRl⟩ rfl rfl hl.1 (Nat.le_of_ble_eq_true rfl) ⟨Nat.zero_le _, Nat.zero_le _⟩ dX12_answer_46 ?_
      intro H locs I
      refine lv_if_eq (tgt := 56) hx hb dX12_answer_49 (by decide) (fun c17 => ?_) (fun c17 => ?_)
      · replace hf := (if_pos c17).symm.trans hf
        refine lv_iconst (v := (2 : Int32)) hx hb dX12_answer_56 (by decide) ?_
        cases hf
        exact J3 H locs I ls (lv_sub hl [1, 2] rfl)
      · replace hf := (if_neg c17).symm.trans hf
        refine lv_iconst (v := (0 : Int32)) hx hb dX12_answer_52 (by decide) ?_
        refine lv_goto (tgt := 57) hx hb dX12_answer_53 (by decide) ?_
        cases hf
        exact J3 H locs I ls (lv_sub hl [1, 2] rfl)
    · replace hf := (if_pos c18).symm.trans hf
      refine lv_iconst (v := (1 : Int32)) hx hb dX12_answer_39 (by decide) ?_
      refine lv_goto (tgt := 57) hx hb dX12_answer_40 (by decide) ?_
      cases hf
      exact J3 H locs I ls (lv_sub hl [1, 2] rfl)
  replace hf := hv19
  refine lv_icmp_eq (tgt := 32) hx hb dX12_answer_5 (by decide) (fun c22 => ?_) (fun c22 => ?_)
  · replace hf := (if_pos c22).symm.trans hf
    refine lv_iconst (v := (0 : Int32)) hx hb dX12_answer_32 (by decide) ?_
    cases hf
    exact J1 H locs I ls (lv_sub hl [0, 1] rfl)
  · replace hf := (if_neg c22).symm.trans hf
    refine lv_aload_n hx hb dX12_answer_8 rfl (lv_at hl 0 rfl) ?_
    refine mgtX12_108_0 F I dX12_answer_9 ?_
    refine lv_aload_n hx hb dX12_answer_12 rfl (lv_at hl 0 rfl) ?_
    refine mgtX12_105_0 F I dX12_answer_13 ?_
    refine lv_icmp_ge (tgt := 32) hx hb dX12_answer_16 (by decide) (fun c21 => ?_) (fun c21 => ?_)
    · replace hf := (if_pos c21).symm.trans hf
      refine lv_iconst (v := (0 : Int32)) hx hb dX12_answer_32 (by decide) ?_
      cases hf
      exact J1 H locs I ls (lv_sub hl [0, 1] rfl)
    · replace hf := (if_neg c21).symm.trans hf
      refine lv_aload_n hx hb dX12_answer_19 rfl (lv_at hl 0 rfl) ?_
      refine mgtX12_102_0 F I dX12_answer_20 ?_
      refine lv_bipush (v := (48 : Int32)) hx hb dX12_answer_23 (by decide) ?_
      refine lv_icmp_ge (tgt := 32) hx hb dX12_answer_25 (by decide) (fun c20 => ?_) (fun c20 => ?_)
      · replace hf := (if_pos c20).symm.trans hf
        refine lv_iconst (v := (0 : Int32)) hx hb dX12_answer_32 (by decide) ?_
        cases hf
        exact J1 H locs I ls (lv_sub hl [0, 1] rfl)
      · replace hf := (if_neg c20).symm.trans hf
        refine lv_iconst (v := (1 : Int32)) hx hb dX12_answer_28 (by decide) ?_
        refine lv_goto (tgt := 33) hx hb dX12_answer_29 (by decide) ?_
        cases hf
        exact J1 H locs I ls (lv_sub hl [0, 1] rfl)
def M_compare (G : Nat → Nat → Int32) (a0 : Int32) (a1 : Int32) (a2 : Int32) (a3 : Int32) : Option (Int32 × (Nat → Nat → Int32)) :=
bd (M_isListener G a0) fun r1 =>
bd (if r1 = 0 then
(some (1 : Int32))
else
(bd (M_isSample G a1) fun r12 =>
if r12 = 0 then
(some (1 : Int32))
else
(bd (M_isSample G a2) fun r14 =>
if r14 = 0 then
(some (1 : Int32))
else
(if a1 = a2 then
(some (2 : Int32))
else
(bd (M_within a3 (0 : Int32) (2 : Int32)) fun r16 =>
if r16 = 0 then
(some (2 : Int32))
else
(if G 4 0 = (48 : Int32) then
(some (3 : Int32))
else
(some (0 : Int32)))))))) fun x4 =>
nm (wf G 0 x4) fun G5 =>
if G5 0 0 ≤ 0 then
(bd (M_keep G5) fun G6 =>
bd (M_add G6 a0 a1 a2 a3) fun G8 =>
some ((G8 4 0) - (1 : Int32), G8))
else
(some ((0 : Int32), G5))
set_option maxRecDepth 100000 in
set_option maxHeartbeats 4000000 in
theorem cM_compare (G : Nat → Nat → Int32) (E : Nat → Nat → Int64) (Dd : Nat → Nat → UInt64) (a0 : Int32) (a1 : Int32) (a2 : Int32) (a3 : Int32) (rv : Int32) (newG : Nat → Nat → Int32) (hf : M_compare G a0 a1 a2 a3 = some (rv, newG)) : sMi D (mT cI cJ cD) (mW ad cI cJ cD) l yX12_compare (ws1 yX12_compare cX12_compare 5 (some .int)) ({ frames := 2, cells := 0, slots := 0, locals := 43 }) [.ref (ad 0), .int a0, .int a1, .int a2, .int a3] (G, E, Dd) (rv, (newG, E, Dd)) := by
  unfold M_compare at hf
  refine sMi_of (by decide) (Nat.le_of_ble_eq_true rfl) ?_
  intro p e R s m args below meth c A Q ls H locs F hRf hRl I hl ret
  obtain ⟨hx, hb, hml, hown, hG⟩ := id F
  replace hl : lv_has ls 5 [(0, .ref (ad 0)), (1, .int a0), (2, .int a1), (3, .int a2), (4, .int a3)] := hl
  refine lv_aload_n hx hb dX12_compare_0 rfl (lv_at hl 0 rfl) ?_
  refine lv_aload_n hx hb dX12_compare_1 rfl (lv_at hl 0 rfl) ?_
  refine lv_iload_n hx hb dX12_compare_2 rfl (lv_at hl 1 rfl) ?_
  obtain ⟨r1, h2, hf⟩ := bd_some hf
  refine s_callVi (As := [.int a0]) (rest := [.ref (ad 0)]) F I (cM_isListener G E Dd a0 r1 h2) kX12_114 ⟨rfl, rfl⟩ ⟨Nat.le_trans (Nat.le_of_ble_eq_true rfl) hRf, Nat.le_trans (Nat.le_of_ble_eq_true rfl) hRl⟩ 0 12 rfl rfl rfl rfl rfl hl.1 (Nat.le_of_ble_eq_true rfl) ⟨Nat.zero_le _, Nat.zero_le _⟩ dX12_compare_3 ?_
  intro H locs I
  obtain ⟨x4, hv11, hf⟩ := bd_some hf
  have J3 : ∀ (H : Heap) (locs : List Loc), sInv D (mT cI cJ cD) (mW ad cI cJ cD) A s H locs (G, E, Dd) → ∀ (ls : Array Slot), lv_has ls 5 [(0, .ref (ad 0)), (1, .int a0), (2, .int a1), (3, .int a2), (4, .int a3)] → W p l e R s m args below meth c H locs 0 0 Q (F0 m 62 ls [.int x4, .ref (ad 0)]) := by
    intro H locs I ls hl
    refine mptX12_89_0 F I dX12_compare_62 ?_
    intro H locs G5 eG5 I
    replace hf := nm_some eG5 hf
    refine lv_aload_n hx hb dX12_compare_65 rfl (lv_at hl 0 rfl) ?_
    refine mgtX12_89_0 F I dX12_compare_66 ?_
    refine lv_if_le (tgt := 74) hx hb dX12_compare_69 (by decide) (fun c10 => ?_) (fun c10 => ?_)
    · replace hf := (if_pos c10).symm.trans hf
      refine lv_aload_n hx hb dX12_compare_74 rfl (lv_at hl 0 rfl) ?_
      obtain ⟨G6, h7, hf⟩ := bd_some hf
      refine s_callVv (As := []) (rest := []) F I (cM_keep G5 E Dd G6 h7) kX12_144 ⟨rfl, rfl⟩ ⟨Nat.le_trans (Nat.le_of_ble_eq_true rfl) hRf, Nat.le_trans (Nat.le_of_ble_eq_true rfl) hRl⟩ 0 12 rfl rfl rfl rfl rfl hl.1 (Nat.le_of_ble_eq_true rfl) ⟨Nat.zero_le _, Nat.zero_le _⟩ dX12_compare_75 ?_
      intro H locs I
      refine lv_aload_n hx hb dX12_compare_78 rfl (lv_at hl 0 rfl) ?_
      refine lv_iload_n hx hb dX12_compare_79 rfl (lv_at hl 1 rfl) ?_
      refine lv_iload_n hx hb dX12_compare_80 rfl (lv_at hl 2 rfl) ?_
      refine lv_iload_n hx hb dX12_compare_81 rfl (lv_at hl 3 rfl) ?_
      refine lv_iload hx hb dX12_compare_82 (lv_at hl 4 rfl) ?_
      obtain ⟨G8, h9, hf⟩ := bd_some hf
      refine s_callVv (As := [.int a0, .int a1, .int a2, .int a3]) (rest := []) F I (cM_add G6 E Dd a0 a1 a2 a3 G8 h9) kX12_147 ⟨rfl, rfl⟩ ⟨Nat.le_trans (Nat.le_of_ble_eq_true rfl) hRf, Nat.le_trans (Nat.le_of_ble_eq_true rfl) hRl⟩ 0 12 rfl rfl rfl rfl rfl hl.1 (Nat.le_of_ble_eq_true rfl) ⟨Nat.zero_le _, Nat.zero_le _⟩ dX12_compare_84 ?_
      intro H locs I
      refine lv_aload_n hx hb dX12_compare_87 rfl (lv_at hl 0 rfl) ?_
      refine mgtX12_102_0 F I dX12_compare_88 ?_
      refine lv_iconst (v := (1 : Int32)) hx hb dX12_compare_91 (by decide) ?_
      refine lv_isub hx hb dX12_compare_92 ?_
      cases hf
      exact ret H locs _ ls I dX12_compare_93
    · replace hf := (if_neg c10).symm.trans hf
      refine lv_iconst (v := (0 : Int32)) hx hb dX12_compare_72 (by decide) ?_
      cases hf
      exact ret H locs _ ls I dX12_compare_73
  replace hf := hv11
  refine lv_if_eq (tgt := 25) hx hb dX12_compare_6 (by decide) (fun c23 => ?_) (fun c23 => ?_)
  · replace hf := (if_pos c23).symm.trans hf
    refine lv_iconst (v := (1 : Int32)) hx hb dX12_compare_25 (by decide) ?_
    refine lv_goto (tgt := 62) hx hb dX12_compare_26 (by decide) ?_
    cases hf
    exact J3 H locs I ls (lv_sub hl [0, 1, 2, 3, 4] rfl)
  · replace hf := (if_neg c23).symm.trans hf
    refine lv_aload_n hx hb dX12_compare_9 rfl (lv_at hl 0 rfl) ?_
    refine lv_iload_n hx hb dX12_compare_10 rfl (lv_at hl 2 rfl) ?_
    obtain ⟨r12, h13, hf⟩ := bd_some hf
    refine s_callVi (As := [.int a1]) (rest := [.ref (ad 0)]) F I (cM_isSample G E Dd a1 r12 h13) kX12_151 ⟨rfl, rfl⟩ ⟨Nat.le_trans (Nat.le_of_ble_eq_true rfl) hRf, Nat.le_trans (Nat.le_of_ble_eq_true rfl) hRl⟩ 0 12 rfl rfl rfl rfl rfl hl.1 (Nat.le_of_ble_eq_true rfl) ⟨Nat.zero_le _, Nat.zero_le _⟩ dX12_compare_11 ?_
    intro H locs I
    refine lv_if_eq (tgt := 25) hx hb dX12_compare_14 (by decide) (fun c22 => ?_) (fun c22 => ?_)
    · replace hf := (if_pos c22).symm.trans hf
      refine lv_iconst (v := (1 : Int32)) hx hb dX12_compare_25 (by decide) ?_
      refine lv_goto (tgt := 62) hx hb dX12_compare_26 (by decide) ?_
      cases hf
      exact J3 H locs I ls (lv_sub hl [0, 1, 2, 3, 4] rfl)
    · replace hf := (if_neg c22).symm.trans hf
      refine lv_aload_n hx hb dX12_compare_17 rfl (lv_at hl 0 rfl) ?_
      refine lv_iload_n hx hb dX12_compare_18 rfl (lv_at hl 3 rfl) ?_
      obtain ⟨r14, h15, hf⟩ := bd_some hf
      refine s_callVi (As := [.int a2]) (rest := [.ref (ad 0)]) F I (cM_isSample G E Dd a2 r14 h15) kX12_151 ⟨rfl, rfl⟩ ⟨Nat.le_trans (Nat.le_of_ble_eq_true rfl) hRf, Nat.le_trans (Nat.le_of_ble_eq_true rfl) hRl⟩ 0 12 rfl rfl rfl rfl rfl hl.1 (Nat.le_of_ble_eq_true rfl) ⟨Nat.zero_le _, Nat.zero_le _⟩ dX12_compare_19 ?_
      intro H locs I
      refine lv_if_ne (tgt := 29) hx hb dX12_compare_22 (by decide) (fun c21 => ?_) (fun c21 => ?_)
      · replace hf := (if_neg c21).symm.trans hf
        refine lv_iload_n hx hb dX12_compare_29 rfl (lv_at hl 2 rfl) ?_
        refine lv_iload_n hx hb dX12_compare_30 rfl (lv_at hl 3 rfl) ?_
        refine lv_icmp_eq (tgt := 44) hx hb dX12_compare_31 (by decide) (fun c20 => ?_) (fun c20 => ?_)
        · replace hf := (if_pos c20).symm.trans hf
          refine lv_iconst (v := (2 : Int32)) hx hb dX12_compare_44 (by decide) ?_
          refine lv_goto (tgt := 62) hx hb dX12_compare_45 (by decide) ?_
          cases hf
          exact J3 H locs I ls (lv_sub hl [0, 1, 2, 3, 4] rfl)
        · replace hf := (if_neg c20).symm.trans hf
          refine lv_iload hx hb dX12_compare_34 (lv_at hl 4 rfl) ?_
          refine lv_iconst (v := (0 : Int32)) hx hb dX12_compare_36 (by decide) ?_
          refine lv_iconst (v := (2 : Int32)) hx hb dX12_compare_37 (by decide) ?_
          obtain ⟨r16, h17, hf⟩ := bd_some hf
          refine s_callSi (As := [.int a3, .int (0 : Int32), .int (2 : Int32)]) (rest := [.ref (ad 0)]) F I (cM_within G E Dd a3 (0 : Int32) (2 : Int32) r16 h17) kX12_95 ⟨rfl, rfl⟩ ⟨Nat.le_trans (Nat.le_of_ble_eq_true rfl) hRf, Nat.le_trans (Nat.le_of_ble_eq_true rfl) hRl⟩ rfl rfl hl.1 (Nat.le_of_ble_eq_true rfl) ⟨Nat.zero_le _, Nat.zero_le _⟩ dX12_compare_38 ?_
          intro H locs I
          refine lv_if_ne (tgt := 48) hx hb dX12_compare_41 (by decide) (fun c19 => ?_) (fun c19 => ?_)
          · replace hf := (if_neg c19).symm.trans hf
            refine lv_aload_n hx hb dX12_compare_48 rfl (lv_at hl 0 rfl) ?_
            refine mgtX12_102_0 F I dX12_compare_49 ?_
            refine lv_bipush (v := (48 : Int32)) hx hb dX12_compare_52 (by decide) ?_
            refine lv_icmp_ne (tgt := 61) hx hb dX12_compare_54 (by decide) (fun c18 => ?_) (fun c18 => ?_)
            · replace hf := (if_neg c18).symm.trans hf
              refine lv_iconst (v := (0 : Int32)) hx hb dX12_compare_61 (by decide) ?_
              cases hf
              exact J3 H locs I ls (lv_sub hl [0, 1, 2, 3, 4] rfl)
            · replace hf := (if_pos c18).symm.trans hf
              refine lv_iconst (v := (3 : Int32)) hx hb dX12_compare_57 (by decide) ?_
              refine lv_goto (tgt := 62) hx hb dX12_compare_58 (by decide) ?_
              cases hf
              exact J3 H locs I ls (lv_sub hl [0, 1, 2, 3, 4] rfl)
          · replace hf := (if_pos c19).symm.trans hf
            refine lv_iconst (v := (2 : Int32)) hx hb dX12_compare_44 (by decide) ?_
            refine lv_goto (tgt := 62) hx hb dX12_compare_45 (by decide) ?_
            cases hf
            exact J3 H locs I ls (lv_sub hl [0, 1, 2, 3, 4] rfl)
      · replace hf := (if_pos c21).symm.trans hf
        refine lv_iconst (v := (1 : Int32)) hx hb dX12_compare_25 (by decide) ?_
        refine lv_goto (tgt := 62) hx hb dX12_compare_26 (by decide) ?_
        cases hf
        exact J3 H locs I ls (lv_sub hl [0, 1, 2, 3, 4] rfl)
def M_isComparison (G : Nat → Nat → Int32) (a0 : Int32) : Option (Int32) :=
bd (M_within a0 (0 : Int32) ((G 4 0) - (1 : Int32))) fun r1 =>
gd (r1 = 0 ∨ r1 = 1) <|
some r1
set_option maxRecDepth 100000 in
set_option maxHeartbeats 4000000 in
theorem cM_isComparison (G : Nat → Nat → Int32) (E : Nat → Nat → Int64) (Dd : Nat → Nat → UInt64) (a0 : Int32) (rv : Int32)  (hf : M_isComparison G a0 = some rv) : sMi D (mT cI cJ cD) (mW ad cI cJ cD) l yX12_isComparison (ws1 yX12_isComparison cX12_isComparison 2 (some .boolean)) ({ frames := 1, cells := 0, slots := 0, locals := 22 }) [.ref (ad 0), .int a0] (G, E, Dd) (rv, (G, E, Dd)) := by
  unfold M_isComparison at hf
  refine sMz_of (by decide) (Nat.le_of_ble_eq_true rfl) ?_
  intro p e R s m args below meth c A Q ls H locs F hRf hRl I hl ret
  obtain ⟨hx, hb, hml, hown, hG⟩ := id F
  replace hl : lv_has ls 2 [(0, .ref (ad 0)), (1, .int a0)] := hl
  refine lv_iload_n hx hb dX12_isComparison_0 rfl (lv_at hl 1 rfl) ?_
  refine lv_iconst (v := (0 : Int32)) hx hb dX12_isComparison_1 (by decide) ?_
  refine lv_aload_n hx hb dX12_isComparison_2 rfl (lv_at hl 0 rfl) ?_
  refine mgtX12_102_0 F I dX12_isComparison_3 ?_
  refine lv_iconst (v := (1 : Int32)) hx hb dX12_isComparison_6 (by decide) ?_
  refine lv_isub hx hb dX12_isComparison_7 ?_
  obtain ⟨r1, h2, hf⟩ := bd_some hf
  refine s_callSi (As := [.int a0, .int (0 : Int32), .int ((G 4 0) - (1 : Int32))]) (rest := []) F I (cM_within G E Dd a0 (0 : Int32) ((G 4 0) - (1 : Int32)) r1 h2) kX12_95 ⟨rfl, rfl⟩ ⟨Nat.le_trans (Nat.le_of_ble_eq_true rfl) hRf, Nat.le_trans (Nat.le_of_ble_eq_true rfl) hRl⟩ rfl rfl hl.1 (Nat.le_of_ble_eq_true rfl) ⟨Nat.zero_le _, Nat.zero_le _⟩ dX12_isComparison_8 ?_
  intro H locs I
  obtain ⟨g3, hf⟩ := gd_some hf
  cases hf
  exact ret H locs _ ls I g3 dX12_isComparison_11
def M_remove_s1  (x8 : Int32) (G9 : Nat → Nat → Int32) : Option ((Int32 × (Nat → Nat → Int32)) ⊕ ((Nat → Nat → Int32))) :=
if (G9 4 0) - (1 : Int32) ≤ x8 then
(some (.inr G9))
else
(bd (M_packed G9 (x8 + (1 : Int32))) fun r12 =>
bd (M_unpack G9 x8 r12) fun G14 =>
nm (x8 + (1 : Int32) : Int32) fun x16 =>
some (.inl (x16, G14)))
def M_remove (G : Nat → Nat → Int32) (a0 : Int32) : Option (Int32 × (Nat → Nat → Int32)) :=
bd (M_isComparison G a0) fun r1 =>
bd (if r1 = 0 then
(some (1 : Int32))
else
(some (0 : Int32))) fun x4 =>
nm (wf G 0 x4) fun G5 =>
if G5 0 0 ≤ 0 then
(bd (M_keep G5) fun G6 =>
bd (lp (fun q => M_remove_s1 q.1 q.2) FU (a0, G6)) fun G10 =>
nm (wf G10 4 ((G10 4 0) - (1 : Int32))) fun G11 =>
some (G11 4 0, G11))
else
(some ((0 : Int32), G5))
set_option maxRecDepth 100000 in
set_option maxHeartbeats 4000000 in
theorem cM_remove (G : Nat → Nat → Int32) (E : Nat → Nat → Int64) (Dd : Nat → Nat → UInt64) (a0 : Int32) (rv : Int32) (newG : Nat → Nat → Int32) (hf : M_remove G a0 = some (rv, newG)) : sMi D (mT cI cJ cD) (mW ad cI cJ cD) l yX12_remove (ws1 yX12_remove cX12_remove 3 (some .int)) ({ frames := 2, cells := 0, slots := 0, locals := 43 }) [.ref (ad 0), .int a0] (G, E, Dd) (rv, (newG, E, Dd)) := by
  unfold M_remove at hf
  refine sMi_of (by decide) (Nat.le_of_ble_eq_true rfl) ?_
  intro p e R s m args below meth c A Q ls H locs F hRf hRl I hl ret
  obtain ⟨hx, hb, hml, hown, hG⟩ := id F
  replace hl : lv_has ls 3 [(0, .ref (ad 0)), (1, .int a0)] := hl
  refine lv_aload_n hx hb dX12_remove_0 rfl (lv_at hl 0 rfl) ?_
  refine lv_aload_n hx hb dX12_remove_1 rfl (lv_at hl 0 rfl) ?_
  refine lv_iload_n hx hb dX12_remove_2 rfl (lv_at hl 1 rfl) ?_
  obtain ⟨r1, h2, hf⟩ := bd_some hf
  refine s_callVi (As := [.int a0]) (rest := [.ref (ad 0)]) F I (cM_isComparison G E Dd a0 r1 h2) kX12_154 ⟨rfl, rfl⟩ ⟨Nat.le_trans (Nat.le_of_ble_eq_true rfl) hRf, Nat.le_trans (Nat.le_of_ble_eq_true rfl) hRl⟩ 0 12 rfl rfl rfl rfl rfl hl.1 (Nat.le_of_ble_eq_true rfl) ⟨Nat.zero_le _, Nat.zero_le _⟩ dX12_remove_3 ?_
  intro H locs I
  obtain ⟨x4, hv19, hf⟩ := bd_some hf
  have J3 : ∀ (H : Heap) (locs : List Loc), sInv D (mT cI cJ cD) (mW ad cI cJ cD) A s H locs (G, E, Dd) → ∀ (ls : Array Slot), lv_has ls 3 [(0, .ref (ad 0)), (1, .int a0)] → W p l e R s m args below meth c H locs 0 0 Q (F0 m 14 ls [.int x4, .ref (ad 0)]) := by
    intro H locs I ls hl
    refine mptX12_89_0 F I dX12_remove_14 ?_
    intro H locs G5 eG5 I
    replace hf := nm_some eG5 hf
    refine lv_aload_n hx hb dX12_remove_17 rfl (lv_at hl 0 rfl) ?_
    refine mgtX12_89_0 F I dX12_remove_18 ?_
    refine lv_if_le (tgt := 26) hx hb dX12_remove_21 (by decide) (fun c18 => ?_) (fun c18 => ?_)
    · replace hf := (if_pos c18).symm.trans hf
      refine lv_aload_n hx hb dX12_remove_26 rfl (lv_at hl 0 rfl) ?_
      obtain ⟨G6, h7, hf⟩ := bd_some hf
      refine s_callVv (As := []) (rest := []) F I (cM_keep G5 E Dd G6 h7) kX12_144 ⟨rfl, rfl⟩ ⟨Nat.le_trans (Nat.le_of_ble_eq_true rfl) hRf, Nat.le_trans (Nat.le_of_ble_eq_true rfl) hRl⟩ 0 12 rfl rfl rfl rfl rfl hl.1 (Nat.le_of_ble_eq_true rfl) ⟨Nat.zero_le _, Nat.zero_le _⟩ dX12_remove_27 ?_
      intro H locs I
      refine lv_iload_n hx hb dX12_remove_30 rfl (lv_at hl 1 rfl) ?_
      refine lv_istore_n (lv' := [(2, .int a0), (0, .ref (ad 0)), (1, .int a0)]) hx hb dX12_remove_31 rfl hl (by decide) rfl (fun ls hl => ?_)
      obtain ⟨G10, hq1, hf⟩ := bd_some hf
      have K1 : ∀ (H : Heap) (locs : List Loc), sInv D (mT cI cJ cD) (mW ad cI cJ cD) A s H locs (G10, E, Dd) → ∀ (ls : Array Slot), lv_has ls 3 [(0, .ref (ad 0))] → W p l e R s m args below meth c H locs 0 0 Q (F0 m 60 ls []) := by
        intro H locs I ls hl
        refine lv_aload_n hx hb dX12_remove_60 rfl (lv_at hl 0 rfl) ?_
        refine lv_dup hx hb dX12_remove_61 rfl ?_
        refine mgtX12_102_0 F I dX12_remove_62 ?_
        refine lv_iconst (v := (1 : Int32)) hx hb dX12_remove_65 (by decide) ?_
        refine lv_isub hx hb dX12_remove_66 ?_
        refine mptX12_102_0 F I dX12_remove_67 ?_
        intro H locs G11 eG11 I
        replace hf := nm_some eG11 hf
        refine lv_aload_n hx hb dX12_remove_70 rfl (lv_at hl 0 rfl) ?_
        refine mgtX12_102_0 F I dX12_remove_71 ?_
        cases hf
        exact ret H locs _ ls I dX12_remove_74
      have L1 : ∀ (n : Nat) (x8 : Int32) (G9 : Nat → Nat → Int32), lp (fun q => M_remove_s1 q.1 q.2) n (x8, G9) = some G10 → ∀ (H : Heap) (locs : List Loc), sInv D (mT cI cJ cD) (mW ad cI cJ cD) A s H locs (G9, E, Dd) → ∀ (ls : Array Slot), lv_has ls 3 [(0, .ref (ad 0)), (2, .int x8)] → W p l e R s m args below meth c H locs 0 0 Q (F0 m 32 ls []) := by
        intro n
        induction n with
        | zero => intro x8 G9 hq; exact (lp_0 hq).elim
        | succ n ih1 =>
          intro x8 G9 hq H locs I ls hl
          obtain ⟨y1, hf, hK1⟩ := lp_go hq
          replace hf : M_remove_s1 x8 G9 = some y1 := hf
          unfold M_remove_s1 at hf
          refine lv_iload_n hx hb dX12_remove_32 rfl (lv_at hl 1 rfl) ?_
          refine lv_aload_n hx hb dX12_remove_33 rfl (lv_at hl 0 rfl) ?_
          refine mgtX12_102_0 F I dX12_remove_34 ?_
          refine lv_iconst (v := (1 : Int32)) hx hb dX12_remove_37 (by decide) ?_
          refine lv_isub hx hb dX12_remove_38 ?_
          refine lv_icmp_ge (tgt := 60) hx hb dX12_remove_39 (by decide) (fun c17 => ?_) (fun c17 => ?_)
          · replace hf := (if_pos c17).symm.trans hf
            cases hf
            cases (show G9 = G10 from hK1)
            exact K1 H locs I ls (lv_sub hl [0] rfl)
          · replace hf := (if_neg c17).symm.trans hf
            refine lv_aload_n hx hb dX12_remove_42 rfl (lv_at hl 0 rfl) ?_
            refine lv_iload_n hx hb dX12_remove_43 rfl (lv_at hl 1 rfl) ?_
            refine lv_aload_n hx hb dX12_remove_44 rfl (lv_at hl 0 rfl) ?_
            refine lv_iload_n hx hb dX12_remove_45 rfl (lv_at hl 1 rfl) ?_
            refine lv_iconst (v := (1 : Int32)) hx hb dX12_remove_46 (by decide) ?_
            refine lv_iadd hx hb dX12_remove_47 ?_
            obtain ⟨r12, h13, hf⟩ := bd_some hf
            refine s_callVi (As := [.int (x8 + (1 : Int32))]) (rest := [.int x8, .ref (ad 0)]) F I (cM_packed G9 E Dd (x8 + (1 : Int32)) r12 h13) kX12_141 ⟨rfl, rfl⟩ ⟨Nat.le_trans (Nat.le_of_ble_eq_true rfl) hRf, Nat.le_trans (Nat.le_of_ble_eq_true rfl) hRl⟩ 0 12 rfl rfl rfl rfl rfl hl.1 (Nat.le_of_ble_eq_true rfl) ⟨Nat.zero_le _, Nat.zero_le _⟩ dX12_remove_48 ?_
            intro H locs I
            obtain ⟨G14, h15, hf⟩ := bd_some hf
            refine s_callVv (As := [.int x8, .int r12]) (rest := []) F I (cM_unpack G9 E Dd x8 r12 G14 h15) kX12_157 ⟨rfl, rfl⟩ ⟨Nat.le_trans (Nat.le_of_ble_eq_true rfl) hRf, Nat.le_trans (Nat.le_of_ble_eq_true rfl) hRl⟩ 0 12 rfl rfl rfl rfl rfl hl.1 (Nat.le_of_ble_eq_true rfl) ⟨Nat.zero_le _, Nat.zero_le _⟩ dX12_remove_51 ?_
            intro H locs I
            obtain ⟨x16, ex16⟩ : ∃ y : Int32, y = x8 + (1 : Int32) := ⟨_, rfl⟩
            replace hf := nm_some ex16 hf
            refine lv_iinc (v := x16) (lv' := [(2, .int x16), (0, .ref (ad 0))]) hx hb dX12_remove_54 hl (k := 1) rfl (by rw [ex16]; rfl) (by decide) rfl (fun ls hl => ?_)
            refine lv_goto (tgt := 32) hx hb dX12_remove_57 (by decide) ?_
            cases hf
            exact ih1 _ _ hK1 H locs I ls (lv_sub hl [1, 0] rfl)
      exact L1 FU _ _ hq1 H locs I ls (lv_sub hl [1, 0] rfl)
    · replace hf := (if_neg c18).symm.trans hf
      refine lv_iconst (v := (0 : Int32)) hx hb dX12_remove_24 (by decide) ?_
      cases hf
      exact ret H locs _ ls I dX12_remove_25
  replace hf := hv19
  refine lv_if_eq (tgt := 13) hx hb dX12_remove_6 (by decide) (fun c20 => ?_) (fun c20 => ?_)
  · replace hf := (if_pos c20).symm.trans hf
    refine lv_iconst (v := (1 : Int32)) hx hb dX12_remove_13 (by decide) ?_
    cases hf
    exact J3 H locs I ls (lv_sub hl [0, 1] rfl)
  · replace hf := (if_neg c20).symm.trans hf
    refine lv_iconst (v := (0 : Int32)) hx hb dX12_remove_9 (by decide) ?_
    refine lv_goto (tgt := 14) hx hb dX12_remove_10 (by decide) ?_
    cases hf
    exact J3 H locs I ls (lv_sub hl [0, 1] rfl)
def M_undo_s2  (x16 : Int32) (G17 : Nat → Nat → Int32) : Option ((Int32 × (Nat → Nat → Int32)) ⊕ ((Nat → Nat → Int32))) :=
if G17 10 0 ≤ x16 then
(some (.inr G17))
else
(ri 672 (((56 : Int32) * (G17 13 0)) + x16) <|
ri 56 x16 <|
nm (wr G17 12 x16 (G17 19 (((56 : Int32) * (G17 13 0)) + x16).toNatClampNeg)) fun G21 =>
nm (x16 + (1 : Int32) : Int32) fun x22 =>
some (.inl (x22, G21)))
def M_undo_s1  (x13 : Int32) (G14 : Nat → Nat → Int32) : Option ((Int32 × (Nat → Nat → Int32)) ⊕ ((Nat → Nat → Int32))) :=
if G14 4 0 ≤ x13 then
(some (.inr G14))
else
(ri 576 (((48 : Int32) * (G14 13 0)) + x13) <|
bd (M_unpack G14 x13 (G14 15 (((48 : Int32) * (G14 13 0)) + x13).toNatClampNeg)) fun G25 =>
nm (x13 + (1 : Int32) : Int32) fun x27 =>
some (.inl (x27, G25)))
def M_undo (G : Nat → Nat → Int32) : Option (Int32 × (Nat → Nat → Int32)) :=
bd (if G 13 0 ≤ 0 then
(some (1 : Int32))
else
(some (0 : Int32))) fun x2 =>
nm (wf G 0 x2) fun G3 =>
if G3 0 0 ≤ 0 then
(nm (wf G3 13 ((G3 13 0) - (1 : Int32))) fun G4 =>
ri 12 (G4 13 0) <|
nm (wf G4 4 (G4 14 (G4 13 0).toNatClampNeg)) fun G6 =>
ri 12 (G6 13 0) <|
nm (wf G6 9 (G6 16 (G6 13 0).toNatClampNeg)) fun G8 =>
ri 12 (G8 13 0) <|
nm (wf G8 10 (G8 17 (G8 13 0).toNatClampNeg)) fun G10 =>
ri 12 (G10 13 0) <|
nm (wf G10 11 (G10 18 (G10 13 0).toNatClampNeg)) fun G12 =>
bd (lp (fun q => M_undo_s1 q.1 q.2) FU ((0 : Int32), G12)) fun G15 =>
bd (lp (fun q => M_undo_s2 q.1 q.2) FU ((0 : Int32), G15)) fun G18 =>
some (G18 4 0, G18))
else
(some ((0 : Int32), G3))
set_option maxRecDepth 100000 in
set_option maxHeartbeats 4000000 in
theorem cM_undo (G : Nat → Nat → Int32) (E : Nat → Nat → Int64) (Dd : Nat → Nat → UInt64)  (rv : Int32) (newG : Nat → Nat → Int32) (hf : M_undo G = some (rv, newG)) : sMi D (mT cI cJ cD) (mW ad cI cJ cD) l yX12_undo (ws1 yX12_undo cX12_undo 2 (some .int)) ({ frames := 1, cells := 0, slots := 0, locals := 22 }) [.ref (ad 0)] (G, E, Dd) (rv, (newG, E, Dd)) := by
  unfold M_undo at hf
  refine sMi_of (by decide) (Nat.le_of_ble_eq_true rfl) ?_
  intro p e R s m args below meth c A Q ls H locs F hRf hRl I hl ret
  obtain ⟨hx, hb, hml, hown, hG⟩ := id F
  replace hl : lv_has ls 2 [(0, .ref (ad 0))] := hl
  refine lv_aload_n hx hb dX12_undo_0 rfl (lv_at hl 0 rfl) ?_
  refine lv_aload_n hx hb dX12_undo_1 rfl (lv_at hl 0 rfl) ?_
  refine mgtX12_111_0 F I dX12_undo_2 ?_
  obtain ⟨x2, hv30, hf⟩ := bd_some hf
  have J1 : ∀ (H : Heap) (locs : List Loc), sInv D (mT cI cJ cD) (mW ad cI cJ cD) A s H locs (G, E, Dd) → ∀ (ls : Array Slot), lv_has ls 2 [(0, .ref (ad 0))] → W p l e R s m args below meth c H locs 0 0 Q (F0 m 13 ls [.int x2, .ref (ad 0)]) := by
    intro H locs I ls hl
    refine mptX12_89_0 F I dX12_undo_13 ?_
    intro H locs G3 eG3 I
    replace hf := nm_some eG3 hf
    refine lv_aload_n hx hb dX12_undo_16 rfl (lv_at hl 0 rfl) ?_
    refine mgtX12_89_0 F I dX12_undo_17 ?_
    refine lv_if_le (tgt := 25) hx hb dX12_undo_20 (by decide) (fun c29 => ?_) (fun c29 => ?_)
    · replace hf := (if_pos c29).symm.trans hf
      refine lv_aload_n hx hb dX12_undo_25 rfl (lv_at hl 0 rfl) ?_
      refine lv_dup hx hb dX12_undo_26 rfl ?_
      refine mgtX12_111_0 F I dX12_undo_27 ?_
      refine lv_iconst (v := (1 : Int32)) hx hb dX12_undo_30 (by decide) ?_
      refine lv_isub hx hb dX12_undo_31 ?_
      refine mptX12_111_0 F I dX12_undo_32 ?_
      intro H locs G4 eG4 I
      replace hf := nm_some eG4 hf
      refine lv_aload_n hx hb dX12_undo_35 rfl (lv_at hl 0 rfl) ?_
      refine lv_aload_n hx hb dX12_undo_36 rfl (lv_at hl 0 rfl) ?_
      refine mgtX12_32_0 F I dX12_undo_37 ?_
      refine lv_aload_n hx hb dX12_undo_40 rfl (lv_at hl 0 rfl) ?_
      refine mgtX12_111_0 F I dX12_undo_41 ?_
      obtain ⟨g5, hf⟩ := ri_some hf
      refine mal7 F I g5 dX12_undo_44 ?_
      refine mptX12_102_0 F I dX12_undo_45 ?_
      intro H locs G6 eG6 I
      replace hf := nm_some eG6 hf
      refine lv_aload_n hx hb dX12_undo_48 rfl (lv_at hl 0 rfl) ?_
      refine lv_aload_n hx hb dX12_undo_49 rfl (lv_at hl 0 rfl) ?_
      refine mgtX12_38_0 F I dX12_undo_50 ?_
      refine lv_aload_n hx hb dX12_undo_53 rfl (lv_at hl 0 rfl) ?_
      refine mgtX12_111_0 F I dX12_undo_54 ?_
      obtain ⟨g7, hf⟩ := ri_some hf
      refine mal9 F I g7 dX12_undo_57 ?_
      refine mptX12_25_0 F I dX12_undo_58 ?_
      intro H locs G8 eG8 I
      replace hf := nm_some eG8 hf
      refine lv_aload_n hx hb dX12_undo_61 rfl (lv_at hl 0 rfl) ?_
      refine lv_aload_n hx hb dX12_undo_62 rfl (lv_at hl 0 rfl) ?_
      refine mgtX12_41_0 F I dX12_undo_63 ?_
      refine lv_aload_n hx hb dX12_undo_66 rfl (lv_at hl 0 rfl) ?_
      refine mgtX12_111_0 F I dX12_undo_67 ?_
      obtain ⟨g9, hf⟩ := ri_some hf
      refine mal10 F I g9 dX12_undo_70 ?_
      refine mptX12_105_0 F I dX12_undo_71 ?_
      intro H locs G10 eG10 I
      replace hf := nm_some eG10 hf
      refine lv_aload_n hx hb dX12_undo_74 rfl (lv_at hl 0 rfl) ?_
      refine lv_aload_n hx hb dX12_undo_75 rfl (lv_at hl 0 rfl) ?_
      refine mgtX12_44_0 F I dX12_undo_76 ?_
      refine lv_aload_n hx hb dX12_undo_79 rfl (lv_at hl 0 rfl) ?_
      refine mgtX12_111_0 F I dX12_undo_80 ?_
      obtain ⟨g11, hf⟩ := ri_some hf
      refine mal11 F I g11 dX12_undo_83 ?_
      refine mptX12_108_0 F I dX12_undo_84 ?_
      intro H locs G12 eG12 I
      replace hf := nm_some eG12 hf
      refine lv_iconst (v := (0 : Int32)) hx hb dX12_undo_87 (by decide) ?_
      refine lv_istore_n (lv' := [(1, .int (0 : Int32)), (0, .ref (ad 0))]) hx hb dX12_undo_88 rfl hl (by decide) rfl (fun ls hl => ?_)
      obtain ⟨G15, hq1, hf⟩ := bd_some hf
      have K1 : ∀ (H : Heap) (locs : List Loc), sInv D (mT cI cJ cD) (mW ad cI cJ cD) A s H locs (G15, E, Dd) → ∀ (ls : Array Slot), lv_has ls 2 [(0, .ref (ad 0))] → W p l e R s m args below meth c H locs 0 0 Q (F0 m 122 ls []) := by
        intro H locs I ls hl
        refine lv_iconst (v := (0 : Int32)) hx hb dX12_undo_122 (by decide) ?_
        refine lv_istore_n (lv' := [(1, .int (0 : Int32)), (0, .ref (ad 0))]) hx hb dX12_undo_123 rfl hl (by decide) rfl (fun ls hl => ?_)
        obtain ⟨G18, hq2, hf⟩ := bd_some hf
        have K2 : ∀ (H : Heap) (locs : List Loc), sInv D (mT cI cJ cD) (mW ad cI cJ cD) A s H locs (G18, E, Dd) → ∀ (ls : Array Slot), lv_has ls 2 [(0, .ref (ad 0))] → W p l e R s m args below meth c H locs 0 0 Q (F0 m 158 ls []) := by
          intro H locs I ls hl
          refine lv_aload_n hx hb dX12_undo_158 rfl (lv_at hl 0 rfl) ?_
          refine mgtX12_102_0 F I dX12_undo_159 ?_
          cases hf
          exact ret H locs _ ls I dX12_undo_162
        have L2 : ∀ (n : Nat) (x16 : Int32) (G17 : Nat → Nat → Int32), lp (fun q => M_undo_s2 q.1 q.2) n (x16, G17) = some G18 → ∀ (H : Heap) (locs : List Loc), sInv D (mT cI cJ cD) (mW ad cI cJ cD) A s H locs (G17, E, Dd) → ∀ (ls : Array Slot), lv_has ls 2 [(0, .ref (ad 0)), (1, .int x16)] → W p l e R s m args below meth c H locs 0 0 Q (F0 m 124 ls []) := by
          intro n
          induction n with
          | zero => intro x16 G17 hq; exact (lp_0 hq).elim
          | succ n ih2 =>
            intro x16 G17 hq H locs I ls hl
            obtain ⟨y2, hf, hK2⟩ := lp_go hq
            replace hf : M_undo_s2 x16 G17 = some y2 := hf
            unfold M_undo_s2 at hf
            refine lv_iload_n hx hb dX12_undo_124 rfl (lv_at hl 1 rfl) ?_
            refine lv_aload_n hx hb dX12_undo_125 rfl (lv_at hl 0 rfl) ?_
            refine mgtX12_105_0 F I dX12_undo_126 ?_
            refine lv_icmp_ge (tgt := 158) hx hb dX12_undo_129 (by decide) (fun c23 => ?_) (fun c23 => ?_)
            · replace hf := (if_pos c23).symm.trans hf
              cases hf
              cases (show G17 = G18 from hK2)
              exact K2 H locs I ls (lv_sub hl [0] rfl)
            · replace hf := (if_neg c23).symm.trans hf
              refine lv_aload_n hx hb dX12_undo_132 rfl (lv_at hl 0 rfl) ?_
              refine mgtX12_29_0 F I dX12_undo_133 ?_
              refine lv_iload_n hx hb dX12_undo_136 rfl (lv_at hl 1 rfl) ?_
              refine lv_aload_n hx hb dX12_undo_137 rfl (lv_at hl 0 rfl) ?_
              refine mgtX12_47_0 F I dX12_undo_138 ?_
              refine lv_bipush (v := (56 : Int32)) hx hb dX12_undo_141 (by decide) ?_
              refine lv_aload_n hx hb dX12_undo_143 rfl (lv_at hl 0 rfl) ?_
              refine mgtX12_111_0 F I dX12_undo_144 ?_
              refine lv_imul hx hb dX12_undo_147 ?_
              refine lv_iload_n hx hb dX12_undo_148 rfl (lv_at hl 1 rfl) ?_
              refine lv_iadd hx hb dX12_undo_149 ?_
              obtain ⟨g19, hf⟩ := ri_some hf
              refine mal12 F I g19 dX12_undo_150 ?_
              obtain ⟨g20, hf⟩ := ri_some hf
              refine mas6 F I g20 dX12_undo_151 ?_
              intro H locs G21 eG21 I
              replace hf := nm_some eG21 hf
              obtain ⟨x22, ex22⟩ : ∃ y : Int32, y = x16 + (1 : Int32) := ⟨_, rfl⟩
              replace hf := nm_some ex22 hf
              refine lv_iinc (v := x22) (lv' := [(1, .int x22), (0, .ref (ad 0))]) hx hb dX12_undo_152 hl (k := 1) rfl (by rw [ex22]; rfl) (by decide) rfl (fun ls hl => ?_)
              refine lv_goto (tgt := 124) hx hb dX12_undo_155 (by decide) ?_
              cases hf
              exact ih2 _ _ hK2 H locs I ls (lv_sub hl [1, 0] rfl)
        exact L2 FU _ _ hq2 H locs I ls (lv_sub hl [1, 0] rfl)
      have L1 : ∀ (n : Nat) (x13 : Int32) (G14 : Nat → Nat → Int32), lp (fun q => M_undo_s1 q.1 q.2) n (x13, G14) = some G15 → ∀ (H : Heap) (locs : List Loc), sInv D (mT cI cJ cD) (mW ad cI cJ cD) A s H locs (G14, E, Dd) → ∀ (ls : Array Slot), lv_has ls 2 [(0, .ref (ad 0)), (1, .int x13)] → W p l e R s m args below meth c H locs 0 0 Q (F0 m 89 ls []) := by
        intro n
        induction n with
        | zero => intro x13 G14 hq; exact (lp_0 hq).elim
        | succ n ih1 =>
          intro x13 G14 hq H locs I ls hl
          obtain ⟨y1, hf, hK1⟩ := lp_go hq
          replace hf : M_undo_s1 x13 G14 = some y1 := hf
          unfold M_undo_s1 at hf
          refine lv_iload_n hx hb dX12_undo_89 rfl (lv_at hl 1 rfl) ?_
          refine lv_aload_n hx hb dX12_undo_90 rfl (lv_at hl 0 rfl) ?_
          refine mgtX12_102_0 F I dX12_undo_91 ?_
          refine lv_icmp_ge (tgt := 122) hx hb dX12_undo_94 (by decide) (fun c28 => ?_) (fun c28 => ?_)
          · replace hf := (if_pos c28).symm.trans hf
            cases hf
            cases (show G14 = G15 from hK1)
            exact K1 H locs I ls (lv_sub hl [0] rfl)
          · replace hf := (if_neg c28).symm.trans hf
            refine lv_aload_n hx hb dX12_undo_97 rfl (lv_at hl 0 rfl) ?_
            refine lv_iload_n hx hb dX12_undo_98 rfl (lv_at hl 1 rfl) ?_
            refine lv_aload_n hx hb dX12_undo_99 rfl (lv_at hl 0 rfl) ?_
            refine mgtX12_35_0 F I dX12_undo_100 ?_
            refine lv_bipush (v := (48 : Int32)) hx hb dX12_undo_103 (by decide) ?_
            refine lv_aload_n hx hb dX12_undo_105 rfl (lv_at hl 0 rfl) ?_
            refine mgtX12_111_0 F I dX12_undo_106 ?_
            refine lv_imul hx hb dX12_undo_109 ?_
            refine lv_iload_n hx hb dX12_undo_110 rfl (lv_at hl 1 rfl) ?_
            refine lv_iadd hx hb dX12_undo_111 ?_
            obtain ⟨g24, hf⟩ := ri_some hf
            refine mal8 F I g24 dX12_undo_112 ?_
            obtain ⟨G25, h26, hf⟩ := bd_some hf
            refine s_callVv (As := [.int x13, .int (G14 15 (((48 : Int32) * (G14 13 0)) + x13).toNatClampNeg)]) (rest := []) F I (cM_unpack G14 E Dd x13 (G14 15 (((48 : Int32) * (G14 13 0)) + x13).toNatClampNeg) G25 h26) kX12_157 ⟨rfl, rfl⟩ ⟨Nat.le_trans (Nat.le_of_ble_eq_true rfl) hRf, Nat.le_trans (Nat.le_of_ble_eq_true rfl) hRl⟩ 0 12 rfl rfl rfl rfl rfl hl.1 (Nat.le_of_ble_eq_true rfl) ⟨Nat.zero_le _, Nat.zero_le _⟩ dX12_undo_113 ?_
            intro H locs I
            obtain ⟨x27, ex27⟩ : ∃ y : Int32, y = x13 + (1 : Int32) := ⟨_, rfl⟩
            replace hf := nm_some ex27 hf
            refine lv_iinc (v := x27) (lv' := [(1, .int x27), (0, .ref (ad 0))]) hx hb dX12_undo_116 hl (k := 1) rfl (by rw [ex27]; rfl) (by decide) rfl (fun ls hl => ?_)
            refine lv_goto (tgt := 89) hx hb dX12_undo_119 (by decide) ?_
            cases hf
            exact ih1 _ _ hK1 H locs I ls (lv_sub hl [1, 0] rfl)
      exact L1 FU _ _ hq1 H locs I ls (lv_sub hl [1, 0] rfl)
    · replace hf := (if_neg c29).symm.trans hf
      refine lv_iconst (v := (0 : Int32)) hx hb dX12_undo_23 (by decide) ?_
      cases hf
      exact ret H locs _ ls I dX12_undo_24
  replace hf := hv30
  refine lv_if_le (tgt := 12) hx hb dX12_undo_5 (by decide) (fun c31 => ?_) (fun c31 => ?_)
  · replace hf := (if_pos c31).symm.trans hf
    refine lv_iconst (v := (1 : Int32)) hx hb dX12_undo_12 (by decide) ?_
    cases hf
    exact J1 H locs I ls (lv_sub hl [0] rfl)
  · replace hf := (if_neg c31).symm.trans hf
    refine lv_iconst (v := (0 : Int32)) hx hb dX12_undo_8 (by decide) ?_
    refine lv_goto (tgt := 13) hx hb dX12_undo_9 (by decide) ?_
    cases hf
    exact J1 H locs I ls (lv_sub hl [0] rfl)
def M_append (G : Nat → Nat → Int32) (a0 : Int32) : Option (Int32 × (Nat → Nat → Int32)) :=
bd (M_within a0 (33 : Int32) (126 : Int32)) fun r1 =>
bd (if r1 = 0 then
(some (1 : Int32))
else
(if G 20 0 = (60 : Int32) then
(some (2 : Int32))
else
(some (0 : Int32)))) fun x4 =>
nm (wf G 0 x4) fun G5 =>
if G5 0 0 ≤ 0 then
(ri 60 (G5 20 0) <|
nm (wr G5 21 (G5 20 0) a0) fun G7 =>
nm (wf G7 20 ((G7 20 0) + (1 : Int32))) fun G8 =>
some (G8 20 0, G8))
else
(some ((0 : Int32), G5))
set_option maxRecDepth 100000 in
set_option maxHeartbeats 4000000 in
theorem cM_append (G : Nat → Nat → Int32) (E : Nat → Nat → Int64) (Dd : Nat → Nat → UInt64) (a0 : Int32) (rv : Int32) (newG : Nat → Nat → Int32) (hf : M_append G a0 = some (rv, newG)) : sMi D (mT cI cJ cD) (mW ad cI cJ cD) l yX12_append (ws1 yX12_append cX12_append 2 (some .int)) ({ frames := 1, cells := 0, slots := 0, locals := 22 }) [.ref (ad 0), .int a0] (G, E, Dd) (rv, (newG, E, Dd)) := by
  unfold M_append at hf
  refine sMi_of (by decide) (Nat.le_of_ble_eq_true rfl) ?_
  intro p e R s m args below meth c A Q ls H locs F hRf hRl I hl ret
  obtain ⟨hx, hb, hml, hown, hG⟩ := id F
  replace hl : lv_has ls 2 [(0, .ref (ad 0)), (1, .int a0)] := hl
  refine lv_aload_n hx hb dX12_append_0 rfl (lv_at hl 0 rfl) ?_
  refine lv_iload_n hx hb dX12_append_1 rfl (lv_at hl 1 rfl) ?_
  refine lv_bipush (v := (33 : Int32)) hx hb dX12_append_2 (by decide) ?_
  refine lv_bipush (v := (126 : Int32)) hx hb dX12_append_4 (by decide) ?_
  obtain ⟨r1, h2, hf⟩ := bd_some hf
  refine s_callSi (As := [.int a0, .int (33 : Int32), .int (126 : Int32)]) (rest := [.ref (ad 0)]) F I (cM_within G E Dd a0 (33 : Int32) (126 : Int32) r1 h2) kX12_95 ⟨rfl, rfl⟩ ⟨Nat.le_trans (Nat.le_of_ble_eq_true rfl) hRf, Nat.le_trans (Nat.le_of_ble_eq_true rfl) hRl⟩ rfl rfl hl.1 (Nat.le_of_ble_eq_true rfl) ⟨Nat.zero_le _, Nat.zero_le _⟩ dX12_append_6 ?_
  intro H locs I
  obtain ⟨x4, hv10, hf⟩ := bd_some hf
  have J3 : ∀ (H : Heap) (locs : List Loc), sInv D (mT cI cJ cD) (mW ad cI cJ cD) A s H locs (G, E, Dd) → ∀ (ls : Array Slot), lv_has ls 2 [(0, .ref (ad 0)), (1, .int a0)] → W p l e R s m args below meth c H locs 0 0 Q (F0 m 30 ls [.int x4, .ref (ad 0)]) := by
    intro H locs I ls hl
    refine mptX12_89_0 F I dX12_append_30 ?_
    intro H locs G5 eG5 I
    replace hf := nm_some eG5 hf
    refine lv_aload_n hx hb dX12_append_33 rfl (lv_at hl 0 rfl) ?_
    refine mgtX12_89_0 F I dX12_append_34 ?_
    refine lv_if_le (tgt := 42) hx hb dX12_append_37 (by decide) (fun c9 => ?_) (fun c9 => ?_)
    · replace hf := (if_pos c9).symm.trans hf
      refine lv_aload_n hx hb dX12_append_42 rfl (lv_at hl 0 rfl) ?_
      refine mgtX12_50_0 F I dX12_append_43 ?_
      refine lv_aload_n hx hb dX12_append_46 rfl (lv_at hl 0 rfl) ?_
      refine mgtX12_160_0 F I dX12_append_47 ?_
      refine lv_iload_n hx hb dX12_append_50 rfl (lv_at hl 1 rfl) ?_
      obtain ⟨g6, hf⟩ := ri_some hf
      refine mas13 F I g6 dX12_append_51 ?_
      intro H locs G7 eG7 I
      replace hf := nm_some eG7 hf
      refine lv_aload_n hx hb dX12_append_52 rfl (lv_at hl 0 rfl) ?_
      refine lv_dup hx hb dX12_append_53 rfl ?_
      refine mgtX12_160_0 F I dX12_append_54 ?_
      refine lv_iconst (v := (1 : Int32)) hx hb dX12_append_57 (by decide) ?_
      refine lv_iadd hx hb dX12_append_58 ?_
      refine mptX12_160_0 F I dX12_append_59 ?_
      intro H locs G8 eG8 I
      replace hf := nm_some eG8 hf
      refine lv_aload_n hx hb dX12_append_62 rfl (lv_at hl 0 rfl) ?_
      refine mgtX12_160_0 F I dX12_append_63 ?_
      cases hf
      exact ret H locs _ ls I dX12_append_66
    · replace hf := (if_neg c9).symm.trans hf
      refine lv_iconst (v := (0 : Int32)) hx hb dX12_append_40 (by decide) ?_
      cases hf
      exact ret H locs _ ls I dX12_append_41
  replace hf := hv10
  refine lv_if_ne (tgt := 16) hx hb dX12_append_9 (by decide) (fun c12 => ?_) (fun c12 => ?_)
  · replace hf := (if_neg c12).symm.trans hf
    refine lv_aload_n hx hb dX12_append_16 rfl (lv_at hl 0 rfl) ?_
    refine mgtX12_160_0 F I dX12_append_17 ?_
    refine lv_bipush (v := (60 : Int32)) hx hb dX12_append_20 (by decide) ?_
    refine lv_icmp_ne (tgt := 29) hx hb dX12_append_22 (by decide) (fun c11 => ?_) (fun c11 => ?_)
    · replace hf := (if_neg c11).symm.trans hf
      refine lv_iconst (v := (0 : Int32)) hx hb dX12_append_29 (by decide) ?_
      cases hf
      exact J3 H locs I ls (lv_sub hl [0, 1] rfl)
    · replace hf := (if_pos c11).symm.trans hf
      refine lv_iconst (v := (2 : Int32)) hx hb dX12_append_25 (by decide) ?_
      refine lv_goto (tgt := 30) hx hb dX12_append_26 (by decide) ?_
      cases hf
      exact J3 H locs I ls (lv_sub hl [0, 1] rfl)
  · replace hf := (if_pos c12).symm.trans hf
    refine lv_iconst (v := (1 : Int32)) hx hb dX12_append_12 (by decide) ?_
    refine lv_goto (tgt := 30) hx hb dX12_append_13 (by decide) ?_
    cases hf
    exact J3 H locs I ls (lv_sub hl [0, 1] rfl)
def M_clearBuffer (G : Nat → Nat → Int32) : Option (Int32 × (Nat → Nat → Int32)) :=
nm (wf G 0 (0 : Int32)) fun G1 =>
nm (G1 20 0 : Int32) fun x2 =>
nm (wf G1 20 (0 : Int32)) fun G3 =>
some (x2, G3)
set_option maxRecDepth 100000 in
set_option maxHeartbeats 4000000 in
theorem cM_clearBuffer (G : Nat → Nat → Int32) (E : Nat → Nat → Int64) (Dd : Nat → Nat → UInt64)  (rv : Int32) (newG : Nat → Nat → Int32) (hf : M_clearBuffer G = some (rv, newG)) : sMi D (mT cI cJ cD) (mW ad cI cJ cD) l yX12_clearBuffer (ws1 yX12_clearBuffer cX12_clearBuffer 2 (some .int)) ({ frames := 0, cells := 0, slots := 0, locals := 0 }) [.ref (ad 0)] (G, E, Dd) (rv, (newG, E, Dd)) := by
  unfold M_clearBuffer at hf
  refine sMi_of (by decide) (Nat.le_of_ble_eq_true rfl) ?_
  intro p e R s m args below meth c A Q ls H locs F hRf hRl I hl ret
  obtain ⟨hx, hb, hml, hown, hG⟩ := id F
  replace hl : lv_has ls 2 [(0, .ref (ad 0))] := hl
  refine lv_aload_n hx hb dX12_clearBuffer_0 rfl (lv_at hl 0 rfl) ?_
  refine lv_iconst (v := (0 : Int32)) hx hb dX12_clearBuffer_1 (by decide) ?_
  refine mptX12_89_0 F I dX12_clearBuffer_2 ?_
  intro H locs G1 eG1 I
  replace hf := nm_some eG1 hf
  refine lv_aload_n hx hb dX12_clearBuffer_5 rfl (lv_at hl 0 rfl) ?_
  refine mgtX12_160_0 F I dX12_clearBuffer_6 ?_
  refine lv_topi (fun x2 ex2 => ?_)
  replace hf := nm_some ex2 hf
  refine lv_istore_n (lv' := [(1, .int x2), (0, .ref (ad 0))]) hx hb dX12_clearBuffer_9 rfl hl (by decide) rfl (fun ls hl => ?_)
  refine lv_aload_n hx hb dX12_clearBuffer_10 rfl (lv_at hl 1 rfl) ?_
  refine lv_iconst (v := (0 : Int32)) hx hb dX12_clearBuffer_11 (by decide) ?_
  refine mptX12_160_0 F I dX12_clearBuffer_12 ?_
  intro H locs G3 eG3 I
  replace hf := nm_some eG3 hf
  refine lv_iload_n hx hb dX12_clearBuffer_15 rfl (lv_at hl 0 rfl) ?_
  cases hf
  exact ret H locs _ ls I dX12_clearBuffer_16
def M_answerBy (a0 : Int32) : Option (Int32) :=
if a0 = (61 : Int32) then
(some (0 : Int32))
else
(if a0 = (62 : Int32) then
(some (1 : Int32))
else
(if a0 = (60 : Int32) then
(some (2 : Int32))
else
(some (-1 : Int32))))
set_option maxRecDepth 100000 in
set_option maxHeartbeats 4000000 in
theorem cM_answerBy (G : Nat → Nat → Int32) (E : Nat → Nat → Int64) (Dd : Nat → Nat → UInt64) (a0 : Int32) (rv : Int32)  (hf : M_answerBy a0 = some rv) : sMi D (mT cI cJ cD) (mW ad cI cJ cD) l yX12_answerBy (ws1 yX12_answerBy cX12_answerBy 1 (some .int)) ({ frames := 0, cells := 0, slots := 0, locals := 0 }) [.int a0] (G, E, Dd) (rv, (G, E, Dd)) := by
  unfold M_answerBy at hf
  refine sMi_of (by decide) (Nat.le_of_ble_eq_true rfl) ?_
  intro p e R s m args below meth c A Q ls H locs F hRf hRl I hl ret
  obtain ⟨hx, hb, hml, hown, hG⟩ := id F
  replace hl : lv_has ls 1 [(0, .int a0)] := hl
  refine lv_iload_n hx hb dX12_answerBy_0 rfl (lv_at hl 0 rfl) ?_
  refine lv_bipush (v := (61 : Int32)) hx hb dX12_answerBy_1 (by decide) ?_
  refine lv_icmp_ne (tgt := 10) hx hb dX12_answerBy_3 (by decide) (fun c3 => ?_) (fun c3 => ?_)
  · replace hf := (if_neg c3).symm.trans hf
    refine lv_iload_n hx hb dX12_answerBy_10 rfl (lv_at hl 0 rfl) ?_
    refine lv_bipush (v := (62 : Int32)) hx hb dX12_answerBy_11 (by decide) ?_
    refine lv_icmp_ne (tgt := 20) hx hb dX12_answerBy_13 (by decide) (fun c2 => ?_) (fun c2 => ?_)
    · replace hf := (if_neg c2).symm.trans hf
      refine lv_iload_n hx hb dX12_answerBy_20 rfl (lv_at hl 0 rfl) ?_
      refine lv_bipush (v := (60 : Int32)) hx hb dX12_answerBy_21 (by decide) ?_
      refine lv_icmp_ne (tgt := 30) hx hb dX12_answerBy_23 (by decide) (fun c1 => ?_) (fun c1 => ?_)
      · replace hf := (if_neg c1).symm.trans hf
        refine lv_iconst (v := (-1 : Int32)) hx hb dX12_answerBy_30 (by decide) ?_
        cases hf
        exact ret H locs _ ls I dX12_answerBy_31
      · replace hf := (if_pos c1).symm.trans hf
        refine lv_iconst (v := (2 : Int32)) hx hb dX12_answerBy_26 (by decide) ?_
        refine lv_goto (tgt := 31) hx hb dX12_answerBy_27 (by decide) ?_
        cases hf
        exact ret H locs _ ls I dX12_answerBy_31
    · replace hf := (if_pos c2).symm.trans hf
      refine lv_iconst (v := (1 : Int32)) hx hb dX12_answerBy_16 (by decide) ?_
      refine lv_goto (tgt := 31) hx hb dX12_answerBy_17 (by decide) ?_
      cases hf
      exact ret H locs _ ls I dX12_answerBy_31
  · replace hf := (if_pos c3).symm.trans hf
    refine lv_iconst (v := (0 : Int32)) hx hb dX12_answerBy_6 (by decide) ?_
    refine lv_goto (tgt := 31) hx hb dX12_answerBy_7 (by decide) ?_
    cases hf
    exact ret H locs _ ls I dX12_answerBy_31
def M_goes (G : Nat → Nat → Int32) (a0 : Int32) (a1 : Int32) : Option (Int32 × (Nat → Nat → Int32)) :=
bd (if a0 = 0 then
(some (G 23 0))
else
(some a1)) fun x2 =>
nm (wf G 23 x2) fun G3 =>
gd (a0 = 0 ∨ a0 = 1) <|
some (a0, G3)
set_option maxRecDepth 100000 in
set_option maxHeartbeats 4000000 in
theorem cM_goes (G : Nat → Nat → Int32) (E : Nat → Nat → Int64) (Dd : Nat → Nat → UInt64) (a0 : Int32) (a1 : Int32) (rv : Int32) (newG : Nat → Nat → Int32) (hf : M_goes G a0 a1 = some (rv, newG)) : sMi D (mT cI cJ cD) (mW ad cI cJ cD) l yX12_goes (ws1 yX12_goes cX12_goes 3 (some .boolean)) ({ frames := 0, cells := 0, slots := 0, locals := 0 }) [.ref (ad 0), .int a0, .int a1] (G, E, Dd) (rv, (newG, E, Dd)) := by
  unfold M_goes at hf
  refine sMz_of (by decide) (Nat.le_of_ble_eq_true rfl) ?_
  intro p e R s m args below meth c A Q ls H locs F hRf hRl I hl ret
  obtain ⟨hx, hb, hml, hown, hG⟩ := id F
  replace hl : lv_has ls 3 [(0, .ref (ad 0)), (1, .int a0), (2, .int a1)] := hl
  refine lv_aload_n hx hb dX12_goes_0 rfl (lv_at hl 0 rfl) ?_
  refine lv_iload_n hx hb dX12_goes_1 rfl (lv_at hl 1 rfl) ?_
  obtain ⟨x2, hv5, hf⟩ := bd_some hf
  have J1 : ∀ (H : Heap) (locs : List Loc), sInv D (mT cI cJ cD) (mW ad cI cJ cD) A s H locs (G, E, Dd) → ∀ (ls : Array Slot), lv_has ls 3 [(1, .int a0)] → W p l e R s m args below meth c H locs 0 0 Q (F0 m 13 ls [.int x2, .ref (ad 0)]) := by
    intro H locs I ls hl
    refine mptX12_163_0 F I dX12_goes_13 ?_
    intro H locs G3 eG3 I
    replace hf := nm_some eG3 hf
    refine lv_iload_n hx hb dX12_goes_16 rfl (lv_at hl 0 rfl) ?_
    obtain ⟨g4, hf⟩ := gd_some hf
    cases hf
    exact ret H locs _ ls I g4 dX12_goes_17
  replace hf := hv5
  refine lv_if_eq (tgt := 9) hx hb dX12_goes_2 (by decide) (fun c6 => ?_) (fun c6 => ?_)
  · replace hf := (if_pos c6).symm.trans hf
    refine lv_aload_n hx hb dX12_goes_9 rfl (lv_at hl 0 rfl) ?_
    refine mgtX12_163_0 F I dX12_goes_10 ?_
    cases hf
    exact J1 H locs I ls (lv_sub hl [1] rfl)
  · replace hf := (if_neg c6).symm.trans hf
    refine lv_iload_n hx hb dX12_goes_5 rfl (lv_at hl 2 rfl) ?_
    refine lv_goto (tgt := 13) hx hb dX12_goes_6 (by decide) ?_
    cases hf
    exact J1 H locs I ls (lv_sub hl [1] rfl)
def M_takesSample (G : Nat → Nat → Int32) (a0 : Int32) : Option (Int32 × (Nat → Nat → Int32)) :=
nm (wf G 27 (a0 - (97 : Int32))) fun G1 =>
bd (M_isSample G1 (G1 27 0)) fun r2 =>
bd2 (M_goes G1 r2 (3 : Int32)) fun r4 G5 =>
gd (r4 = 0 ∨ r4 = 1) <|
some (r4, G5)
set_option maxRecDepth 100000 in
set_option maxHeartbeats 4000000 in
theorem cM_takesSample (G : Nat → Nat → Int32) (E : Nat → Nat → Int64) (Dd : Nat → Nat → UInt64) (a0 : Int32) (rv : Int32) (newG : Nat → Nat → Int32) (hf : M_takesSample G a0 = some (rv, newG)) : sMi D (mT cI cJ cD) (mW ad cI cJ cD) l yX12_takesSample (ws1 yX12_takesSample cX12_takesSample 2 (some .boolean)) ({ frames := 2, cells := 0, slots := 0, locals := 43 }) [.ref (ad 0), .int a0] (G, E, Dd) (rv, (newG, E, Dd)) := by
  unfold M_takesSample at hf
  refine sMz_of (by decide) (Nat.le_of_ble_eq_true rfl) ?_
  intro p e R s m args below meth c A Q ls H locs F hRf hRl I hl ret
  obtain ⟨hx, hb, hml, hown, hG⟩ := id F
  replace hl : lv_has ls 2 [(0, .ref (ad 0)), (1, .int a0)] := hl
  refine lv_aload_n hx hb dX12_takesSample_0 rfl (lv_at hl 0 rfl) ?_
  refine lv_iload_n hx hb dX12_takesSample_1 rfl (lv_at hl 1 rfl) ?_
  refine lv_bipush (v := (97 : Int32)) hx hb dX12_takesSample_2 (by decide) ?_
  refine lv_isub hx hb dX12_takesSample_4 ?_
  refine mptX12_166_0 F I dX12_takesSample_5 ?_
  intro H locs G1 eG1 I
  replace hf := nm_some eG1 hf
  refine lv_aload_n hx hb dX12_takesSample_8 rfl (lv_at hl 0 rfl) ?_
  refine lv_aload_n hx hb dX12_takesSample_9 rfl (lv_at hl 0 rfl) ?_
  refine lv_aload_n hx hb dX12_takesSample_10 rfl (lv_at hl 0 rfl) ?_
  refine mgtX12_166_0 F I dX12_takesSample_11 ?_
  obtain ⟨r2, h3, hf⟩ := bd_some hf
  refine s_callVi (As := [.int (G1 27 0)]) (rest := [.ref (ad 0)]) F I (cM_isSample G1 E Dd (G1 27 0) r2 h3) kX12_151 ⟨rfl, rfl⟩ ⟨Nat.le_trans (Nat.le_of_ble_eq_true rfl) hRf, Nat.le_trans (Nat.le_of_ble_eq_true rfl) hRl⟩ 0 12 rfl rfl rfl rfl rfl hl.1 (Nat.le_of_ble_eq_true rfl) ⟨Nat.zero_le _, Nat.zero_le _⟩ dX12_takesSample_14 ?_
  intro H locs I
  refine lv_iconst (v := (3 : Int32)) hx hb dX12_takesSample_17 (by decide) ?_
  obtain ⟨r4, G5, h6, hf⟩ := bd2_some hf
  refine s_callVi (As := [.int r2, .int (3 : Int32)]) (rest := []) F I (cM_goes G1 E Dd r2 (3 : Int32) r4 G5 h6) kX12_169 ⟨rfl, rfl⟩ ⟨Nat.le_trans (Nat.le_of_ble_eq_true rfl) hRf, Nat.le_trans (Nat.le_of_ble_eq_true rfl) hRl⟩ 0 12 rfl rfl rfl rfl rfl hl.1 (Nat.le_of_ble_eq_true rfl) ⟨Nat.zero_le _, Nat.zero_le _⟩ dX12_takesSample_18 ?_
  intro H locs I
  obtain ⟨g7, hf⟩ := gd_some hf
  cases hf
  exact ret H locs _ ls I g7 dX12_takesSample_21
def M_takesSign (G : Nat → Nat → Int32) (a0 : Int32) : Option (Int32 × (Nat → Nat → Int32)) :=
bd (M_answerBy a0) fun r1 =>
nm (wf G 28 r1) fun G3 =>
bd (if G3 28 0 = (-1 : Int32) then
(some (0 : Int32))
else
(some (1 : Int32))) fun x5 =>
bd2 (M_goes G3 x5 (4 : Int32)) fun r6 G7 =>
gd (r6 = 0 ∨ r6 = 1) <|
some (r6, G7)
set_option maxRecDepth 100000 in
set_option maxHeartbeats 4000000 in
theorem cM_takesSign (G : Nat → Nat → Int32) (E : Nat → Nat → Int64) (Dd : Nat → Nat → UInt64) (a0 : Int32) (rv : Int32) (newG : Nat → Nat → Int32) (hf : M_takesSign G a0 = some (rv, newG)) : sMi D (mT cI cJ cD) (mW ad cI cJ cD) l yX12_takesSign (ws1 yX12_takesSign cX12_takesSign 2 (some .boolean)) ({ frames := 1, cells := 0, slots := 0, locals := 22 }) [.ref (ad 0), .int a0] (G, E, Dd) (rv, (newG, E, Dd)) := by
  unfold M_takesSign at hf
  refine sMz_of (by decide) (Nat.le_of_ble_eq_true rfl) ?_
  intro p e R s m args below meth c A Q ls H locs F hRf hRl I hl ret
  obtain ⟨hx, hb, hml, hown, hG⟩ := id F
  replace hl : lv_has ls 2 [(0, .ref (ad 0)), (1, .int a0)] := hl
  refine lv_aload_n hx hb dX12_takesSign_0 rfl (lv_at hl 0 rfl) ?_
  refine lv_iload_n hx hb dX12_takesSign_1 rfl (lv_at hl 1 rfl) ?_
  obtain ⟨r1, h2, hf⟩ := bd_some hf
  refine s_callSi (As := [.int a0]) (rest := [.ref (ad 0)]) F I (cM_answerBy G E Dd a0 r1 h2) kX12_173 ⟨rfl, rfl⟩ ⟨Nat.le_trans (Nat.le_of_ble_eq_true rfl) hRf, Nat.le_trans (Nat.le_of_ble_eq_true rfl) hRl⟩ rfl rfl hl.1 (Nat.le_of_ble_eq_true rfl) ⟨Nat.zero_le _, Nat.zero_le _⟩ dX12_takesSign_2 ?_
  intro H locs I
  refine mptX12_176_0 F I dX12_takesSign_5 ?_
  intro H locs G3 eG3 I
  replace hf := nm_some eG3 hf
  refine lv_aload_n hx hb dX12_takesSign_8 rfl (lv_at hl 0 rfl) ?_
  refine lv_aload_n hx hb dX12_takesSign_9 rfl (lv_at hl 0 rfl) ?_
  refine mgtX12_176_0 F I dX12_takesSign_10 ?_
  refine lv_iconst (v := (-1 : Int32)) hx hb dX12_takesSign_13 (by decide) ?_
  obtain ⟨x5, hv10, hf⟩ := bd_some hf
  have J4 : ∀ (H : Heap) (locs : List Loc), sInv D (mT cI cJ cD) (mW ad cI cJ cD) A s H locs (G3, E, Dd) → ∀ (ls : Array Slot), lv_has ls 2 [] → W p l e R s m args below meth c H locs 0 0 Q (F0 m 22 ls [.int x5, .ref (ad 0)]) := by
    intro H locs I ls hl
    refine lv_iconst (v := (4 : Int32)) hx hb dX12_takesSign_22 (by decide) ?_
    obtain ⟨r6, G7, h8, hf⟩ := bd2_some hf
    refine s_callVi (As := [.int x5, .int (4 : Int32)]) (rest := []) F I (cM_goes G3 E Dd x5 (4 : Int32) r6 G7 h8) kX12_169 ⟨rfl, rfl⟩ ⟨Nat.le_trans (Nat.le_of_ble_eq_true rfl) hRf, Nat.le_trans (Nat.le_of_ble_eq_true rfl) hRl⟩ 0 12 rfl rfl rfl rfl rfl hl.1 (Nat.le_of_ble_eq_true rfl) ⟨Nat.zero_le _, Nat.zero_le _⟩ dX12_takesSign_23 ?_
    intro H locs I
    obtain ⟨g9, hf⟩ := gd_some hf
    cases hf
    exact ret H locs _ ls I g9 dX12_takesSign_26
  replace hf := hv10
  refine lv_icmp_eq (tgt := 21) hx hb dX12_takesSign_14 (by decide) (fun c11 => ?_) (fun c11 => ?_)
  · replace hf := (if_pos c11).symm.trans hf
    refine lv_iconst (v := (0 : Int32)) hx hb dX12_takesSign_21 (by decide) ?_
    cases hf
    exact J4 H locs I ls (lv_sub hl [] rfl)
  · replace hf := (if_neg c11).symm.trans hf
    refine lv_iconst (v := (1 : Int32)) hx hb dX12_takesSign_17 (by decide) ?_
    refine lv_goto (tgt := 22) hx hb dX12_takesSign_18 (by decide) ?_
    cases hf
    exact J4 H locs I ls (lv_sub hl [] rfl)
def M_takesOther (G : Nat → Nat → Int32) (a0 : Int32) : Option (Int32 × (Nat → Nat → Int32)) :=
nm (a0 - (97 : Int32) : Int32) fun x1 =>
bd (M_isSample G x1) fun r2 =>
bd (if r2 = 0 then
(some (0 : Int32))
else
(if x1 = G 27 0 then
(some (0 : Int32))
else
(some (1 : Int32)))) fun x5 =>
bd (if x5 = 0 then
(some G)
else
(ri 20 (G 24 0) <|
nm (wr G 25 (G 24 0) (((((1000 : Int32) * (G 26 0)) + ((100 : Int32) * (G 27 0))) + ((10 : Int32) * x1)) + (G 28 0))) fun G14 =>
nm (wf G14 24 ((G14 24 0) + (1 : Int32))) fun G15 =>
some G15)) fun G7 =>
bd2 (M_goes G7 x5 (5 : Int32)) fun r8 G9 =>
gd (r8 = 0 ∨ r8 = 1) <|
some (r8, G9)
set_option maxRecDepth 100000 in
set_option maxHeartbeats 4000000 in
theorem cM_takesOther (G : Nat → Nat → Int32) (E : Nat → Nat → Int64) (Dd : Nat → Nat → UInt64) (a0 : Int32) (rv : Int32) (newG : Nat → Nat → Int32) (hf : M_takesOther G a0 = some (rv, newG)) : sMi D (mT cI cJ cD) (mW ad cI cJ cD) l yX12_takesOther (ws1 yX12_takesOther cX12_takesOther 4 (some .boolean)) ({ frames := 2, cells := 0, slots := 0, locals := 43 }) [.ref (ad 0), .int a0] (G, E, Dd) (rv, (newG, E, Dd)) := by
  unfold M_takesOther at hf
  refine sMz_of (by decide) (Nat.le_of_ble_eq_true rfl) ?_
  intro p e R s m args below meth c A Q ls H locs F hRf hRl I hl ret
  obtain ⟨hx, hb, hml, hown, hG⟩ := id F
  replace hl : lv_has ls 4 [(0, .ref (ad 0)), (1, .int a0)] := hl
  refine lv_iload_n hx hb dX12_takesOther_0 rfl (lv_at hl 1 rfl) ?_
  refine lv_bipush (v := (97 : Int32)) hx hb dX12_takesOther_1 (by decide) ?_
  refine lv_isub hx hb dX12_takesOther_3 ?_
  refine lv_topi (fun x1 ex1 => ?_)
  replace hf := nm_some ex1 hf
  refine lv_istore_n (lv' := [(2, .int x1), (0, .ref (ad 0)), (1, .int a0)]) hx hb dX12_takesOther_4 rfl hl (by decide) rfl (fun ls hl => ?_)
  refine lv_aload_n hx hb dX12_takesOther_5 rfl (lv_at hl 1 rfl) ?_
  refine lv_iload_n hx hb dX12_takesOther_6 rfl (lv_at hl 0 rfl) ?_
  obtain ⟨r2, h3, hf⟩ := bd_some hf
  refine s_callVi (As := [.int x1]) (rest := []) F I (cM_isSample G E Dd x1 r2 h3) kX12_151 ⟨rfl, rfl⟩ ⟨Nat.le_trans (Nat.le_of_ble_eq_true rfl) hRf, Nat.le_trans (Nat.le_of_ble_eq_true rfl) hRl⟩ 0 12 rfl rfl rfl rfl rfl hl.1 (Nat.le_of_ble_eq_true rfl) ⟨Nat.zero_le _, Nat.zero_le _⟩ dX12_takesOther_7 ?_
  intro H locs I
  obtain ⟨x5, hv17, hf⟩ := bd_some hf
  have J4 : ∀ (H : Heap) (locs : List Loc), sInv D (mT cI cJ cD) (mW ad cI cJ cD) A s H locs (G, E, Dd) → ∀ (ls : Array Slot), lv_has ls 4 [(0, .ref (ad 0)), (2, .int x1)] → W p l e R s m args below meth c H locs 0 0 Q (F0 m 26 ls [.int x5]) := by
    intro H locs I ls hl
    refine lv_istore_n (lv' := [(3, .int x5), (0, .ref (ad 0)), (2, .int x1)]) hx hb dX12_takesOther_26 rfl hl (by decide) rfl (fun ls hl => ?_)
    refine lv_iload_n hx hb dX12_takesOther_27 rfl (lv_at hl 0 rfl) ?_
    obtain ⟨G7, hv12, hf⟩ := bd_some hf
    have J6 : ∀ (H : Heap) (locs : List Loc), sInv D (mT cI cJ cD) (mW ad cI cJ cD) A s H locs (G7, E, Dd) → ∀ (ls : Array Slot), lv_has ls 4 [(0, .ref (ad 0)), (3, .int x5)] → W p l e R s m args below meth c H locs 0 0 Q (F0 m 76 ls []) := by
      intro H locs I ls hl
      refine lv_aload_n hx hb dX12_takesOther_76 rfl (lv_at hl 0 rfl) ?_
      refine lv_iload_n hx hb dX12_takesOther_77 rfl (lv_at hl 1 rfl) ?_
      refine lv_iconst (v := (5 : Int32)) hx hb dX12_takesOther_78 (by decide) ?_
      obtain ⟨r8, G9, h10, hf⟩ := bd2_some hf
      refine s_callVi (As := [.int x5, .int (5 : Int32)]) (rest := []) F I (cM_goes G7 E Dd x5 (5 : Int32) r8 G9 h10) kX12_169 ⟨rfl, rfl⟩ ⟨Nat.le_trans (Nat.le_of_ble_eq_true rfl) hRf, Nat.le_trans (Nat.le_of_ble_eq_true rfl) hRl⟩ 0 12 rfl rfl rfl rfl rfl hl.1 (Nat.le_of_ble_eq_true rfl) ⟨Nat.zero_le _, Nat.zero_le _⟩ dX12_takesOther_79 ?_
      intro H locs I
      obtain ⟨g11, hf⟩ := gd_some hf
      cases hf
      exact ret H locs _ ls I g11 dX12_takesOther_82
    replace hf := hv12
    refine lv_if_eq (tgt := 76) hx hb dX12_takesOther_28 (by decide) (fun c16 => ?_) (fun c16 => ?_)
    · replace hf := (if_pos c16).symm.trans hf
      cases hf
      exact J6 H locs I ls (lv_sub hl [1, 0] rfl)
    · replace hf := (if_neg c16).symm.trans hf
      refine lv_aload_n hx hb dX12_takesOther_31 rfl (lv_at hl 1 rfl) ?_
      refine mgtX12_53_0 F I dX12_takesOther_32 ?_
      refine lv_aload_n hx hb dX12_takesOther_35 rfl (lv_at hl 1 rfl) ?_
      refine mgtX12_179_0 F I dX12_takesOther_36 ?_
      refine lv_sipush (v := (1000 : Int32)) hx hb dX12_takesOther_39 (by decide) ?_
      refine lv_aload_n hx hb dX12_takesOther_42 rfl (lv_at hl 1 rfl) ?_
      refine mgtX12_182_0 F I dX12_takesOther_43 ?_
      refine lv_imul hx hb dX12_takesOther_46 ?_
      refine lv_bipush (v := (100 : Int32)) hx hb dX12_takesOther_47 (by decide) ?_
      refine lv_aload_n hx hb dX12_takesOther_49 rfl (lv_at hl 1 rfl) ?_
      refine mgtX12_166_0 F I dX12_takesOther_50 ?_
      refine lv_imul hx hb dX12_takesOther_53 ?_
      refine lv_iadd hx hb dX12_takesOther_54 ?_
      refine lv_bipush (v := (10 : Int32)) hx hb dX12_takesOther_55 (by decide) ?_
      refine lv_iload_n hx hb dX12_takesOther_57 rfl (lv_at hl 2 rfl) ?_
      refine lv_imul hx hb dX12_takesOther_58 ?_
      refine lv_iadd hx hb dX12_takesOther_59 ?_
      refine lv_aload_n hx hb dX12_takesOther_60 rfl (lv_at hl 1 rfl) ?_
      refine mgtX12_176_0 F I dX12_takesOther_61 ?_
      refine lv_iadd hx hb dX12_takesOther_64 ?_
      obtain ⟨g13, hf⟩ := ri_some hf
      refine mas14 F I g13 dX12_takesOther_65 ?_
      intro H locs G14 eG14 I
      replace hf := nm_some eG14 hf
      refine lv_aload_n hx hb dX12_takesOther_66 rfl (lv_at hl 1 rfl) ?_
      refine lv_dup hx hb dX12_takesOther_67 rfl ?_
      refine mgtX12_179_0 F I dX12_takesOther_68 ?_
      refine lv_iconst (v := (1 : Int32)) hx hb dX12_takesOther_71 (by decide) ?_
      refine lv_iadd hx hb dX12_takesOther_72 ?_
      refine mptX12_179_0 F I dX12_takesOther_73 ?_
      intro H locs G15 eG15 I
      replace hf := nm_some eG15 hf
      cases hf
      exact J6 H locs I ls (lv_sub hl [1, 0] rfl)
  replace hf := hv17
  refine lv_if_eq (tgt := 25) hx hb dX12_takesOther_10 (by decide) (fun c19 => ?_) (fun c19 => ?_)
  · replace hf := (if_pos c19).symm.trans hf
    refine lv_iconst (v := (0 : Int32)) hx hb dX12_takesOther_25 (by decide) ?_
    cases hf
    exact J4 H locs I ls (lv_sub hl [1, 0] rfl)
  · replace hf := (if_neg c19).symm.trans hf
    refine lv_iload_n hx hb dX12_takesOther_13 rfl (lv_at hl 0 rfl) ?_
    refine lv_aload_n hx hb dX12_takesOther_14 rfl (lv_at hl 1 rfl) ?_
    refine mgtX12_166_0 F I dX12_takesOther_15 ?_
    refine lv_icmp_eq (tgt := 25) hx hb dX12_takesOther_18 (by decide) (fun c18 => ?_) (fun c18 => ?_)
    · replace hf := (if_pos c18).symm.trans hf
      refine lv_iconst (v := (0 : Int32)) hx hb dX12_takesOther_25 (by decide) ?_
      cases hf
      exact J4 H locs I ls (lv_sub hl [1, 0] rfl)
    · replace hf := (if_neg c18).symm.trans hf
      refine lv_iconst (v := (1 : Int32)) hx hb dX12_takesOther_21 (by decide) ?_
      refine lv_goto (tgt := 26) hx hb dX12_takesOther_22 (by decide) ?_
      cases hf
      exact J4 H locs I ls (lv_sub hl [1, 0] rfl)
def M_takes (G : Nat → Nat → Int32) (a0 : Int32) : Option (Int32 × (Nat → Nat → Int32)) :=
nm (G 23 0 : Int32) fun x1 =>
if x1 = (0 : Int32) then
(nm (wf G 26 (a0 - (48 : Int32))) fun G3 =>
bd (M_isListener G3 (G3 26 0)) fun r4 =>
bd2 (M_goes G3 r4 (1 : Int32)) fun r6 G7 =>
gd (r6 = 0 ∨ r6 = 1) <|
some (r6, G7))
else if x1 = (1 : Int32) then
(bd (if a0 = (58 : Int32) then
(some (1 : Int32))
else
(some (0 : Int32))) fun x12 =>
bd2 (M_goes G x12 (2 : Int32)) fun r13 G14 =>
gd (r13 = 0 ∨ r13 = 1) <|
some (r13, G14))
else if x1 = (2 : Int32) then
(bd2 (M_takesSample G a0) fun r20 G21 =>
gd (r20 = 0 ∨ r20 = 1) <|
some (r20, G21))
else if x1 = (3 : Int32) then
(bd2 (M_takesSign G a0) fun r25 G26 =>
gd (r25 = 0 ∨ r25 = 1) <|
some (r25, G26))
else if x1 = (4 : Int32) then
(bd2 (M_takesOther G a0) fun r30 G31 =>
gd (r30 = 0 ∨ r30 = 1) <|
some (r30, G31))
else (if a0 = (44 : Int32) then
(bd2 (M_goes G (1 : Int32) (2 : Int32)) fun r42 G43 =>
gd (r42 = 0 ∨ r42 = 1) <|
some (r42, G43))
else
(bd (if a0 = (59 : Int32) then
(some (1 : Int32))
else
(some (0 : Int32))) fun x35 =>
bd2 (M_goes G x35 (0 : Int32)) fun r36 G37 =>
gd (r36 = 0 ∨ r36 = 1) <|
some (r36, G37)))
set_option maxRecDepth 100000 in
set_option maxHeartbeats 4000000 in
theorem cM_takes (G : Nat → Nat → Int32) (E : Nat → Nat → Int64) (Dd : Nat → Nat → UInt64) (a0 : Int32) (rv : Int32) (newG : Nat → Nat → Int32) (hf : M_takes G a0 = some (rv, newG)) : sMi D (mT cI cJ cD) (mW ad cI cJ cD) l yX12_takes (ws1 yX12_takes cX12_takes 2 (some .boolean)) ({ frames := 3, cells := 0, slots := 0, locals := 66 }) [.ref (ad 0), .int a0] (G, E, Dd) (rv, (newG, E, Dd)) := by
  unfold M_takes at hf
  refine sMz_of (by decide) (Nat.le_of_ble_eq_true rfl) ?_
  intro p e R s m args below meth c A Q ls H locs F hRf hRl I hl ret
  obtain ⟨hx, hb, hml, hown, hG⟩ := id F
  replace hl : lv_has ls 2 [(0, .ref (ad 0)), (1, .int a0)] := hl
  refine lv_aload_n hx hb dX12_takes_0 rfl (lv_at hl 0 rfl) ?_
  refine mgtX12_163_0 F I dX12_takes_1 ?_
  refine lv_topi (fun x1 ex1 => ?_)
  replace hf := nm_some ex1 hf
  by_cases c2 : x1 = (0 : Int32)
  · replace hf := (if_pos c2).symm.trans hf
    refine lv_tableIn (off := 36) (tgt := 40) hx hb dX12_takes_4 (by rw [c2]; decide) (by rw [c2]; decide) (by rw [c2]; rfl) (by decide) ?_
    refine lv_aload_n hx hb dX12_takes_40 rfl (lv_at hl 0 rfl) ?_
    refine lv_iload_n hx hb dX12_takes_41 rfl (lv_at hl 1 rfl) ?_
    refine lv_bipush (v := (48 : Int32)) hx hb dX12_takes_42 (by decide) ?_
    refine lv_isub hx hb dX12_takes_44 ?_
    refine mptX12_182_0 F I dX12_takes_45 ?_
    intro H locs G3 eG3 I
    replace hf := nm_some eG3 hf
    refine lv_aload_n hx hb dX12_takes_48 rfl (lv_at hl 0 rfl) ?_
    refine lv_aload_n hx hb dX12_takes_49 rfl (lv_at hl 0 rfl) ?_
    refine lv_aload_n hx hb dX12_takes_50 rfl (lv_at hl 0 rfl) ?_
    refine mgtX12_182_0 F I dX12_takes_51 ?_
    obtain ⟨r4, h5, hf⟩ := bd_some hf
    refine s_callVi (As := [.int (G3 26 0)]) (rest := [.ref (ad 0)]) F I (cM_isListener G3 E Dd (G3 26 0) r4 h5) kX12_114 ⟨rfl, rfl⟩ ⟨Nat.le_trans (Nat.le_of_ble_eq_true rfl) hRf, Nat.le_trans (Nat.le_of_ble_eq_true rfl) hRl⟩ 0 12 rfl rfl rfl rfl rfl hl.1 (Nat.le_of_ble_eq_true rfl) ⟨Nat.zero_le _, Nat.zero_le _⟩ dX12_takes_54 ?_
    intro H locs I
    refine lv_iconst (v := (1 : Int32)) hx hb dX12_takes_57 (by decide) ?_
    obtain ⟨r6, G7, h8, hf⟩ := bd2_some hf
    refine s_callVi (As := [.int r4, .int (1 : Int32)]) (rest := []) F I (cM_goes G3 E Dd r4 (1 : Int32) r6 G7 h8) kX12_169 ⟨rfl, rfl⟩ ⟨Nat.le_trans (Nat.le_of_ble_eq_true rfl) hRf, Nat.le_trans (Nat.le_of_ble_eq_true rfl) hRl⟩ 0 12 rfl rfl rfl rfl rfl hl.1 (Nat.le_of_ble_eq_true rfl) ⟨Nat.zero_le _, Nat.zero_le _⟩ dX12_takes_58 ?_
    intro H locs I
    obtain ⟨g9, hf⟩ := gd_some hf
    cases hf
    exact ret H locs _ ls I g9 dX12_takes_61
  replace hf := (if_neg c2).symm.trans hf
  by_cases c10 : x1 = (1 : Int32)
  · replace hf := (if_pos c10).symm.trans hf
    refine lv_tableIn (off := 58) (tgt := 62) hx hb dX12_takes_4 (by rw [c10]; decide) (by rw [c10]; decide) (by rw [c10]; rfl) (by decide) ?_
    refine lv_aload_n hx hb dX12_takes_62 rfl (lv_at hl 0 rfl) ?_
    refine lv_iload_n hx hb dX12_takes_63 rfl (lv_at hl 1 rfl) ?_
    refine lv_bipush (v := (58 : Int32)) hx hb dX12_takes_64 (by decide) ?_
    obtain ⟨x12, hv17, hf⟩ := bd_some hf
    have J11 : ∀ (H : Heap) (locs : List Loc), sInv D (mT cI cJ cD) (mW ad cI cJ cD) A s H locs (G, E, Dd) → ∀ (ls : Array Slot), lv_has ls 2 [] → W p l e R s m args below meth c H locs 0 0 Q (F0 m 74 ls [.int x12, .ref (ad 0)]) := by
      intro H locs I ls hl
      refine lv_iconst (v := (2 : Int32)) hx hb dX12_takes_74 (by decide) ?_
      obtain ⟨r13, G14, h15, hf⟩ := bd2_some hf
      refine s_callVi (As := [.int x12, .int (2 : Int32)]) (rest := []) F I (cM_goes G E Dd x12 (2 : Int32) r13 G14 h15) kX12_169 ⟨rfl, rfl⟩ ⟨Nat.le_trans (Nat.le_of_ble_eq_true rfl) hRf, Nat.le_trans (Nat.le_of_ble_eq_true rfl) hRl⟩ 0 12 rfl rfl rfl rfl rfl hl.1 (Nat.le_of_ble_eq_true rfl) ⟨Nat.zero_le _, Nat.zero_le _⟩ dX12_takes_75 ?_
      intro H locs I
      obtain ⟨g16, hf⟩ := gd_some hf
      cases hf
      exact ret H locs _ ls I g16 dX12_takes_78
    replace hf := hv17
    refine lv_icmp_ne (tgt := 73) hx hb dX12_takes_66 (by decide) (fun c18 => ?_) (fun c18 => ?_)
    · replace hf := (if_neg c18).symm.trans hf
      refine lv_iconst (v := (0 : Int32)) hx hb dX12_takes_73 (by decide) ?_
      cases hf
      exact J11 H locs I ls (lv_sub hl [] rfl)
    · replace hf := (if_pos c18).symm.trans hf
      refine lv_iconst (v := (1 : Int32)) hx hb dX12_takes_69 (by decide) ?_
      refine lv_goto (tgt := 74) hx hb dX12_takes_70 (by decide) ?_
      cases hf
      exact J11 H locs I ls (lv_sub hl [] rfl)
  replace hf := (if_neg c10).symm.trans hf
  by_cases c19 : x1 = (2 : Int32)
  · replace hf := (if_pos c19).symm.trans hf
    refine lv_tableIn (off := 75) (tgt := 79) hx hb dX12_takes_4 (by rw [c19]; decide) (by rw [c19]; decide) (by rw [c19]; rfl) (by decide) ?_
    refine lv_aload_n hx hb dX12_takes_79 rfl (lv_at hl 0 rfl) ?_
    refine lv_iload_n hx hb dX12_takes_80 rfl (lv_at hl 1 rfl) ?_
    obtain ⟨r20, G21, h22, hf⟩ := bd2_some hf
    refine s_callVi (As := [.int a0]) (rest := []) F I (cM_takesSample G E Dd a0 r20 G21 h22) kX12_185 ⟨rfl, rfl⟩ ⟨Nat.le_trans (Nat.le_of_ble_eq_true rfl) hRf, Nat.le_trans (Nat.le_of_ble_eq_true rfl) hRl⟩ 0 12 rfl rfl rfl rfl rfl hl.1 (Nat.le_of_ble_eq_true rfl) ⟨Nat.zero_le _, Nat.zero_le _⟩ dX12_takes_81 ?_
    intro H locs I
    obtain ⟨g23, hf⟩ := gd_some hf
    cases hf
    exact ret H locs _ ls I g23 dX12_takes_84
  replace hf := (if_neg c19).symm.trans hf
  by_cases c24 : x1 = (3 : Int32)
  · replace hf := (if_pos c24).symm.trans hf
    refine lv_tableIn (off := 81) (tgt := 85) hx hb dX12_takes_4 (by rw [c24]; decide) (by rw [c24]; decide) (by rw [c24]; rfl) (by decide) ?_
    refine lv_aload_n hx hb dX12_takes_85 rfl (lv_at hl 0 rfl) ?_
    refine lv_iload_n hx hb dX12_takes_86 rfl (lv_at hl 1 rfl) ?_
    obtain ⟨r25, G26, h27, hf⟩ := bd2_some hf
    refine s_callVi (As := [.int a0]) (rest := []) F I (cM_takesSign G E Dd a0 r25 G26 h27) kX12_188 ⟨rfl, rfl⟩ ⟨Nat.le_trans (Nat.le_of_ble_eq_true rfl) hRf, Nat.le_trans (Nat.le_of_ble_eq_true rfl) hRl⟩ 0 12 rfl rfl rfl rfl rfl hl.1 (Nat.le_of_ble_eq_true rfl) ⟨Nat.zero_le _, Nat.zero_le _⟩ dX12_takes_87 ?_
    intro H locs I
    obtain ⟨g28, hf⟩ := gd_some hf
    cases hf
    exact ret H locs _ ls I g28 dX12_takes_90
  replace hf := (if_neg c24).symm.trans hf
  by_cases c29 : x1 = (4 : Int32)
  · replace hf := (if_pos c29).symm.trans hf
    refine lv_tableIn (off := 87) (tgt := 91) hx hb dX12_takes_4 (by rw [c29]; decide) (by rw [c29]; decide) (by rw [c29]; rfl) (by decide) ?_
    refine lv_aload_n hx hb dX12_takes_91 rfl (lv_at hl 0 rfl) ?_
    refine lv_iload_n hx hb dX12_takes_92 rfl (lv_at hl 1 rfl) ?_
    obtain ⟨r30, G31, h32, hf⟩ := bd2_some hf
    refine s_callVi (As := [.int a0]) (rest := []) F I (cM_takesOther G E Dd a0 r30 G31 h32) kX12_191 ⟨rfl, rfl⟩ ⟨Nat.le_trans (Nat.le_of_ble_eq_true rfl) hRf, Nat.le_trans (Nat.le_of_ble_eq_true rfl) hRl⟩ 0 12 rfl rfl rfl rfl rfl hl.1 (Nat.le_of_ble_eq_true rfl) ⟨Nat.zero_le _, Nat.zero_le _⟩ dX12_takes_93 ?_
    intro H locs I
    obtain ⟨g33, hf⟩ := gd_some hf
    cases hf
    exact ret H locs _ ls I g33 dX12_takes_96
  replace hf := (if_neg c29).symm.trans hf
  refine lv_tableOut (tgt := 97) hx hb dX12_takes_4 (tsw4 c2 c10 c19 c24 c29) (by decide) ?_
  refine lv_iload_n hx hb dX12_takes_97 rfl (lv_at hl 1 rfl) ?_
  refine lv_bipush (v := (44 : Int32)) hx hb dX12_takes_98 (by decide) ?_
  refine lv_icmp_ne (tgt := 112) hx hb dX12_takes_100 (by decide) (fun c46 => ?_) (fun c46 => ?_)
  · replace hf := (if_neg c46).symm.trans hf
    refine lv_aload_n hx hb dX12_takes_112 rfl (lv_at hl 0 rfl) ?_
    refine lv_iload_n hx hb dX12_takes_113 rfl (lv_at hl 1 rfl) ?_
    refine lv_bipush (v := (59 : Int32)) hx hb dX12_takes_114 (by decide) ?_
    obtain ⟨x35, hv40, hf⟩ := bd_some hf
    have J34 : ∀ (H : Heap) (locs : List Loc), sInv D (mT cI cJ cD) (mW ad cI cJ cD) A s H locs (G, E, Dd) → ∀ (ls : Array Slot), lv_has ls 2 [] → W p l e R s m args below meth c H locs 0 0 Q (F0 m 124 ls [.int x35, .ref (ad 0)]) := by
      intro H locs I ls hl
      refine lv_iconst (v := (0 : Int32)) hx hb dX12_takes_124 (by decide) ?_
      obtain ⟨r36, G37, h38, hf⟩ := bd2_some hf
      refine s_callVi (As := [.int x35, .int (0 : Int32)]) (rest := []) F I (cM_goes G E Dd x35 (0 : Int32) r36 G37 h38) kX12_169 ⟨rfl, rfl⟩ ⟨Nat.le_trans (Nat.le_of_ble_eq_true rfl) hRf, Nat.le_trans (Nat.le_of_ble_eq_true rfl) hRl⟩ 0 12 rfl rfl rfl rfl rfl hl.1 (Nat.le_of_ble_eq_true rfl) ⟨Nat.zero_le _, Nat.zero_le _⟩ dX12_takes_125 ?_
      intro H locs I
      obtain ⟨g39, hf⟩ := gd_some hf
      cases hf
      exact ret H locs _ ls I g39 dX12_takes_128
    replace hf := hv40
    refine lv_icmp_ne (tgt := 123) hx hb dX12_takes_116 (by decide) (fun c41 => ?_) (fun c41 => ?_)
    · replace hf := (if_neg c41).symm.trans hf
      refine lv_iconst (v := (0 : Int32)) hx hb dX12_takes_123 (by decide) ?_
      cases hf
      exact J34 H locs I ls (lv_sub hl [] rfl)
    · replace hf := (if_pos c41).symm.trans hf
      refine lv_iconst (v := (1 : Int32)) hx hb dX12_takes_119 (by decide) ?_
      refine lv_goto (tgt := 124) hx hb dX12_takes_120 (by decide) ?_
      cases hf
      exact J34 H locs I ls (lv_sub hl [] rfl)
  · replace hf := (if_pos c46).symm.trans hf
    refine lv_aload_n hx hb dX12_takes_103 rfl (lv_at hl 0 rfl) ?_
    refine lv_iconst (v := (1 : Int32)) hx hb dX12_takes_104 (by decide) ?_
    refine lv_iconst (v := (2 : Int32)) hx hb dX12_takes_105 (by decide) ?_
    obtain ⟨r42, G43, h44, hf⟩ := bd2_some hf
    refine s_callVi (As := [.int (1 : Int32), .int (2 : Int32)]) (rest := []) F I (cM_goes G E Dd (1 : Int32) (2 : Int32) r42 G43 h44) kX12_169 ⟨rfl, rfl⟩ ⟨Nat.le_trans (Nat.le_of_ble_eq_true rfl) hRf, Nat.le_trans (Nat.le_of_ble_eq_true rfl) hRl⟩ 0 12 rfl rfl rfl rfl rfl hl.1 (Nat.le_of_ble_eq_true rfl) ⟨Nat.zero_le _, Nat.zero_le _⟩ dX12_takes_106 ?_
    intro H locs I
    refine lv_goto (tgt := 128) hx hb dX12_takes_109 (by decide) ?_
    obtain ⟨g45, hf⟩ := gd_some hf
    cases hf
    exact ret H locs _ ls I g45 dX12_takes_128
def M_read_s1  (x3 : Int32) (G4 : Nat → Nat → Int32) : Option ((Int32 × (Nat → Nat → Int32)) ⊕ (Int32 × (Nat → Nat → Int32))) :=
if G4 20 0 ≤ x3 then
(some (.inr (x3, G4)))
else
(ri 60 x3 <|
bd2 (M_takes G4 (G4 21 x3.toNatClampNeg)) fun r8 G9 =>
if r8 = 0 then
(some (.inr (x3, G9)))
else
(nm (x3 + (1 : Int32) : Int32) fun x11 =>
some (.inl (x11, G9))))
def M_read (G : Nat → Nat → Int32) : Option (Int32 × (Nat → Nat → Int32)) :=
nm (wf G 23 (0 : Int32)) fun G1 =>
nm (wf G1 24 (0 : Int32)) fun G2 =>
bd2 (lp (fun q => M_read_s1 q.1 q.2) FU ((0 : Int32), G2)) fun r5 G6 =>
some (r5, G6)
set_option maxRecDepth 100000 in
set_option maxHeartbeats 4000000 in
theorem cM_read (G : Nat → Nat → Int32) (E : Nat → Nat → Int64) (Dd : Nat → Nat → UInt64)  (rv : Int32) (newG : Nat → Nat → Int32) (hf : M_read G = some (rv, newG)) : sMi D (mT cI cJ cD) (mW ad cI cJ cD) l yX12_read (ws1 yX12_read cX12_read 2 (some .int)) ({ frames := 4, cells := 0, slots := 0, locals := 87 }) [.ref (ad 0)] (G, E, Dd) (rv, (newG, E, Dd)) := by
  unfold M_read at hf
  refine sMi_of (by decide) (Nat.le_of_ble_eq_true rfl) ?_
  intro p e R s m args below meth c A Q ls H locs F hRf hRl I hl ret
  obtain ⟨hx, hb, hml, hown, hG⟩ := id F
  replace hl : lv_has ls 2 [(0, .ref (ad 0))] := hl
  refine lv_aload_n hx hb dX12_read_0 rfl (lv_at hl 0 rfl) ?_
  refine lv_iconst (v := (0 : Int32)) hx hb dX12_read_1 (by decide) ?_
  refine mptX12_163_0 F I dX12_read_2 ?_
  intro H locs G1 eG1 I
  replace hf := nm_some eG1 hf
  refine lv_aload_n hx hb dX12_read_5 rfl (lv_at hl 0 rfl) ?_
  refine lv_iconst (v := (0 : Int32)) hx hb dX12_read_6 (by decide) ?_
  refine mptX12_179_0 F I dX12_read_7 ?_
  intro H locs G2 eG2 I
  replace hf := nm_some eG2 hf
  refine lv_iconst (v := (0 : Int32)) hx hb dX12_read_10 (by decide) ?_
  refine lv_istore_n (lv' := [(1, .int (0 : Int32)), (0, .ref (ad 0))]) hx hb dX12_read_11 rfl hl (by decide) rfl (fun ls hl => ?_)
  obtain ⟨r5, G6, hq1, hf⟩ := bd2_some hf
  have K1 : ∀ (H : Heap) (locs : List Loc), sInv D (mT cI cJ cD) (mW ad cI cJ cD) A s H locs (G6, E, Dd) → ∀ (ls : Array Slot), lv_has ls 2 [(1, .int r5)] → W p l e R s m args below meth c H locs 0 0 Q (F0 m 39 ls []) := by
    intro H locs I ls hl
    refine lv_iload_n hx hb dX12_read_39 rfl (lv_at hl 0 rfl) ?_
    cases hf
    exact ret H locs _ ls I dX12_read_40
  have L1 : ∀ (n : Nat) (x3 : Int32) (G4 : Nat → Nat → Int32), lp (fun q => M_read_s1 q.1 q.2) n (x3, G4) = some (r5, G6) → ∀ (H : Heap) (locs : List Loc), sInv D (mT cI cJ cD) (mW ad cI cJ cD) A s H locs (G4, E, Dd) → ∀ (ls : Array Slot), lv_has ls 2 [(0, .ref (ad 0)), (1, .int x3)] → W p l e R s m args below meth c H locs 0 0 Q (F0 m 12 ls []) := by
    intro n
    induction n with
    | zero => intro x3 G4 hq; exact (lp_0 hq).elim
    | succ n ih1 =>
      intro x3 G4 hq H locs I ls hl
      obtain ⟨y1, hf, hK1⟩ := lp_go hq
      replace hf : M_read_s1 x3 G4 = some y1 := hf
      unfold M_read_s1 at hf
      refine lv_iload_n hx hb dX12_read_12 rfl (lv_at hl 1 rfl) ?_
      refine lv_aload_n hx hb dX12_read_13 rfl (lv_at hl 0 rfl) ?_
      refine mgtX12_160_0 F I dX12_read_14 ?_
      refine lv_icmp_ge (tgt := 39) hx hb dX12_read_17 (by decide) (fun c13 => ?_) (fun c13 => ?_)
      · replace hf := (if_pos c13).symm.trans hf
        cases hf
        cases (show (x3, G4) = (r5, G6) from hK1)
        exact K1 H locs I ls (lv_sub hl [1] rfl)
      · replace hf := (if_neg c13).symm.trans hf
        refine lv_aload_n hx hb dX12_read_20 rfl (lv_at hl 0 rfl) ?_
        refine lv_aload_n hx hb dX12_read_21 rfl (lv_at hl 0 rfl) ?_
        refine mgtX12_50_0 F I dX12_read_22 ?_
        refine lv_iload_n hx hb dX12_read_25 rfl (lv_at hl 1 rfl) ?_
        obtain ⟨g7, hf⟩ := ri_some hf
        refine mal13 F I g7 dX12_read_26 ?_
        obtain ⟨r8, G9, h10, hf⟩ := bd2_some hf
        refine s_callVi (As := [.int (G4 21 x3.toNatClampNeg)]) (rest := []) F I (cM_takes G4 E Dd (G4 21 x3.toNatClampNeg) r8 G9 h10) kX12_194 ⟨rfl, rfl⟩ ⟨Nat.le_trans (Nat.le_of_ble_eq_true rfl) hRf, Nat.le_trans (Nat.le_of_ble_eq_true rfl) hRl⟩ 0 12 rfl rfl rfl rfl rfl hl.1 (Nat.le_of_ble_eq_true rfl) ⟨Nat.zero_le _, Nat.zero_le _⟩ dX12_read_27 ?_
        intro H locs I
        refine lv_if_eq (tgt := 39) hx hb dX12_read_30 (by decide) (fun c12 => ?_) (fun c12 => ?_)
        · replace hf := (if_pos c12).symm.trans hf
          cases hf
          cases (show (x3, G9) = (r5, G6) from hK1)
          exact K1 H locs I ls (lv_sub hl [1] rfl)
        · replace hf := (if_neg c12).symm.trans hf
          obtain ⟨x11, ex11⟩ : ∃ y : Int32, y = x3 + (1 : Int32) := ⟨_, rfl⟩
          replace hf := nm_some ex11 hf
          refine lv_iinc (v := x11) (lv' := [(1, .int x11), (0, .ref (ad 0))]) hx hb dX12_read_33 hl (k := 1) rfl (by rw [ex11]; rfl) (by decide) rfl (fun ls hl => ?_)
          refine lv_goto (tgt := 12) hx hb dX12_read_36 (by decide) ?_
          cases hf
          exact ih1 _ _ hK1 H locs I ls (lv_sub hl [1, 0] rfl)
  exact L1 FU _ _ hq1 H locs I ls (lv_sub hl [1, 0] rfl)
def M_firstError (G : Nat → Nat → Int32) : Option (Int32 × (Nat → Nat → Int32)) :=
nm (wf G 0 (0 : Int32)) fun G1 =>
bd2 (M_read G1) fun r2 G3 =>
some (r2, G3)
set_option maxRecDepth 100000 in
set_option maxHeartbeats 4000000 in
theorem cM_firstError (G : Nat → Nat → Int32) (E : Nat → Nat → Int64) (Dd : Nat → Nat → UInt64)  (rv : Int32) (newG : Nat → Nat → Int32) (hf : M_firstError G = some (rv, newG)) : sMi D (mT cI cJ cD) (mW ad cI cJ cD) l yX12_firstError (ws1 yX12_firstError cX12_firstError 1 (some .int)) ({ frames := 5, cells := 0, slots := 0, locals := 108 }) [.ref (ad 0)] (G, E, Dd) (rv, (newG, E, Dd)) := by
  unfold M_firstError at hf
  refine sMi_of (by decide) (Nat.le_of_ble_eq_true rfl) ?_
  intro p e R s m args below meth c A Q ls H locs F hRf hRl I hl ret
  obtain ⟨hx, hb, hml, hown, hG⟩ := id F
  replace hl : lv_has ls 1 [(0, .ref (ad 0))] := hl
  refine lv_aload_n hx hb dX12_firstError_0 rfl (lv_at hl 0 rfl) ?_
  refine lv_iconst (v := (0 : Int32)) hx hb dX12_firstError_1 (by decide) ?_
  refine mptX12_89_0 F I dX12_firstError_2 ?_
  intro H locs G1 eG1 I
  replace hf := nm_some eG1 hf
  refine lv_aload_n hx hb dX12_firstError_5 rfl (lv_at hl 0 rfl) ?_
  obtain ⟨r2, G3, h4, hf⟩ := bd2_some hf
  refine s_callVi (As := []) (rest := []) F I (cM_read G1 E Dd r2 G3 h4) kX12_197 ⟨rfl, rfl⟩ ⟨Nat.le_trans (Nat.le_of_ble_eq_true rfl) hRf, Nat.le_trans (Nat.le_of_ble_eq_true rfl) hRl⟩ 0 12 rfl rfl rfl rfl rfl hl.1 (Nat.le_of_ble_eq_true rfl) ⟨Nat.zero_le _, Nat.zero_le _⟩ dX12_firstError_6 ?_
  intro H locs I
  cases hf
  exact ret H locs _ ls I dX12_firstError_9
def M_load_s1  (x11 : Int32) (G12 : Nat → Nat → Int32) : Option ((Int32 × (Nat → Nat → Int32)) ⊕ ((Nat → Nat → Int32))) :=
if G12 24 0 ≤ x11 then
(some (.inr G12))
else
(ri 20 x11 <|
bd (M_unpack G12 (G12 4 0) (G12 25 x11.toNatClampNeg)) fun G16 =>
nm (wf G16 4 ((G16 4 0) + (1 : Int32))) fun G18 =>
nm (x11 + (1 : Int32) : Int32) fun x19 =>
some (.inl (x19, G18)))
def M_load (G : Nat → Nat → Int32) : Option (Int32 × (Nat → Nat → Int32)) :=
bd2 (M_read G) fun r1 G2 =>
bd (if r1 = G2 20 0 then
(if G2 23 0 = (5 : Int32) then
(some (1 : Int32))
else
(some (0 : Int32)))
else
(some (0 : Int32))) fun x5 =>
bd (if x5 = 0 then
(some (1 : Int32))
else
(if (G2 4 0) + (G2 24 0) ≤ (48 : Int32) then
(some (0 : Int32))
else
(some (2 : Int32)))) fun x7 =>
nm (wf G2 0 x7) fun G8 =>
if G8 0 0 ≤ 0 then
(bd (M_keep G8) fun G9 =>
bd (lp (fun q => M_load_s1 q.1 q.2) FU ((0 : Int32), G9)) fun G13 =>
nm (wf G13 20 (0 : Int32)) fun G14 =>
some (G14 24 0, G14))
else
(some ((0 : Int32), G8))
set_option maxRecDepth 100000 in
set_option maxHeartbeats 4000000 in
theorem cM_load (G : Nat → Nat → Int32) (E : Nat → Nat → Int64) (Dd : Nat → Nat → UInt64)  (rv : Int32) (newG : Nat → Nat → Int32) (hf : M_load G = some (rv, newG)) : sMi D (mT cI cJ cD) (mW ad cI cJ cD) l yX12_load (ws1 yX12_load cX12_load 3 (some .int)) ({ frames := 5, cells := 0, slots := 0, locals := 108 }) [.ref (ad 0)] (G, E, Dd) (rv, (newG, E, Dd)) := by
  unfold M_load at hf
  refine sMi_of (by decide) (Nat.le_of_ble_eq_true rfl) ?_
  intro p e R s m args below meth c A Q ls H locs F hRf hRl I hl ret
  obtain ⟨hx, hb, hml, hown, hG⟩ := id F
  replace hl : lv_has ls 3 [(0, .ref (ad 0))] := hl
  refine lv_aload_n hx hb dX12_load_0 rfl (lv_at hl 0 rfl) ?_
  obtain ⟨r1, G2, h3, hf⟩ := bd2_some hf
  refine s_callVi (As := []) (rest := []) F I (cM_read G E Dd r1 G2 h3) kX12_197 ⟨rfl, rfl⟩ ⟨Nat.le_trans (Nat.le_of_ble_eq_true rfl) hRf, Nat.le_trans (Nat.le_of_ble_eq_true rfl) hRl⟩ 0 12 rfl rfl rfl rfl rfl hl.1 (Nat.le_of_ble_eq_true rfl) ⟨Nat.zero_le _, Nat.zero_le _⟩ dX12_load_1 ?_
  intro H locs I
  refine lv_aload_n hx hb dX12_load_4 rfl (lv_at hl 0 rfl) ?_
  refine mgtX12_160_0 F I dX12_load_5 ?_
  obtain ⟨x5, hv25, hf⟩ := bd_some hf
  have J4 : ∀ (H : Heap) (locs : List Loc), sInv D (mT cI cJ cD) (mW ad cI cJ cD) A s H locs (G2, E, Dd) → ∀ (ls : Array Slot), lv_has ls 3 [(0, .ref (ad 0))] → W p l e R s m args below meth c H locs 0 0 Q (F0 m 24 ls [.int x5]) := by
    intro H locs I ls hl
    refine lv_istore_n (lv' := [(1, .int x5), (0, .ref (ad 0))]) hx hb dX12_load_24 rfl hl (by decide) rfl (fun ls hl => ?_)
    refine lv_aload_n hx hb dX12_load_25 rfl (lv_at hl 1 rfl) ?_
    refine lv_iload_n hx hb dX12_load_26 rfl (lv_at hl 0 rfl) ?_
    obtain ⟨x7, hv22, hf⟩ := bd_some hf
    have J6 : ∀ (H : Heap) (locs : List Loc), sInv D (mT cI cJ cD) (mW ad cI cJ cD) A s H locs (G2, E, Dd) → ∀ (ls : Array Slot), lv_has ls 3 [(0, .ref (ad 0))] → W p l e R s m args below meth c H locs 0 0 Q (F0 m 53 ls [.int x7, .ref (ad 0)]) := by
      intro H locs I ls hl
      refine mptX12_89_0 F I dX12_load_53 ?_
      intro H locs G8 eG8 I
      replace hf := nm_some eG8 hf
      refine lv_aload_n hx hb dX12_load_56 rfl (lv_at hl 0 rfl) ?_
      refine mgtX12_89_0 F I dX12_load_57 ?_
      refine lv_if_le (tgt := 65) hx hb dX12_load_60 (by decide) (fun c21 => ?_) (fun c21 => ?_)
      · replace hf := (if_pos c21).symm.trans hf
        refine lv_aload_n hx hb dX12_load_65 rfl (lv_at hl 0 rfl) ?_
        obtain ⟨G9, h10, hf⟩ := bd_some hf
        refine s_callVv (As := []) (rest := []) F I (cM_keep G8 E Dd G9 h10) kX12_144 ⟨rfl, rfl⟩ ⟨Nat.le_trans (Nat.le_of_ble_eq_true rfl) hRf, Nat.le_trans (Nat.le_of_ble_eq_true rfl) hRl⟩ 0 12 rfl rfl rfl rfl rfl hl.1 (Nat.le_of_ble_eq_true rfl) ⟨Nat.zero_le _, Nat.zero_le _⟩ dX12_load_66 ?_
        intro H locs I
        refine lv_iconst (v := (0 : Int32)) hx hb dX12_load_69 (by decide) ?_
        refine lv_istore_n (lv' := [(2, .int (0 : Int32)), (0, .ref (ad 0))]) hx hb dX12_load_70 rfl hl (by decide) rfl (fun ls hl => ?_)
        obtain ⟨G13, hq1, hf⟩ := bd_some hf
        have K1 : ∀ (H : Heap) (locs : List Loc), sInv D (mT cI cJ cD) (mW ad cI cJ cD) A s H locs (G13, E, Dd) → ∀ (ls : Array Slot), lv_has ls 3 [(0, .ref (ad 0))] → W p l e R s m args below meth c H locs 0 0 Q (F0 m 109 ls []) := by
          intro H locs I ls hl
          refine lv_aload_n hx hb dX12_load_109 rfl (lv_at hl 0 rfl) ?_
          refine lv_iconst (v := (0 : Int32)) hx hb dX12_load_110 (by decide) ?_
          refine mptX12_160_0 F I dX12_load_111 ?_
          intro H locs G14 eG14 I
          replace hf := nm_some eG14 hf
          refine lv_aload_n hx hb dX12_load_114 rfl (lv_at hl 0 rfl) ?_
          refine mgtX12_179_0 F I dX12_load_115 ?_
          cases hf
          exact ret H locs _ ls I dX12_load_118
        have L1 : ∀ (n : Nat) (x11 : Int32) (G12 : Nat → Nat → Int32), lp (fun q => M_load_s1 q.1 q.2) n (x11, G12) = some G13 → ∀ (H : Heap) (locs : List Loc), sInv D (mT cI cJ cD) (mW ad cI cJ cD) A s H locs (G12, E, Dd) → ∀ (ls : Array Slot), lv_has ls 3 [(0, .ref (ad 0)), (2, .int x11)] → W p l e R s m args below meth c H locs 0 0 Q (F0 m 71 ls []) := by
          intro n
          induction n with
          | zero => intro x11 G12 hq; exact (lp_0 hq).elim
          | succ n ih1 =>
            intro x11 G12 hq H locs I ls hl
            obtain ⟨y1, hf, hK1⟩ := lp_go hq
            replace hf : M_load_s1 x11 G12 = some y1 := hf
            unfold M_load_s1 at hf
            refine lv_iload_n hx hb dX12_load_71 rfl (lv_at hl 1 rfl) ?_
            refine lv_aload_n hx hb dX12_load_72 rfl (lv_at hl 0 rfl) ?_
            refine mgtX12_179_0 F I dX12_load_73 ?_
            refine lv_icmp_ge (tgt := 109) hx hb dX12_load_76 (by decide) (fun c20 => ?_) (fun c20 => ?_)
            · replace hf := (if_pos c20).symm.trans hf
              cases hf
              cases (show G12 = G13 from hK1)
              exact K1 H locs I ls (lv_sub hl [0] rfl)
            · replace hf := (if_neg c20).symm.trans hf
              refine lv_aload_n hx hb dX12_load_79 rfl (lv_at hl 0 rfl) ?_
              refine lv_aload_n hx hb dX12_load_80 rfl (lv_at hl 0 rfl) ?_
              refine mgtX12_102_0 F I dX12_load_81 ?_
              refine lv_aload_n hx hb dX12_load_84 rfl (lv_at hl 0 rfl) ?_
              refine mgtX12_53_0 F I dX12_load_85 ?_
              refine lv_iload_n hx hb dX12_load_88 rfl (lv_at hl 1 rfl) ?_
              obtain ⟨g15, hf⟩ := ri_some hf
              refine mal14 F I g15 dX12_load_89 ?_
              obtain ⟨G16, h17, hf⟩ := bd_some hf
              refine s_callVv (As := [.int (G12 4 0), .int (G12 25 x11.toNatClampNeg)]) (rest := []) F I (cM_unpack G12 E Dd (G12 4 0) (G12 25 x11.toNatClampNeg) G16 h17) kX12_157 ⟨rfl, rfl⟩ ⟨Nat.le_trans (Nat.le_of_ble_eq_true rfl) hRf, Nat.le_trans (Nat.le_of_ble_eq_true rfl) hRl⟩ 0 12 rfl rfl rfl rfl rfl hl.1 (Nat.le_of_ble_eq_true rfl) ⟨Nat.zero_le _, Nat.zero_le _⟩ dX12_load_90 ?_
              intro H locs I
              refine lv_aload_n hx hb dX12_load_93 rfl (lv_at hl 0 rfl) ?_
              refine lv_dup hx hb dX12_load_94 rfl ?_
              refine mgtX12_102_0 F I dX12_load_95 ?_
              refine lv_iconst (v := (1 : Int32)) hx hb dX12_load_98 (by decide) ?_
              refine lv_iadd hx hb dX12_load_99 ?_
              refine mptX12_102_0 F I dX12_load_100 ?_
              intro H locs G18 eG18 I
              replace hf := nm_some eG18 hf
              obtain ⟨x19, ex19⟩ : ∃ y : Int32, y = x11 + (1 : Int32) := ⟨_, rfl⟩
              replace hf := nm_some ex19 hf
              refine lv_iinc (v := x19) (lv' := [(2, .int x19), (0, .ref (ad 0))]) hx hb dX12_load_103 hl (k := 1) rfl (by rw [ex19]; rfl) (by decide) rfl (fun ls hl => ?_)
              refine lv_goto (tgt := 71) hx hb dX12_load_106 (by decide) ?_
              cases hf
              exact ih1 _ _ hK1 H locs I ls (lv_sub hl [1, 0] rfl)
        exact L1 FU _ _ hq1 H locs I ls (lv_sub hl [1, 0] rfl)
      · replace hf := (if_neg c21).symm.trans hf
        refine lv_iconst (v := (0 : Int32)) hx hb dX12_load_63 (by decide) ?_
        cases hf
        exact ret H locs _ ls I dX12_load_64
    replace hf := hv22
    refine lv_if_ne (tgt := 34) hx hb dX12_load_27 (by decide) (fun c24 => ?_) (fun c24 => ?_)
    · replace hf := (if_neg c24).symm.trans hf
      refine lv_aload_n hx hb dX12_load_34 rfl (lv_at hl 1 rfl) ?_
      refine mgtX12_102_0 F I dX12_load_35 ?_
      refine lv_aload_n hx hb dX12_load_38 rfl (lv_at hl 1 rfl) ?_
      refine mgtX12_179_0 F I dX12_load_39 ?_
      refine lv_iadd hx hb dX12_load_42 ?_
      refine lv_bipush (v := (48 : Int32)) hx hb dX12_load_43 (by decide) ?_
      refine lv_icmp_le (tgt := 52) hx hb dX12_load_45 (by decide) (fun c23 => ?_) (fun c23 => ?_)
      · replace hf := (if_pos c23).symm.trans hf
        refine lv_iconst (v := (0 : Int32)) hx hb dX12_load_52 (by decide) ?_
        cases hf
        exact J6 H locs I ls (lv_sub hl [1] rfl)
      · replace hf := (if_neg c23).symm.trans hf
        refine lv_iconst (v := (2 : Int32)) hx hb dX12_load_48 (by decide) ?_
        refine lv_goto (tgt := 53) hx hb dX12_load_49 (by decide) ?_
        cases hf
        exact J6 H locs I ls (lv_sub hl [1] rfl)
    · replace hf := (if_pos c24).symm.trans hf
      refine lv_iconst (v := (1 : Int32)) hx hb dX12_load_30 (by decide) ?_
      refine lv_goto (tgt := 53) hx hb dX12_load_31 (by decide) ?_
      cases hf
      exact J6 H locs I ls (lv_sub hl [1] rfl)
  replace hf := hv25
  refine lv_icmp_ne (tgt := 23) hx hb dX12_load_8 (by decide) (fun c27 => ?_) (fun c27 => ?_)
  · replace hf := (if_neg c27).symm.trans hf
    refine lv_iconst (v := (0 : Int32)) hx hb dX12_load_23 (by decide) ?_
    cases hf
    exact J4 H locs I ls (lv_sub hl [0] rfl)
  · replace hf := (if_pos c27).symm.trans hf
    refine lv_aload_n hx hb dX12_load_11 rfl (lv_at hl 0 rfl) ?_
    refine mgtX12_163_0 F I dX12_load_12 ?_
    refine lv_iconst (v := (5 : Int32)) hx hb dX12_load_15 (by decide) ?_
    refine lv_icmp_ne (tgt := 23) hx hb dX12_load_16 (by decide) (fun c26 => ?_) (fun c26 => ?_)
    · replace hf := (if_neg c26).symm.trans hf
      refine lv_iconst (v := (0 : Int32)) hx hb dX12_load_23 (by decide) ?_
      cases hf
      exact J4 H locs I ls (lv_sub hl [0] rfl)
    · replace hf := (if_pos c26).symm.trans hf
      refine lv_iconst (v := (1 : Int32)) hx hb dX12_load_19 (by decide) ?_
      refine lv_goto (tgt := 24) hx hb dX12_load_20 (by decide) ?_
      cases hf
      exact J4 H locs I ls (lv_sub hl [0] rfl)
def M_wonBy (G : Nat → Nat → Int32) (a0 : Int32) : Option (Int32) :=
ri 48 a0 <|
if G 8 a0.toNatClampNeg = (1 : Int32) then
(ri 48 a0 <|
some (G 6 a0.toNatClampNeg))
else
(ri 48 a0 <|
if G 8 a0.toNatClampNeg = (2 : Int32) then
(ri 48 a0 <|
some (G 7 a0.toNatClampNeg))
else
(some (-1 : Int32)))
set_option maxRecDepth 100000 in
set_option maxHeartbeats 4000000 in
theorem cM_wonBy (G : Nat → Nat → Int32) (E : Nat → Nat → Int64) (Dd : Nat → Nat → UInt64) (a0 : Int32) (rv : Int32)  (hf : M_wonBy G a0 = some rv) : sMi D (mT cI cJ cD) (mW ad cI cJ cD) l yX12_wonBy (ws1 yX12_wonBy cX12_wonBy 2 (some .int)) ({ frames := 0, cells := 0, slots := 0, locals := 0 }) [.ref (ad 0), .int a0] (G, E, Dd) (rv, (G, E, Dd)) := by
  unfold M_wonBy at hf
  refine sMi_of (by decide) (Nat.le_of_ble_eq_true rfl) ?_
  intro p e R s m args below meth c A Q ls H locs F hRf hRl I hl ret
  obtain ⟨hx, hb, hml, hown, hG⟩ := id F
  replace hl : lv_has ls 2 [(0, .ref (ad 0)), (1, .int a0)] := hl
  refine lv_aload_n hx hb dX12_wonBy_0 rfl (lv_at hl 0 rfl) ?_
  refine mgtX12_22_0 F I dX12_wonBy_1 ?_
  refine lv_iload_n hx hb dX12_wonBy_4 rfl (lv_at hl 1 rfl) ?_
  obtain ⟨g1, hf⟩ := ri_some hf
  refine mal5 F I g1 dX12_wonBy_5 ?_
  refine lv_iconst (v := (1 : Int32)) hx hb dX12_wonBy_6 (by decide) ?_
  refine lv_icmp_ne (tgt := 19) hx hb dX12_wonBy_7 (by decide) (fun c6 => ?_) (fun c6 => ?_)
  · replace hf := (if_neg c6).symm.trans hf
    refine lv_aload_n hx hb dX12_wonBy_19 rfl (lv_at hl 0 rfl) ?_
    refine mgtX12_22_0 F I dX12_wonBy_20 ?_
    refine lv_iload_n hx hb dX12_wonBy_23 rfl (lv_at hl 1 rfl) ?_
    obtain ⟨g2, hf⟩ := ri_some hf
    refine mal5 F I g2 dX12_wonBy_24 ?_
    refine lv_iconst (v := (2 : Int32)) hx hb dX12_wonBy_25 (by decide) ?_
    refine lv_icmp_ne (tgt := 38) hx hb dX12_wonBy_26 (by decide) (fun c4 => ?_) (fun c4 => ?_)
    · replace hf := (if_neg c4).symm.trans hf
      refine lv_iconst (v := (-1 : Int32)) hx hb dX12_wonBy_38 (by decide) ?_
      cases hf
      exact ret H locs _ ls I dX12_wonBy_39
    · replace hf := (if_pos c4).symm.trans hf
      refine lv_aload_n hx hb dX12_wonBy_29 rfl (lv_at hl 0 rfl) ?_
      refine mgtX12_19_0 F I dX12_wonBy_30 ?_
      refine lv_iload_n hx hb dX12_wonBy_33 rfl (lv_at hl 1 rfl) ?_
      obtain ⟨g3, hf⟩ := ri_some hf
      refine mal4 F I g3 dX12_wonBy_34 ?_
      refine lv_goto (tgt := 39) hx hb dX12_wonBy_35 (by decide) ?_
      cases hf
      exact ret H locs _ ls I dX12_wonBy_39
  · replace hf := (if_pos c6).symm.trans hf
    refine lv_aload_n hx hb dX12_wonBy_10 rfl (lv_at hl 0 rfl) ?_
    refine mgtX12_16_0 F I dX12_wonBy_11 ?_
    refine lv_iload_n hx hb dX12_wonBy_14 rfl (lv_at hl 1 rfl) ?_
    obtain ⟨g5, hf⟩ := ri_some hf
    refine mal3 F I g5 dX12_wonBy_15 ?_
    refine lv_goto (tgt := 39) hx hb dX12_wonBy_16 (by decide) ?_
    cases hf
    exact ret H locs _ ls I dX12_wonBy_39
def M_ties_s1 (G : Nat → Nat → Int32) (x1 : Int32) (x2 : Int32) : Option ((Int32 × Int32) ⊕ (Int32)) :=
if G 4 0 ≤ x2 then
(some (.inr x1))
else
(ri 48 x2 <|
bd (if G 8 x2.toNatClampNeg = 0 then
(some (1 : Int32))
else
(some (0 : Int32))) fun x6 =>
nm (x1 + x6 : Int32) fun x7 =>
nm (x2 + (1 : Int32) : Int32) fun x8 =>
some (.inl (x7, x8)))
def M_ties (G : Nat → Nat → Int32) : Option (Int32) :=
bd (lp (fun q => M_ties_s1 G q.1 q.2) FU ((0 : Int32), (0 : Int32))) fun r3 =>
some r3
set_option maxRecDepth 100000 in
set_option maxHeartbeats 4000000 in
theorem cM_ties (G : Nat → Nat → Int32) (E : Nat → Nat → Int64) (Dd : Nat → Nat → UInt64)  (rv : Int32)  (hf : M_ties G = some rv) : sMi D (mT cI cJ cD) (mW ad cI cJ cD) l yX12_ties (ws1 yX12_ties cX12_ties 3 (some .int)) ({ frames := 0, cells := 0, slots := 0, locals := 0 }) [.ref (ad 0)] (G, E, Dd) (rv, (G, E, Dd)) := by
  unfold M_ties at hf
  refine sMi_of (by decide) (Nat.le_of_ble_eq_true rfl) ?_
  intro p e R s m args below meth c A Q ls H locs F hRf hRl I hl ret
  obtain ⟨hx, hb, hml, hown, hG⟩ := id F
  replace hl : lv_has ls 3 [(0, .ref (ad 0))] := hl
  refine lv_iconst (v := (0 : Int32)) hx hb dX12_ties_0 (by decide) ?_
  refine lv_istore_n (lv' := [(1, .int (0 : Int32)), (0, .ref (ad 0))]) hx hb dX12_ties_1 rfl hl (by decide) rfl (fun ls hl => ?_)
  refine lv_iconst (v := (0 : Int32)) hx hb dX12_ties_2 (by decide) ?_
  refine lv_istore_n (lv' := [(2, .int (0 : Int32)), (1, .int (0 : Int32)), (0, .ref (ad 0))]) hx hb dX12_ties_3 rfl hl (by decide) rfl (fun ls hl => ?_)
  obtain ⟨r3, hq1, hf⟩ := bd_some hf
  have K1 : ∀ (H : Heap) (locs : List Loc), sInv D (mT cI cJ cD) (mW ad cI cJ cD) A s H locs (G, E, Dd) → ∀ (ls : Array Slot), lv_has ls 3 [(1, .int r3)] → W p l e R s m args below meth c H locs 0 0 Q (F0 m 35 ls []) := by
    intro H locs I ls hl
    refine lv_iload_n hx hb dX12_ties_35 rfl (lv_at hl 0 rfl) ?_
    cases hf
    exact ret H locs _ ls I dX12_ties_36
  have L1 : ∀ (n : Nat) (x1 : Int32) (x2 : Int32), lp (fun q => M_ties_s1 G q.1 q.2) n (x1, x2) = some r3 → ∀ (H : Heap) (locs : List Loc), sInv D (mT cI cJ cD) (mW ad cI cJ cD) A s H locs (G, E, Dd) → ∀ (ls : Array Slot), lv_has ls 3 [(0, .ref (ad 0)), (1, .int x1), (2, .int x2)] → W p l e R s m args below meth c H locs 0 0 Q (F0 m 4 ls []) := by
    intro n
    induction n with
    | zero => intro x1 x2 hq; exact (lp_0 hq).elim
    | succ n ih1 =>
      intro x1 x2 hq H locs I ls hl
      obtain ⟨y1, hf, hK1⟩ := lp_go hq
      replace hf : M_ties_s1 G x1 x2 = some y1 := hf
      unfold M_ties_s1 at hf
      refine lv_iload_n hx hb dX12_ties_4 rfl (lv_at hl 2 rfl) ?_
      refine lv_aload_n hx hb dX12_ties_5 rfl (lv_at hl 0 rfl) ?_
      refine mgtX12_102_0 F I dX12_ties_6 ?_
      refine lv_icmp_ge (tgt := 35) hx hb dX12_ties_9 (by decide) (fun c11 => ?_) (fun c11 => ?_)
      · replace hf := (if_pos c11).symm.trans hf
        cases hf
        cases (show x1 = r3 from hK1)
        exact K1 H locs I ls (lv_sub hl [1] rfl)
      · replace hf := (if_neg c11).symm.trans hf
        refine lv_iload_n hx hb dX12_ties_12 rfl (lv_at hl 1 rfl) ?_
        refine lv_aload_n hx hb dX12_ties_13 rfl (lv_at hl 0 rfl) ?_
        refine mgtX12_22_0 F I dX12_ties_14 ?_
        refine lv_iload_n hx hb dX12_ties_17 rfl (lv_at hl 2 rfl) ?_
        obtain ⟨g4, hf⟩ := ri_some hf
        refine mal5 F I g4 dX12_ties_18 ?_
        obtain ⟨x6, hv9, hf⟩ := bd_some hf
        have J5 : ∀ (H : Heap) (locs : List Loc), sInv D (mT cI cJ cD) (mW ad cI cJ cD) A s H locs (G, E, Dd) → ∀ (ls : Array Slot), lv_has ls 3 [(0, .ref (ad 0)), (2, .int x2)] → W p l e R s m args below meth c H locs 0 0 Q (F0 m 27 ls [.int x6, .int x1]) := by
          intro H locs I ls hl
          refine lv_iadd hx hb dX12_ties_27 ?_
          refine lv_topi (fun x7 ex7 => ?_)
          replace hf := nm_some ex7 hf
          refine lv_istore_n (lv' := [(1, .int x7), (0, .ref (ad 0)), (2, .int x2)]) hx hb dX12_ties_28 rfl hl (by decide) rfl (fun ls hl => ?_)
          obtain ⟨x8, ex8⟩ : ∃ y : Int32, y = x2 + (1 : Int32) := ⟨_, rfl⟩
          replace hf := nm_some ex8 hf
          refine lv_iinc (v := x8) (lv' := [(2, .int x8), (1, .int x7), (0, .ref (ad 0))]) hx hb dX12_ties_29 hl (k := 2) rfl (by rw [ex8]; rfl) (by decide) rfl (fun ls hl => ?_)
          refine lv_goto (tgt := 4) hx hb dX12_ties_32 (by decide) ?_
          cases hf
          exact ih1 _ _ hK1 H locs I ls (lv_sub hl [2, 1, 0] rfl)
        replace hf := hv9
        refine lv_if_ne (tgt := 26) hx hb dX12_ties_19 (by decide) (fun c10 => ?_) (fun c10 => ?_)
        · replace hf := (if_neg c10).symm.trans hf
          refine lv_iconst (v := (0 : Int32)) hx hb dX12_ties_26 (by decide) ?_
          cases hf
          exact J5 H locs I ls (lv_sub hl [0, 2] rfl)
        · replace hf := (if_pos c10).symm.trans hf
          refine lv_iconst (v := (1 : Int32)) hx hb dX12_ties_22 (by decide) ?_
          refine lv_goto (tgt := 27) hx hb dX12_ties_23 (by decide) ?_
          cases hf
          exact J5 H locs I ls (lv_sub hl [0, 2] rfl)
  exact L1 FU _ _ hq1 H locs I ls (lv_sub hl [2, 1, 0] rfl)
def M_firsts_s1 (a0 : Int32) (G : Nat → Nat → Int32) (x1 : Int32) (x2 : Int32) : Option ((Int32 × Int32) ⊕ (Int32)) :=
if G 4 0 ≤ x2 then
(some (.inr x1))
else
(ri 48 x2 <|
bd (if G 8 x2.toNatClampNeg = a0 then
(some (1 : Int32))
else
(some (0 : Int32))) fun x6 =>
nm (x1 + x6 : Int32) fun x7 =>
nm (x2 + (1 : Int32) : Int32) fun x8 =>
some (.inl (x7, x8)))
def M_firsts (G : Nat → Nat → Int32) (a0 : Int32) : Option (Int32) :=
bd (lp (fun q => M_firsts_s1 a0 G q.1 q.2) FU ((0 : Int32), (0 : Int32))) fun r3 =>
some r3
set_option maxRecDepth 100000 in
set_option maxHeartbeats 4000000 in
theorem cM_firsts (G : Nat → Nat → Int32) (E : Nat → Nat → Int64) (Dd : Nat → Nat → UInt64) (a0 : Int32) (rv : Int32)  (hf : M_firsts G a0 = some rv) : sMi D (mT cI cJ cD) (mW ad cI cJ cD) l yX12_firsts (ws1 yX12_firsts cX12_firsts 4 (some .int)) ({ frames := 0, cells := 0, slots := 0, locals := 0 }) [.ref (ad 0), .int a0] (G, E, Dd) (rv, (G, E, Dd)) := by
  unfold M_firsts at hf
  refine sMi_of (by decide) (Nat.le_of_ble_eq_true rfl) ?_
  intro p e R s m args below meth c A Q ls H locs F hRf hRl I hl ret
  obtain ⟨hx, hb, hml, hown, hG⟩ := id F
  replace hl : lv_has ls 4 [(0, .ref (ad 0)), (1, .int a0)] := hl
  refine lv_iconst (v := (0 : Int32)) hx hb dX12_firsts_0 (by decide) ?_
  refine lv_istore_n (lv' := [(2, .int (0 : Int32)), (0, .ref (ad 0)), (1, .int a0)]) hx hb dX12_firsts_1 rfl hl (by decide) rfl (fun ls hl => ?_)
  refine lv_iconst (v := (0 : Int32)) hx hb dX12_firsts_2 (by decide) ?_
  refine lv_istore_n (lv' := [(3, .int (0 : Int32)), (2, .int (0 : Int32)), (0, .ref (ad 0)), (1, .int a0)]) hx hb dX12_firsts_3 rfl hl (by decide) rfl (fun ls hl => ?_)
  obtain ⟨r3, hq1, hf⟩ := bd_some hf
  have K1 : ∀ (H : Heap) (locs : List Loc), sInv D (mT cI cJ cD) (mW ad cI cJ cD) A s H locs (G, E, Dd) → ∀ (ls : Array Slot), lv_has ls 4 [(2, .int r3)] → W p l e R s m args below meth c H locs 0 0 Q (F0 m 36 ls []) := by
    intro H locs I ls hl
    refine lv_iload_n hx hb dX12_firsts_36 rfl (lv_at hl 0 rfl) ?_
    cases hf
    exact ret H locs _ ls I dX12_firsts_37
  have L1 : ∀ (n : Nat) (x1 : Int32) (x2 : Int32), lp (fun q => M_firsts_s1 a0 G q.1 q.2) n (x1, x2) = some r3 → ∀ (H : Heap) (locs : List Loc), sInv D (mT cI cJ cD) (mW ad cI cJ cD) A s H locs (G, E, Dd) → ∀ (ls : Array Slot), lv_has ls 4 [(0, .ref (ad 0)), (1, .int a0), (2, .int x1), (3, .int x2)] → W p l e R s m args below meth c H locs 0 0 Q (F0 m 4 ls []) := by
    intro n
    induction n with
    | zero => intro x1 x2 hq; exact (lp_0 hq).elim
    | succ n ih1 =>
      intro x1 x2 hq H locs I ls hl
      obtain ⟨y1, hf, hK1⟩ := lp_go hq
      replace hf : M_firsts_s1 a0 G x1 x2 = some y1 := hf
      unfold M_firsts_s1 at hf
      refine lv_iload_n hx hb dX12_firsts_4 rfl (lv_at hl 3 rfl) ?_
      refine lv_aload_n hx hb dX12_firsts_5 rfl (lv_at hl 0 rfl) ?_
      refine mgtX12_102_0 F I dX12_firsts_6 ?_
      refine lv_icmp_ge (tgt := 36) hx hb dX12_firsts_9 (by decide) (fun c11 => ?_) (fun c11 => ?_)
      · replace hf := (if_pos c11).symm.trans hf
        cases hf
        cases (show x1 = r3 from hK1)
        exact K1 H locs I ls (lv_sub hl [2] rfl)
      · replace hf := (if_neg c11).symm.trans hf
        refine lv_iload_n hx hb dX12_firsts_12 rfl (lv_at hl 2 rfl) ?_
        refine lv_aload_n hx hb dX12_firsts_13 rfl (lv_at hl 0 rfl) ?_
        refine mgtX12_22_0 F I dX12_firsts_14 ?_
        refine lv_iload_n hx hb dX12_firsts_17 rfl (lv_at hl 3 rfl) ?_
        obtain ⟨g4, hf⟩ := ri_some hf
        refine mal5 F I g4 dX12_firsts_18 ?_
        refine lv_iload_n hx hb dX12_firsts_19 rfl (lv_at hl 1 rfl) ?_
        obtain ⟨x6, hv9, hf⟩ := bd_some hf
        have J5 : ∀ (H : Heap) (locs : List Loc), sInv D (mT cI cJ cD) (mW ad cI cJ cD) A s H locs (G, E, Dd) → ∀ (ls : Array Slot), lv_has ls 4 [(0, .ref (ad 0)), (1, .int a0), (3, .int x2)] → W p l e R s m args below meth c H locs 0 0 Q (F0 m 28 ls [.int x6, .int x1]) := by
          intro H locs I ls hl
          refine lv_iadd hx hb dX12_firsts_28 ?_
          refine lv_topi (fun x7 ex7 => ?_)
          replace hf := nm_some ex7 hf
          refine lv_istore_n (lv' := [(2, .int x7), (0, .ref (ad 0)), (1, .int a0), (3, .int x2)]) hx hb dX12_firsts_29 rfl hl (by decide) rfl (fun ls hl => ?_)
          obtain ⟨x8, ex8⟩ : ∃ y : Int32, y = x2 + (1 : Int32) := ⟨_, rfl⟩
          replace hf := nm_some ex8 hf
          refine lv_iinc (v := x8) (lv' := [(3, .int x8), (2, .int x7), (0, .ref (ad 0)), (1, .int a0)]) hx hb dX12_firsts_30 hl (k := 3) rfl (by rw [ex8]; rfl) (by decide) rfl (fun ls hl => ?_)
          refine lv_goto (tgt := 4) hx hb dX12_firsts_33 (by decide) ?_
          cases hf
          exact ih1 _ _ hK1 H locs I ls (lv_sub hl [2, 3, 1, 0] rfl)
        replace hf := hv9
        refine lv_icmp_ne (tgt := 27) hx hb dX12_firsts_20 (by decide) (fun c10 => ?_) (fun c10 => ?_)
        · replace hf := (if_neg c10).symm.trans hf
          refine lv_iconst (v := (0 : Int32)) hx hb dX12_firsts_27 (by decide) ?_
          cases hf
          exact J5 H locs I ls (lv_sub hl [0, 1, 3] rfl)
        · replace hf := (if_pos c10).symm.trans hf
          refine lv_iconst (v := (1 : Int32)) hx hb dX12_firsts_23 (by decide) ?_
          refine lv_goto (tgt := 28) hx hb dX12_firsts_24 (by decide) ?_
          cases hf
          exact J5 H locs I ls (lv_sub hl [0, 1, 3] rfl)
  exact L1 FU _ _ hq1 H locs I ls (lv_sub hl [2, 3, 1, 0] rfl)
def M_counted (G : Nat → Nat → Int32) (a0 : Int32) : Option (Int32) :=
if a0 = (0 : Int32) then
(some (G 1 0))
else if a0 = (1 : Int32) then
(some (G 2 0))
else if a0 = (2 : Int32) then
(some (G 4 0))
else if a0 = (3 : Int32) then
(bd (M_ties G) fun r5 =>
some r5)
else if a0 = (4 : Int32) then
(bd (M_firsts G (1 : Int32)) fun r8 =>
some r8)
else if a0 = (5 : Int32) then
(if G 9 0 = (-1 : Int32) then
(some (0 : Int32))
else
(some ((G 10 0) - (G 11 0))))
else if a0 = (6 : Int32) then
(some (G 13 0))
else (some (G 9 0))
set_option maxRecDepth 100000 in
set_option maxHeartbeats 4000000 in
theorem cM_counted (G : Nat → Nat → Int32) (E : Nat → Nat → Int64) (Dd : Nat → Nat → UInt64) (a0 : Int32) (rv : Int32)  (hf : M_counted G a0 = some rv) : sMi D (mT cI cJ cD) (mW ad cI cJ cD) l yX12_counted (ws1 yX12_counted cX12_counted 2 (some .int)) ({ frames := 1, cells := 0, slots := 0, locals := 23 }) [.ref (ad 0), .int a0] (G, E, Dd) (rv, (G, E, Dd)) := by
  unfold M_counted at hf
  refine sMi_of (by decide) (Nat.le_of_ble_eq_true rfl) ?_
  intro p e R s m args below meth c A Q ls H locs F hRf hRl I hl ret
  obtain ⟨hx, hb, hml, hown, hG⟩ := id F
  replace hl : lv_has ls 2 [(0, .ref (ad 0)), (1, .int a0)] := hl
  refine lv_iload_n hx hb dX12_counted_0 rfl (lv_at hl 1 rfl) ?_
  by_cases c1 : a0 = (0 : Int32)
  · replace hf := (if_pos c1).symm.trans hf
    refine lv_tableIn (off := 43) (tgt := 44) hx hb dX12_counted_1 (by rw [c1]; decide) (by rw [c1]; decide) (by rw [c1]; rfl) (by decide) ?_
    refine lv_aload_n hx hb dX12_counted_44 rfl (lv_at hl 0 rfl) ?_
    refine mgtX12_92_0 F I dX12_counted_45 ?_
    cases hf
    exact ret H locs _ ls I dX12_counted_48
  replace hf := (if_neg c1).symm.trans hf
  by_cases c2 : a0 = (1 : Int32)
  · replace hf := (if_pos c2).symm.trans hf
    refine lv_tableIn (off := 48) (tgt := 49) hx hb dX12_counted_1 (by rw [c2]; decide) (by rw [c2]; decide) (by rw [c2]; rfl) (by decide) ?_
    refine lv_aload_n hx hb dX12_counted_49 rfl (lv_at hl 0 rfl) ?_
    refine mgtX12_99_0 F I dX12_counted_50 ?_
    cases hf
    exact ret H locs _ ls I dX12_counted_53
  replace hf := (if_neg c2).symm.trans hf
  by_cases c3 : a0 = (2 : Int32)
  · replace hf := (if_pos c3).symm.trans hf
    refine lv_tableIn (off := 53) (tgt := 54) hx hb dX12_counted_1 (by rw [c3]; decide) (by rw [c3]; decide) (by rw [c3]; rfl) (by decide) ?_
    refine lv_aload_n hx hb dX12_counted_54 rfl (lv_at hl 0 rfl) ?_
    refine mgtX12_102_0 F I dX12_counted_55 ?_
    cases hf
    exact ret H locs _ ls I dX12_counted_58
  replace hf := (if_neg c3).symm.trans hf
  by_cases c4 : a0 = (3 : Int32)
  · replace hf := (if_pos c4).symm.trans hf
    refine lv_tableIn (off := 58) (tgt := 59) hx hb dX12_counted_1 (by rw [c4]; decide) (by rw [c4]; decide) (by rw [c4]; rfl) (by decide) ?_
    refine lv_aload_n hx hb dX12_counted_59 rfl (lv_at hl 0 rfl) ?_
    obtain ⟨r5, h6, hf⟩ := bd_some hf
    refine s_callVi (As := []) (rest := []) F I (cM_ties G E Dd r5 h6) kX12_201 ⟨rfl, rfl⟩ ⟨Nat.le_trans (Nat.le_of_ble_eq_true rfl) hRf, Nat.le_trans (Nat.le_of_ble_eq_true rfl) hRl⟩ 0 12 rfl rfl rfl rfl rfl hl.1 (Nat.le_of_ble_eq_true rfl) ⟨Nat.zero_le _, Nat.zero_le _⟩ dX12_counted_60 ?_
    intro H locs I
    cases hf
    exact ret H locs _ ls I dX12_counted_63
  replace hf := (if_neg c4).symm.trans hf
  by_cases c7 : a0 = (4 : Int32)
  · replace hf := (if_pos c7).symm.trans hf
    refine lv_tableIn (off := 63) (tgt := 64) hx hb dX12_counted_1 (by rw [c7]; decide) (by rw [c7]; decide) (by rw [c7]; rfl) (by decide) ?_
    refine lv_aload_n hx hb dX12_counted_64 rfl (lv_at hl 0 rfl) ?_
    refine lv_iconst (v := (1 : Int32)) hx hb dX12_counted_65 (by decide) ?_
    obtain ⟨r8, h9, hf⟩ := bd_some hf
    refine s_callVi (As := [.int (1 : Int32)]) (rest := []) F I (cM_firsts G E Dd (1 : Int32) r8 h9) kX12_204 ⟨rfl, rfl⟩ ⟨Nat.le_trans (Nat.le_of_ble_eq_true rfl) hRf, Nat.le_trans (Nat.le_of_ble_eq_true rfl) hRl⟩ 0 12 rfl rfl rfl rfl rfl hl.1 (Nat.le_of_ble_eq_true rfl) ⟨Nat.zero_le _, Nat.zero_le _⟩ dX12_counted_66 ?_
    intro H locs I
    cases hf
    exact ret H locs _ ls I dX12_counted_69
  replace hf := (if_neg c7).symm.trans hf
  by_cases c10 : a0 = (5 : Int32)
  · replace hf := (if_pos c10).symm.trans hf
    refine lv_tableIn (off := 69) (tgt := 70) hx hb dX12_counted_1 (by rw [c10]; decide) (by rw [c10]; decide) (by rw [c10]; rfl) (by decide) ?_
    refine lv_aload_n hx hb dX12_counted_70 rfl (lv_at hl 0 rfl) ?_
    refine mgtX12_25_0 F I dX12_counted_71 ?_
    refine lv_iconst (v := (-1 : Int32)) hx hb dX12_counted_74 (by decide) ?_
    refine lv_icmp_ne (tgt := 82) hx hb dX12_counted_75 (by decide) (fun c11 => ?_) (fun c11 => ?_)
    · replace hf := (if_neg c11).symm.trans hf
      refine lv_aload_n hx hb dX12_counted_82 rfl (lv_at hl 0 rfl) ?_
      refine mgtX12_105_0 F I dX12_counted_83 ?_
      refine lv_aload_n hx hb dX12_counted_86 rfl (lv_at hl 0 rfl) ?_
      refine mgtX12_108_0 F I dX12_counted_87 ?_
      refine lv_isub hx hb dX12_counted_90 ?_
      cases hf
      exact ret H locs _ ls I dX12_counted_91
    · replace hf := (if_pos c11).symm.trans hf
      refine lv_iconst (v := (0 : Int32)) hx hb dX12_counted_78 (by decide) ?_
      refine lv_goto (tgt := 91) hx hb dX12_counted_79 (by decide) ?_
      cases hf
      exact ret H locs _ ls I dX12_counted_91
  replace hf := (if_neg c10).symm.trans hf
  by_cases c12 : a0 = (6 : Int32)
  · replace hf := (if_pos c12).symm.trans hf
    refine lv_tableIn (off := 91) (tgt := 92) hx hb dX12_counted_1 (by rw [c12]; decide) (by rw [c12]; decide) (by rw [c12]; rfl) (by decide) ?_
    refine lv_aload_n hx hb dX12_counted_92 rfl (lv_at hl 0 rfl) ?_
    refine mgtX12_111_0 F I dX12_counted_93 ?_
    cases hf
    exact ret H locs _ ls I dX12_counted_96
  replace hf := (if_neg c12).symm.trans hf
  refine lv_tableOut (tgt := 97) hx hb dX12_counted_1 (tsw6 c1 c2 c3 c4 c7 c10 c12) (by decide) ?_
  refine lv_aload_n hx hb dX12_counted_97 rfl (lv_at hl 0 rfl) ?_
  refine mgtX12_25_0 F I dX12_counted_98 ?_
  cases hf
  exact ret H locs _ ls I dX12_counted_101
def M_count (G : Nat → Nat → Int32) (a0 : Int32) : Option (Int32 × (Nat → Nat → Int32)) :=
bd (M_within a0 (0 : Int32) (7 : Int32)) fun r1 =>
bd (if r1 = 0 then
(some (1 : Int32))
else
(some (0 : Int32))) fun x4 =>
nm (wf G 0 x4) fun G5 =>
if G5 0 0 ≤ 0 then
(bd (M_counted G5 a0) fun r6 =>
some (r6, G5))
else
(some ((0 : Int32), G5))
set_option maxRecDepth 100000 in
set_option maxHeartbeats 4000000 in
theorem cM_count (G : Nat → Nat → Int32) (E : Nat → Nat → Int64) (Dd : Nat → Nat → UInt64) (a0 : Int32) (rv : Int32) (newG : Nat → Nat → Int32) (hf : M_count G a0 = some (rv, newG)) : sMi D (mT cI cJ cD) (mW ad cI cJ cD) l yX12_count (ws1 yX12_count cX12_count 2 (some .int)) ({ frames := 2, cells := 0, slots := 0, locals := 44 }) [.ref (ad 0), .int a0] (G, E, Dd) (rv, (newG, E, Dd)) := by
  unfold M_count at hf
  refine sMi_of (by decide) (Nat.le_of_ble_eq_true rfl) ?_
  intro p e R s m args below meth c A Q ls H locs F hRf hRl I hl ret
  obtain ⟨hx, hb, hml, hown, hG⟩ := id F
  replace hl : lv_has ls 2 [(0, .ref (ad 0)), (1, .int a0)] := hl
  refine lv_aload_n hx hb dX12_count_0 rfl (lv_at hl 0 rfl) ?_
  refine lv_iload_n hx hb dX12_count_1 rfl (lv_at hl 1 rfl) ?_
  refine lv_iconst (v := (0 : Int32)) hx hb dX12_count_2 (by decide) ?_
  refine lv_bipush (v := (7 : Int32)) hx hb dX12_count_3 (by decide) ?_
  obtain ⟨r1, h2, hf⟩ := bd_some hf
  refine s_callSi (As := [.int a0, .int (0 : Int32), .int (7 : Int32)]) (rest := [.ref (ad 0)]) F I (cM_within G E Dd a0 (0 : Int32) (7 : Int32) r1 h2) kX12_95 ⟨rfl, rfl⟩ ⟨Nat.le_trans (Nat.le_of_ble_eq_true rfl) hRf, Nat.le_trans (Nat.le_of_ble_eq_true rfl) hRl⟩ rfl rfl hl.1 (Nat.le_of_ble_eq_true rfl) ⟨Nat.zero_le _, Nat.zero_le _⟩ dX12_count_5 ?_
  intro H locs I
  obtain ⟨x4, hv9, hf⟩ := bd_some hf
  have J3 : ∀ (H : Heap) (locs : List Loc), sInv D (mT cI cJ cD) (mW ad cI cJ cD) A s H locs (G, E, Dd) → ∀ (ls : Array Slot), lv_has ls 2 [(0, .ref (ad 0)), (1, .int a0)] → W p l e R s m args below meth c H locs 0 0 Q (F0 m 16 ls [.int x4, .ref (ad 0)]) := by
    intro H locs I ls hl
    refine mptX12_89_0 F I dX12_count_16 ?_
    intro H locs G5 eG5 I
    replace hf := nm_some eG5 hf
    refine lv_aload_n hx hb dX12_count_19 rfl (lv_at hl 0 rfl) ?_
    refine mgtX12_89_0 F I dX12_count_20 ?_
    refine lv_if_le (tgt := 30) hx hb dX12_count_23 (by decide) (fun c8 => ?_) (fun c8 => ?_)
    · replace hf := (if_pos c8).symm.trans hf
      refine lv_aload_n hx hb dX12_count_30 rfl (lv_at hl 0 rfl) ?_
      refine lv_iload_n hx hb dX12_count_31 rfl (lv_at hl 1 rfl) ?_
      obtain ⟨r6, h7, hf⟩ := bd_some hf
      refine s_callVi (As := [.int a0]) (rest := []) F I (cM_counted G5 E Dd a0 r6 h7) kX12_207 ⟨rfl, rfl⟩ ⟨Nat.le_trans (Nat.le_of_ble_eq_true rfl) hRf, Nat.le_trans (Nat.le_of_ble_eq_true rfl) hRl⟩ 0 12 rfl rfl rfl rfl rfl hl.1 (Nat.le_of_ble_eq_true rfl) ⟨Nat.zero_le _, Nat.zero_le _⟩ dX12_count_32 ?_
      intro H locs I
      cases hf
      exact ret H locs _ ls I dX12_count_35
    · replace hf := (if_neg c8).symm.trans hf
      refine lv_iconst (v := (0 : Int32)) hx hb dX12_count_26 (by decide) ?_
      refine lv_goto (tgt := 35) hx hb dX12_count_27 (by decide) ?_
      cases hf
      exact ret H locs _ ls I dX12_count_35
  replace hf := hv9
  refine lv_if_eq (tgt := 15) hx hb dX12_count_8 (by decide) (fun c10 => ?_) (fun c10 => ?_)
  · replace hf := (if_pos c10).symm.trans hf
    refine lv_iconst (v := (1 : Int32)) hx hb dX12_count_15 (by decide) ?_
    cases hf
    exact J3 H locs I ls (lv_sub hl [0, 1] rfl)
  · replace hf := (if_neg c10).symm.trans hf
    refine lv_iconst (v := (0 : Int32)) hx hb dX12_count_11 (by decide) ?_
    refine lv_goto (tgt := 16) hx hb dX12_count_12 (by decide) ?_
    cases hf
    exact J3 H locs I ls (lv_sub hl [0, 1] rfl)
def M_property (G : Nat → Nat → Int32) (a0 : Int32) (a1 : Int32) : Option (Int32) :=
if a1 = 0 then
(ri 48 a0 <|
some (G 5 a0.toNatClampNeg))
else
(if a1 = (1 : Int32) then
(ri 48 a0 <|
some (G 6 a0.toNatClampNeg))
else
(if a1 = (2 : Int32) then
(ri 48 a0 <|
some (G 7 a0.toNatClampNeg))
else
(ri 48 a0 <|
some (G 8 a0.toNatClampNeg))))
set_option maxRecDepth 100000 in
set_option maxHeartbeats 4000000 in
theorem cM_property (G : Nat → Nat → Int32) (E : Nat → Nat → Int64) (Dd : Nat → Nat → UInt64) (a0 : Int32) (a1 : Int32) (rv : Int32)  (hf : M_property G a0 a1 = some rv) : sMi D (mT cI cJ cD) (mW ad cI cJ cD) l yX12_property (ws1 yX12_property cX12_property 3 (some .int)) ({ frames := 0, cells := 0, slots := 0, locals := 0 }) [.ref (ad 0), .int a0, .int a1] (G, E, Dd) (rv, (G, E, Dd)) := by
  unfold M_property at hf
  refine sMi_of (by decide) (Nat.le_of_ble_eq_true rfl) ?_
  intro p e R s m args below meth c A Q ls H locs F hRf hRl I hl ret
  obtain ⟨hx, hb, hml, hown, hG⟩ := id F
  replace hl : lv_has ls 3 [(0, .ref (ad 0)), (1, .int a0), (2, .int a1)] := hl
  refine lv_iload_n hx hb dX12_property_0 rfl (lv_at hl 2 rfl) ?_
  refine lv_if_ne (tgt := 13) hx hb dX12_property_1 (by decide) (fun c7 => ?_) (fun c7 => ?_)
  · replace hf := (if_neg c7).symm.trans hf
    refine lv_iload_n hx hb dX12_property_13 rfl (lv_at hl 2 rfl) ?_
    refine lv_iconst (v := (1 : Int32)) hx hb dX12_property_14 (by decide) ?_
    refine lv_icmp_ne (tgt := 27) hx hb dX12_property_15 (by decide) (fun c5 => ?_) (fun c5 => ?_)
    · replace hf := (if_neg c5).symm.trans hf
      refine lv_iload_n hx hb dX12_property_27 rfl (lv_at hl 2 rfl) ?_
      refine lv_iconst (v := (2 : Int32)) hx hb dX12_property_28 (by decide) ?_
      refine lv_icmp_ne (tgt := 41) hx hb dX12_property_29 (by decide) (fun c3 => ?_) (fun c3 => ?_)
      · replace hf := (if_neg c3).symm.trans hf
        refine lv_aload_n hx hb dX12_property_41 rfl (lv_at hl 0 rfl) ?_
        refine mgtX12_22_0 F I dX12_property_42 ?_
        refine lv_iload_n hx hb dX12_property_45 rfl (lv_at hl 1 rfl) ?_
        obtain ⟨g1, hf⟩ := ri_some hf
        refine mal5 F I g1 dX12_property_46 ?_
        cases hf
        exact ret H locs _ ls I dX12_property_47
      · replace hf := (if_pos c3).symm.trans hf
        refine lv_aload_n hx hb dX12_property_32 rfl (lv_at hl 0 rfl) ?_
        refine mgtX12_19_0 F I dX12_property_33 ?_
        refine lv_iload_n hx hb dX12_property_36 rfl (lv_at hl 1 rfl) ?_
        obtain ⟨g2, hf⟩ := ri_some hf
        refine mal4 F I g2 dX12_property_37 ?_
        refine lv_goto (tgt := 47) hx hb dX12_property_38 (by decide) ?_
        cases hf
        exact ret H locs _ ls I dX12_property_47
    · replace hf := (if_pos c5).symm.trans hf
      refine lv_aload_n hx hb dX12_property_18 rfl (lv_at hl 0 rfl) ?_
      refine mgtX12_16_0 F I dX12_property_19 ?_
      refine lv_iload_n hx hb dX12_property_22 rfl (lv_at hl 1 rfl) ?_
      obtain ⟨g4, hf⟩ := ri_some hf
      refine mal3 F I g4 dX12_property_23 ?_
      refine lv_goto (tgt := 47) hx hb dX12_property_24 (by decide) ?_
      cases hf
      exact ret H locs _ ls I dX12_property_47
  · replace hf := (if_pos c7).symm.trans hf
    refine lv_aload_n hx hb dX12_property_4 rfl (lv_at hl 0 rfl) ?_
    refine mgtX12_13_0 F I dX12_property_5 ?_
    refine lv_iload_n hx hb dX12_property_8 rfl (lv_at hl 1 rfl) ?_
    obtain ⟨g6, hf⟩ := ri_some hf
    refine mal2 F I g6 dX12_property_9 ?_
    refine lv_goto (tgt := 47) hx hb dX12_property_10 (by decide) ?_
    cases hf
    exact ret H locs _ ls I dX12_property_47
def M_comparison (G : Nat → Nat → Int32) (a0 : Int32) (a1 : Int32) : Option (Int32 × (Nat → Nat → Int32)) :=
bd (M_isComparison G a0) fun r1 =>
bd (if r1 = 0 then
(some (1 : Int32))
else
(bd (M_within a1 (0 : Int32) (3 : Int32)) fun r10 =>
if r10 = 0 then
(some (2 : Int32))
else
(some (0 : Int32)))) fun x4 =>
nm (wf G 0 x4) fun G5 =>
if G5 0 0 ≤ 0 then
(bd (M_property G5 a0 a1) fun r6 =>
some (r6, G5))
else
(some ((0 : Int32), G5))
set_option maxRecDepth 100000 in
set_option maxHeartbeats 4000000 in
theorem cM_comparison (G : Nat → Nat → Int32) (E : Nat → Nat → Int64) (Dd : Nat → Nat → UInt64) (a0 : Int32) (a1 : Int32) (rv : Int32) (newG : Nat → Nat → Int32) (hf : M_comparison G a0 a1 = some (rv, newG)) : sMi D (mT cI cJ cD) (mW ad cI cJ cD) l yX12_comparison (ws1 yX12_comparison cX12_comparison 3 (some .int)) ({ frames := 2, cells := 0, slots := 0, locals := 43 }) [.ref (ad 0), .int a0, .int a1] (G, E, Dd) (rv, (newG, E, Dd)) := by
  unfold M_comparison at hf
  refine sMi_of (by decide) (Nat.le_of_ble_eq_true rfl) ?_
  intro p e R s m args below meth c A Q ls H locs F hRf hRl I hl ret
  obtain ⟨hx, hb, hml, hown, hG⟩ := id F
  replace hl : lv_has ls 3 [(0, .ref (ad 0)), (1, .int a0), (2, .int a1)] := hl
  refine lv_aload_n hx hb dX12_comparison_0 rfl (lv_at hl 0 rfl) ?_
  refine lv_aload_n hx hb dX12_comparison_1 rfl (lv_at hl 0 rfl) ?_
  refine lv_iload_n hx hb dX12_comparison_2 rfl (lv_at hl 1 rfl) ?_
  obtain ⟨r1, h2, hf⟩ := bd_some hf
  refine s_callVi (As := [.int a0]) (rest := [.ref (ad 0)]) F I (cM_isComparison G E Dd a0 r1 h2) kX12_154 ⟨rfl, rfl⟩ ⟨Nat.le_trans (Nat.le_of_ble_eq_true rfl) hRf, Nat.le_trans (Nat.le_of_ble_eq_true rfl) hRl⟩ 0 12 rfl rfl rfl rfl rfl hl.1 (Nat.le_of_ble_eq_true rfl) ⟨Nat.zero_le _, Nat.zero_le _⟩ dX12_comparison_3 ?_
  intro H locs I
  obtain ⟨x4, hv9, hf⟩ := bd_some hf
  have J3 : ∀ (H : Heap) (locs : List Loc), sInv D (mT cI cJ cD) (mW ad cI cJ cD) A s H locs (G, E, Dd) → ∀ (ls : Array Slot), lv_has ls 3 [(0, .ref (ad 0)), (1, .int a0), (2, .int a1)] → W p l e R s m args below meth c H locs 0 0 Q (F0 m 27 ls [.int x4, .ref (ad 0)]) := by
    intro H locs I ls hl
    refine mptX12_89_0 F I dX12_comparison_27 ?_
    intro H locs G5 eG5 I
    replace hf := nm_some eG5 hf
    refine lv_aload_n hx hb dX12_comparison_30 rfl (lv_at hl 0 rfl) ?_
    refine mgtX12_89_0 F I dX12_comparison_31 ?_
    refine lv_if_le (tgt := 41) hx hb dX12_comparison_34 (by decide) (fun c8 => ?_) (fun c8 => ?_)
    · replace hf := (if_pos c8).symm.trans hf
      refine lv_aload_n hx hb dX12_comparison_41 rfl (lv_at hl 0 rfl) ?_
      refine lv_iload_n hx hb dX12_comparison_42 rfl (lv_at hl 1 rfl) ?_
      refine lv_iload_n hx hb dX12_comparison_43 rfl (lv_at hl 2 rfl) ?_
      obtain ⟨r6, h7, hf⟩ := bd_some hf
      refine s_callVi (As := [.int a0, .int a1]) (rest := []) F I (cM_property G5 E Dd a0 a1 r6 h7) kX12_210 ⟨rfl, rfl⟩ ⟨Nat.le_trans (Nat.le_of_ble_eq_true rfl) hRf, Nat.le_trans (Nat.le_of_ble_eq_true rfl) hRl⟩ 0 12 rfl rfl rfl rfl rfl hl.1 (Nat.le_of_ble_eq_true rfl) ⟨Nat.zero_le _, Nat.zero_le _⟩ dX12_comparison_44 ?_
      intro H locs I
      cases hf
      exact ret H locs _ ls I dX12_comparison_47
    · replace hf := (if_neg c8).symm.trans hf
      refine lv_iconst (v := (0 : Int32)) hx hb dX12_comparison_37 (by decide) ?_
      refine lv_goto (tgt := 47) hx hb dX12_comparison_38 (by decide) ?_
      cases hf
      exact ret H locs _ ls I dX12_comparison_47
  replace hf := hv9
  refine lv_if_ne (tgt := 13) hx hb dX12_comparison_6 (by decide) (fun c13 => ?_) (fun c13 => ?_)
  · replace hf := (if_neg c13).symm.trans hf
    refine lv_iload_n hx hb dX12_comparison_13 rfl (lv_at hl 2 rfl) ?_
    refine lv_iconst (v := (0 : Int32)) hx hb dX12_comparison_14 (by decide) ?_
    refine lv_iconst (v := (3 : Int32)) hx hb dX12_comparison_15 (by decide) ?_
    obtain ⟨r10, h11, hf⟩ := bd_some hf
    refine s_callSi (As := [.int a1, .int (0 : Int32), .int (3 : Int32)]) (rest := [.ref (ad 0)]) F I (cM_within G E Dd a1 (0 : Int32) (3 : Int32) r10 h11) kX12_95 ⟨rfl, rfl⟩ ⟨Nat.le_trans (Nat.le_of_ble_eq_true rfl) hRf, Nat.le_trans (Nat.le_of_ble_eq_true rfl) hRl⟩ rfl rfl hl.1 (Nat.le_of_ble_eq_true rfl) ⟨Nat.zero_le _, Nat.zero_le _⟩ dX12_comparison_16 ?_
    intro H locs I
    refine lv_if_eq (tgt := 26) hx hb dX12_comparison_19 (by decide) (fun c12 => ?_) (fun c12 => ?_)
    · replace hf := (if_pos c12).symm.trans hf
      refine lv_iconst (v := (2 : Int32)) hx hb dX12_comparison_26 (by decide) ?_
      cases hf
      exact J3 H locs I ls (lv_sub hl [0, 1, 2] rfl)
    · replace hf := (if_neg c12).symm.trans hf
      refine lv_iconst (v := (0 : Int32)) hx hb dX12_comparison_22 (by decide) ?_
      refine lv_goto (tgt := 27) hx hb dX12_comparison_23 (by decide) ?_
      cases hf
      exact J3 H locs I ls (lv_sub hl [0, 1, 2] rfl)
  · replace hf := (if_pos c13).symm.trans hf
    refine lv_iconst (v := (1 : Int32)) hx hb dX12_comparison_9 (by decide) ?_
    refine lv_goto (tgt := 27) hx hb dX12_comparison_10 (by decide) ?_
    cases hf
    exact J3 H locs I ls (lv_sub hl [0, 1, 2] rfl)
def M_isOf (G : Nat → Nat → Int32) (a0 : Int32) (a1 : Int32) (a2 : Int32) : Option (Int32) :=
ri 48 a0 <|
if G 6 a0.toNatClampNeg = a1 then
(ri 48 a0 <|
if G 7 a0.toNatClampNeg = a2 then
(some (1 : Int32))
else
(ri 48 a0 <|
if G 6 a0.toNatClampNeg = a2 then
(ri 48 a0 <|
if G 7 a0.toNatClampNeg = a1 then
(some (1 : Int32))
else
(some (0 : Int32)))
else
(some (0 : Int32))))
else
(ri 48 a0 <|
if G 6 a0.toNatClampNeg = a2 then
(ri 48 a0 <|
if G 7 a0.toNatClampNeg = a1 then
(some (1 : Int32))
else
(some (0 : Int32)))
else
(some (0 : Int32)))
set_option maxRecDepth 100000 in
set_option maxHeartbeats 4000000 in
theorem cM_isOf (G : Nat → Nat → Int32) (E : Nat → Nat → Int64) (Dd : Nat → Nat → UInt64) (a0 : Int32) (a1 : Int32) (a2 : Int32) (rv : Int32)  (hf : M_isOf G a0 a1 a2 = some rv) : sMi D (mT cI cJ cD) (mW ad cI cJ cD) l yX12_isOf (ws1 yX12_isOf cX12_isOf 4 (some .boolean)) ({ frames := 0, cells := 0, slots := 0, locals := 0 }) [.ref (ad 0), .int a0, .int a1, .int a2] (G, E, Dd) (rv, (G, E, Dd)) := by
  unfold M_isOf at hf
  refine sMz_of (by decide) (Nat.le_of_ble_eq_true rfl) ?_
  intro p e R s m args below meth c A Q ls H locs F hRf hRl I hl ret
  obtain ⟨hx, hb, hml, hown, hG⟩ := id F
  replace hl : lv_has ls 4 [(0, .ref (ad 0)), (1, .int a0), (2, .int a1), (3, .int a2)] := hl
  refine lv_aload_n hx hb dX12_isOf_0 rfl (lv_at hl 0 rfl) ?_
  refine mgtX12_16_0 F I dX12_isOf_1 ?_
  refine lv_iload_n hx hb dX12_isOf_4 rfl (lv_at hl 1 rfl) ?_
  obtain ⟨g1, hf⟩ := ri_some hf
  refine mal3 F I g1 dX12_isOf_5 ?_
  refine lv_iload_n hx hb dX12_isOf_6 rfl (lv_at hl 2 rfl) ?_
  refine lv_icmp_ne (tgt := 20) hx hb dX12_isOf_7 (by decide) (fun c12 => ?_) (fun c12 => ?_)
  · replace hf := (if_neg c12).symm.trans hf
    refine lv_aload_n hx hb dX12_isOf_20 rfl (lv_at hl 0 rfl) ?_
    refine mgtX12_16_0 F I dX12_isOf_21 ?_
    refine lv_iload_n hx hb dX12_isOf_24 rfl (lv_at hl 1 rfl) ?_
    obtain ⟨g2, hf⟩ := ri_some hf
    refine mal3 F I g2 dX12_isOf_25 ?_
    refine lv_iload_n hx hb dX12_isOf_26 rfl (lv_at hl 3 rfl) ?_
    refine lv_icmp_ne (tgt := 44) hx hb dX12_isOf_27 (by decide) (fun c5 => ?_) (fun c5 => ?_)
    · replace hf := (if_neg c5).symm.trans hf
      refine lv_iconst (v := (0 : Int32)) hx hb dX12_isOf_44 (by decide) ?_
      cases hf
      exact ret H locs _ ls I (Or.inl rfl) dX12_isOf_45
    · replace hf := (if_pos c5).symm.trans hf
      refine lv_aload_n hx hb dX12_isOf_30 rfl (lv_at hl 0 rfl) ?_
      refine mgtX12_19_0 F I dX12_isOf_31 ?_
      refine lv_iload_n hx hb dX12_isOf_34 rfl (lv_at hl 1 rfl) ?_
      obtain ⟨g3, hf⟩ := ri_some hf
      refine mal4 F I g3 dX12_isOf_35 ?_
      refine lv_iload_n hx hb dX12_isOf_36 rfl (lv_at hl 2 rfl) ?_
      refine lv_icmp_ne (tgt := 44) hx hb dX12_isOf_37 (by decide) (fun c4 => ?_) (fun c4 => ?_)
      · replace hf := (if_neg c4).symm.trans hf
        refine lv_iconst (v := (0 : Int32)) hx hb dX12_isOf_44 (by decide) ?_
        cases hf
        exact ret H locs _ ls I (Or.inl rfl) dX12_isOf_45
      · replace hf := (if_pos c4).symm.trans hf
        refine lv_iconst (v := (1 : Int32)) hx hb dX12_isOf_40 (by decide) ?_
        refine lv_goto (tgt := 45) hx hb dX12_isOf_41 (by decide) ?_
        cases hf
        exact ret H locs _ ls I (Or.inr rfl) dX12_isOf_45
  · replace hf := (if_pos c12).symm.trans hf
    refine lv_aload_n hx hb dX12_isOf_10 rfl (lv_at hl 0 rfl) ?_
    refine mgtX12_19_0 F I dX12_isOf_11 ?_
    refine lv_iload_n hx hb dX12_isOf_14 rfl (lv_at hl 1 rfl) ?_
    obtain ⟨g6, hf⟩ := ri_some hf
    refine mal4 F I g6 dX12_isOf_15 ?_
    refine lv_iload_n hx hb dX12_isOf_16 rfl (lv_at hl 3 rfl) ?_
    refine lv_icmp_eq (tgt := 40) hx hb dX12_isOf_17 (by decide) (fun c11 => ?_) (fun c11 => ?_)
    · replace hf := (if_pos c11).symm.trans hf
      refine lv_iconst (v := (1 : Int32)) hx hb dX12_isOf_40 (by decide) ?_
      refine lv_goto (tgt := 45) hx hb dX12_isOf_41 (by decide) ?_
      cases hf
      exact ret H locs _ ls I (Or.inr rfl) dX12_isOf_45
    · replace hf := (if_neg c11).symm.trans hf
      refine lv_aload_n hx hb dX12_isOf_20 rfl (lv_at hl 0 rfl) ?_
      refine mgtX12_16_0 F I dX12_isOf_21 ?_
      refine lv_iload_n hx hb dX12_isOf_24 rfl (lv_at hl 1 rfl) ?_
      obtain ⟨g7, hf⟩ := ri_some hf
      refine mal3 F I g7 dX12_isOf_25 ?_
      refine lv_iload_n hx hb dX12_isOf_26 rfl (lv_at hl 3 rfl) ?_
      refine lv_icmp_ne (tgt := 44) hx hb dX12_isOf_27 (by decide) (fun c10 => ?_) (fun c10 => ?_)
      · replace hf := (if_neg c10).symm.trans hf
        refine lv_iconst (v := (0 : Int32)) hx hb dX12_isOf_44 (by decide) ?_
        cases hf
        exact ret H locs _ ls I (Or.inl rfl) dX12_isOf_45
      · replace hf := (if_pos c10).symm.trans hf
        refine lv_aload_n hx hb dX12_isOf_30 rfl (lv_at hl 0 rfl) ?_
        refine mgtX12_19_0 F I dX12_isOf_31 ?_
        refine lv_iload_n hx hb dX12_isOf_34 rfl (lv_at hl 1 rfl) ?_
        obtain ⟨g8, hf⟩ := ri_some hf
        refine mal4 F I g8 dX12_isOf_35 ?_
        refine lv_iload_n hx hb dX12_isOf_36 rfl (lv_at hl 2 rfl) ?_
        refine lv_icmp_ne (tgt := 44) hx hb dX12_isOf_37 (by decide) (fun c9 => ?_) (fun c9 => ?_)
        · replace hf := (if_neg c9).symm.trans hf
          refine lv_iconst (v := (0 : Int32)) hx hb dX12_isOf_44 (by decide) ?_
          cases hf
          exact ret H locs _ ls I (Or.inl rfl) dX12_isOf_45
        · replace hf := (if_pos c9).symm.trans hf
          refine lv_iconst (v := (1 : Int32)) hx hb dX12_isOf_40 (by decide) ?_
          refine lv_goto (tgt := 45) hx hb dX12_isOf_41 (by decide) ?_
          cases hf
          exact ret H locs _ ls I (Or.inr rfl) dX12_isOf_45
def M_winsBy_s1 (a0 : Int32) (a1 : Int32) (a2 : Int32) (a3 : Int32) (G : Nat → Nat → Int32) (x1 : Int32) (x2 : Int32) : Option ((Int32 × Int32) ⊕ (Int32)) :=
if G 4 0 ≤ x2 then
(some (.inr x1))
else
(bd (M_isOf G x2 a1 a2) fun r4 =>
bd (if r4 = 0 then
(some (0 : Int32))
else
(bd (M_wonBy G x2) fun r18 =>
if r18 = a1 then
(if a0 = (-1 : Int32) then
(some (1 : Int32))
else
(ri 48 x2 <|
if G 5 x2.toNatClampNeg = a0 then
(some (1 : Int32))
else
(some (0 : Int32))))
else
(some (0 : Int32)))) fun x7 =>
bd (if x7 = 0 then
(some (0 : Int32))
else
(if a3 = 0 then
(some (1 : Int32))
else
(ri 48 x2 <|
ri 8 (G 5 x2.toNatClampNeg) <|
some (G 3 (G 5 x2.toNatClampNeg).toNatClampNeg)))) fun x9 =>
nm (x1 + x9 : Int32) fun x10 =>
nm (x2 + (1 : Int32) : Int32) fun x11 =>
some (.inl (x10, x11)))
def M_winsBy (G : Nat → Nat → Int32) (a0 : Int32) (a1 : Int32) (a2 : Int32) (a3 : Int32) : Option (Int32) :=
bd (lp (fun q => M_winsBy_s1 a0 a1 a2 a3 G q.1 q.2) FU ((0 : Int32), (0 : Int32))) fun r3 =>
some r3
set_option maxRecDepth 100000 in
set_option maxHeartbeats 4000000 in
theorem cM_winsBy (G : Nat → Nat → Int32) (E : Nat → Nat → Int64) (Dd : Nat → Nat → UInt64) (a0 : Int32) (a1 : Int32) (a2 : Int32) (a3 : Int32) (rv : Int32)  (hf : M_winsBy G a0 a1 a2 a3 = some rv) : sMi D (mT cI cJ cD) (mW ad cI cJ cD) l yX12_winsBy (ws1 yX12_winsBy cX12_winsBy 8 (some .int)) ({ frames := 1, cells := 0, slots := 0, locals := 23 }) [.ref (ad 0), .int a0, .int a1, .int a2, .int a3] (G, E, Dd) (rv, (G, E, Dd)) := by
  unfold M_winsBy at hf
  refine sMi_of (by decide) (Nat.le_of_ble_eq_true rfl) ?_
  intro p e R s m args below meth c A Q ls H locs F hRf hRl I hl ret
  obtain ⟨hx, hb, hml, hown, hG⟩ := id F
  replace hl : lv_has ls 8 [(0, .ref (ad 0)), (1, .int a0), (2, .int a1), (3, .int a2), (4, .int a3)] := hl
  refine lv_iconst (v := (0 : Int32)) hx hb dX12_winsBy_0 (by decide) ?_
  refine lv_istore (lv' := [(5, .int (0 : Int32)), (0, .ref (ad 0)), (1, .int a0), (2, .int a1), (3, .int a2), (4, .int a3)]) hx hb dX12_winsBy_1 hl (by decide) rfl (fun ls hl => ?_)
  refine lv_iconst (v := (0 : Int32)) hx hb dX12_winsBy_3 (by decide) ?_
  refine lv_istore (lv' := [(6, .int (0 : Int32)), (5, .int (0 : Int32)), (0, .ref (ad 0)), (1, .int a0), (2, .int a1), (3, .int a2), (4, .int a3)]) hx hb dX12_winsBy_4 hl (by decide) rfl (fun ls hl => ?_)
  obtain ⟨r3, hq1, hf⟩ := bd_some hf
  have K1 : ∀ (H : Heap) (locs : List Loc), sInv D (mT cI cJ cD) (mW ad cI cJ cD) A s H locs (G, E, Dd) → ∀ (ls : Array Slot), lv_has ls 8 [(5, .int r3)] → W p l e R s m args below meth c H locs 0 0 Q (F0 m 100 ls []) := by
    intro H locs I ls hl
    refine lv_iload hx hb dX12_winsBy_100 (lv_at hl 0 rfl) ?_
    cases hf
    exact ret H locs _ ls I dX12_winsBy_102
  have L1 : ∀ (n : Nat) (x1 : Int32) (x2 : Int32), lp (fun q => M_winsBy_s1 a0 a1 a2 a3 G q.1 q.2) n (x1, x2) = some r3 → ∀ (H : Heap) (locs : List Loc), sInv D (mT cI cJ cD) (mW ad cI cJ cD) A s H locs (G, E, Dd) → ∀ (ls : Array Slot), lv_has ls 8 [(0, .ref (ad 0)), (1, .int a0), (2, .int a1), (3, .int a2), (4, .int a3), (5, .int x1), (6, .int x2)] → W p l e R s m args below meth c H locs 0 0 Q (F0 m 6 ls []) := by
    intro n
    induction n with
    | zero => intro x1 x2 hq; exact (lp_0 hq).elim
    | succ n ih1 =>
      intro x1 x2 hq H locs I ls hl
      obtain ⟨y1, hf, hK1⟩ := lp_go hq
      replace hf : M_winsBy_s1 a0 a1 a2 a3 G x1 x2 = some y1 := hf
      unfold M_winsBy_s1 at hf
      refine lv_iload hx hb dX12_winsBy_6 (lv_at hl 6 rfl) ?_
      refine lv_aload_n hx hb dX12_winsBy_8 rfl (lv_at hl 0 rfl) ?_
      refine mgtX12_102_0 F I dX12_winsBy_9 ?_
      refine lv_icmp_ge (tgt := 100) hx hb dX12_winsBy_12 (by decide) (fun c25 => ?_) (fun c25 => ?_)
      · replace hf := (if_pos c25).symm.trans hf
        cases hf
        cases (show x1 = r3 from hK1)
        exact K1 H locs I ls (lv_sub hl [5] rfl)
      · replace hf := (if_neg c25).symm.trans hf
        refine lv_aload_n hx hb dX12_winsBy_15 rfl (lv_at hl 0 rfl) ?_
        refine lv_iload hx hb dX12_winsBy_16 (lv_at hl 6 rfl) ?_
        refine lv_iload_n hx hb dX12_winsBy_18 rfl (lv_at hl 2 rfl) ?_
        refine lv_iload_n hx hb dX12_winsBy_19 rfl (lv_at hl 3 rfl) ?_
        obtain ⟨r4, h5, hf⟩ := bd_some hf
        refine s_callVi (As := [.int x2, .int a1, .int a2]) (rest := []) F I (cM_isOf G E Dd x2 a1 a2 r4 h5) kX12_214 ⟨rfl, rfl⟩ ⟨Nat.le_trans (Nat.le_of_ble_eq_true rfl) hRf, Nat.le_trans (Nat.le_of_ble_eq_true rfl) hRl⟩ 0 12 rfl rfl rfl rfl rfl hl.1 (Nat.le_of_ble_eq_true rfl) ⟨Nat.zero_le _, Nat.zero_le _⟩ dX12_winsBy_20 ?_
        intro H locs I
        obtain ⟨x7, hv17, hf⟩ := bd_some hf
        have J6 : ∀ (H : Heap) (locs : List Loc), sInv D (mT cI cJ cD) (mW ad cI cJ cD) A s H locs (G, E, Dd) → ∀ (ls : Array Slot), lv_has ls 8 [(0, .ref (ad 0)), (1, .int a0), (2, .int a1), (3, .int a2), (4, .int a3), (5, .int x1), (6, .int x2)] → W p l e R s m args below meth c H locs 0 0 Q (F0 m 57 ls [.int x7]) := by
          intro H locs I ls hl
          refine lv_istore (lv' := [(7, .int x7), (0, .ref (ad 0)), (1, .int a0), (2, .int a1), (3, .int a2), (4, .int a3), (5, .int x1), (6, .int x2)]) hx hb dX12_winsBy_57 hl (by decide) rfl (fun ls hl => ?_)
          refine lv_iload hx hb dX12_winsBy_59 (lv_at hl 6 rfl) ?_
          refine lv_iload hx hb dX12_winsBy_61 (lv_at hl 0 rfl) ?_
          obtain ⟨x9, hv12, hf⟩ := bd_some hf
          have J8 : ∀ (H : Heap) (locs : List Loc), sInv D (mT cI cJ cD) (mW ad cI cJ cD) A s H locs (G, E, Dd) → ∀ (ls : Array Slot), lv_has ls 8 [(0, .ref (ad 0)), (1, .int a0), (2, .int a1), (3, .int a2), (4, .int a3), (6, .int x2)] → W p l e R s m args below meth c H locs 0 0 Q (F0 m 91 ls [.int x9, .int x1]) := by
            intro H locs I ls hl
            refine lv_iadd hx hb dX12_winsBy_91 ?_
            refine lv_topi (fun x10 ex10 => ?_)
            replace hf := nm_some ex10 hf
            refine lv_istore (lv' := [(5, .int x10), (0, .ref (ad 0)), (1, .int a0), (2, .int a1), (3, .int a2), (4, .int a3), (6, .int x2)]) hx hb dX12_winsBy_92 hl (by decide) rfl (fun ls hl => ?_)
            obtain ⟨x11, ex11⟩ : ∃ y : Int32, y = x2 + (1 : Int32) := ⟨_, rfl⟩
            replace hf := nm_some ex11 hf
            refine lv_iinc (v := x11) (lv' := [(6, .int x11), (5, .int x10), (0, .ref (ad 0)), (1, .int a0), (2, .int a1), (3, .int a2), (4, .int a3)]) hx hb dX12_winsBy_94 hl (k := 6) rfl (by rw [ex11]; rfl) (by decide) rfl (fun ls hl => ?_)
            refine lv_goto (tgt := 6) hx hb dX12_winsBy_97 (by decide) ?_
            cases hf
            exact ih1 _ _ hK1 H locs I ls (lv_sub hl [2, 3, 4, 5, 6, 1, 0] rfl)
          replace hf := hv12
          refine lv_if_eq (tgt := 90) hx hb dX12_winsBy_63 (by decide) (fun c16 => ?_) (fun c16 => ?_)
          · replace hf := (if_pos c16).symm.trans hf
            refine lv_iconst (v := (0 : Int32)) hx hb dX12_winsBy_90 (by decide) ?_
            cases hf
            exact J8 H locs I ls (lv_sub hl [1, 2, 3, 4, 5, 7] rfl)
          · replace hf := (if_neg c16).symm.trans hf
            refine lv_iload hx hb dX12_winsBy_66 (lv_at hl 5 rfl) ?_
            refine lv_if_eq (tgt := 86) hx hb dX12_winsBy_68 (by decide) (fun c15 => ?_) (fun c15 => ?_)
            · replace hf := (if_pos c15).symm.trans hf
              refine lv_iconst (v := (1 : Int32)) hx hb dX12_winsBy_86 (by decide) ?_
              refine lv_goto (tgt := 91) hx hb dX12_winsBy_87 (by decide) ?_
              cases hf
              exact J8 H locs I ls (lv_sub hl [1, 2, 3, 4, 5, 7] rfl)
            · replace hf := (if_neg c15).symm.trans hf
              refine lv_aload_n hx hb dX12_winsBy_71 rfl (lv_at hl 1 rfl) ?_
              refine mgtX12_7_0 F I dX12_winsBy_72 ?_
              refine lv_aload_n hx hb dX12_winsBy_75 rfl (lv_at hl 1 rfl) ?_
              refine mgtX12_13_0 F I dX12_winsBy_76 ?_
              refine lv_iload hx hb dX12_winsBy_79 (lv_at hl 7 rfl) ?_
              obtain ⟨g13, hf⟩ := ri_some hf
              refine mal2 F I g13 dX12_winsBy_81 ?_
              obtain ⟨g14, hf⟩ := ri_some hf
              refine mal1 F I g14 dX12_winsBy_82 ?_
              refine lv_goto (tgt := 91) hx hb dX12_winsBy_83 (by decide) ?_
              cases hf
              exact J8 H locs I ls (lv_sub hl [1, 2, 3, 4, 5, 7] rfl)
        replace hf := hv17
        refine lv_if_eq (tgt := 56) hx hb dX12_winsBy_23 (by decide) (fun c24 => ?_) (fun c24 => ?_)
        · replace hf := (if_pos c24).symm.trans hf
          refine lv_iconst (v := (0 : Int32)) hx hb dX12_winsBy_56 (by decide) ?_
          cases hf
          exact J6 H locs I ls (lv_sub hl [0, 1, 2, 3, 4, 5, 6] rfl)
        · replace hf := (if_neg c24).symm.trans hf
          refine lv_aload_n hx hb dX12_winsBy_26 rfl (lv_at hl 0 rfl) ?_
          refine lv_iload hx hb dX12_winsBy_27 (lv_at hl 6 rfl) ?_
          obtain ⟨r18, h19, hf⟩ := bd_some hf
          refine s_callVi (As := [.int x2]) (rest := []) F I (cM_wonBy G E Dd x2 r18 h19) kX12_217 ⟨rfl, rfl⟩ ⟨Nat.le_trans (Nat.le_of_ble_eq_true rfl) hRf, Nat.le_trans (Nat.le_of_ble_eq_true rfl) hRl⟩ 0 12 rfl rfl rfl rfl rfl hl.1 (Nat.le_of_ble_eq_true rfl) ⟨Nat.zero_le _, Nat.zero_le _⟩ dX12_winsBy_29 ?_
          intro H locs I
          refine lv_iload_n hx hb dX12_winsBy_32 rfl (lv_at hl 2 rfl) ?_
          refine lv_icmp_ne (tgt := 56) hx hb dX12_winsBy_33 (by decide) (fun c23 => ?_) (fun c23 => ?_)
          · replace hf := (if_neg c23).symm.trans hf
            refine lv_iconst (v := (0 : Int32)) hx hb dX12_winsBy_56 (by decide) ?_
            cases hf
            exact J6 H locs I ls (lv_sub hl [0, 1, 2, 3, 4, 5, 6] rfl)
          · replace hf := (if_pos c23).symm.trans hf
            refine lv_iload_n hx hb dX12_winsBy_36 rfl (lv_at hl 1 rfl) ?_
            refine lv_iconst (v := (-1 : Int32)) hx hb dX12_winsBy_37 (by decide) ?_
            refine lv_icmp_eq (tgt := 52) hx hb dX12_winsBy_38 (by decide) (fun c22 => ?_) (fun c22 => ?_)
            · replace hf := (if_pos c22).symm.trans hf
              refine lv_iconst (v := (1 : Int32)) hx hb dX12_winsBy_52 (by decide) ?_
              refine lv_goto (tgt := 57) hx hb dX12_winsBy_53 (by decide) ?_
              cases hf
              exact J6 H locs I ls (lv_sub hl [0, 1, 2, 3, 4, 5, 6] rfl)
            · replace hf := (if_neg c22).symm.trans hf
              refine lv_aload_n hx hb dX12_winsBy_41 rfl (lv_at hl 0 rfl) ?_
              refine mgtX12_13_0 F I dX12_winsBy_42 ?_
              refine lv_iload hx hb dX12_winsBy_45 (lv_at hl 6 rfl) ?_
              obtain ⟨g20, hf⟩ := ri_some hf
              refine mal2 F I g20 dX12_winsBy_47 ?_
              refine lv_iload_n hx hb dX12_winsBy_48 rfl (lv_at hl 1 rfl) ?_
              refine lv_icmp_ne (tgt := 56) hx hb dX12_winsBy_49 (by decide) (fun c21 => ?_) (fun c21 => ?_)
              · replace hf := (if_neg c21).symm.trans hf
                refine lv_iconst (v := (0 : Int32)) hx hb dX12_winsBy_56 (by decide) ?_
                cases hf
                exact J6 H locs I ls (lv_sub hl [0, 1, 2, 3, 4, 5, 6] rfl)
              · replace hf := (if_pos c21).symm.trans hf
                refine lv_iconst (v := (1 : Int32)) hx hb dX12_winsBy_52 (by decide) ?_
                refine lv_goto (tgt := 57) hx hb dX12_winsBy_53 (by decide) ?_
                cases hf
                exact J6 H locs I ls (lv_sub hl [0, 1, 2, 3, 4, 5, 6] rfl)
  exact L1 FU _ _ hq1 H locs I ls (lv_sub hl [2, 3, 4, 5, 6, 1, 0] rfl)
def M_wins (G : Nat → Nat → Int32) (a0 : Int32) (a1 : Int32) : Option (Int32) :=
bd (M_winsBy G (-1 : Int32) a0 a1 (0 : Int32)) fun r1 =>
some r1
set_option maxRecDepth 100000 in
set_option maxHeartbeats 4000000 in
theorem cM_wins (G : Nat → Nat → Int32) (E : Nat → Nat → Int64) (Dd : Nat → Nat → UInt64) (a0 : Int32) (a1 : Int32) (rv : Int32)  (hf : M_wins G a0 a1 = some rv) : sMi D (mT cI cJ cD) (mW ad cI cJ cD) l yX12_wins (ws1 yX12_wins cX12_wins 3 (some .int)) ({ frames := 2, cells := 0, slots := 0, locals := 50 }) [.ref (ad 0), .int a0, .int a1] (G, E, Dd) (rv, (G, E, Dd)) := by
  unfold M_wins at hf
  refine sMi_of (by decide) (Nat.le_of_ble_eq_true rfl) ?_
  intro p e R s m args below meth c A Q ls H locs F hRf hRl I hl ret
  obtain ⟨hx, hb, hml, hown, hG⟩ := id F
  replace hl : lv_has ls 3 [(0, .ref (ad 0)), (1, .int a0), (2, .int a1)] := hl
  refine lv_aload_n hx hb dX12_wins_0 rfl (lv_at hl 0 rfl) ?_
  refine lv_iconst (v := (-1 : Int32)) hx hb dX12_wins_1 (by decide) ?_
  refine lv_iload_n hx hb dX12_wins_2 rfl (lv_at hl 1 rfl) ?_
  refine lv_iload_n hx hb dX12_wins_3 rfl (lv_at hl 2 rfl) ?_
  refine lv_iconst (v := (0 : Int32)) hx hb dX12_wins_4 (by decide) ?_
  obtain ⟨r1, h2, hf⟩ := bd_some hf
  refine s_callVi (As := [.int (-1 : Int32), .int a0, .int a1, .int (0 : Int32)]) (rest := []) F I (cM_winsBy G E Dd (-1 : Int32) a0 a1 (0 : Int32) r1 h2) kX12_220 ⟨rfl, rfl⟩ ⟨Nat.le_trans (Nat.le_of_ble_eq_true rfl) hRf, Nat.le_trans (Nat.le_of_ble_eq_true rfl) hRl⟩ 0 12 rfl rfl rfl rfl rfl hl.1 (Nat.le_of_ble_eq_true rfl) ⟨Nat.zero_le _, Nat.zero_le _⟩ dX12_wins_5 ?_
  intro H locs I
  cases hf
  exact ret H locs _ ls I dX12_wins_8
def M_tiesOf_s1 (a0 : Int32) (a1 : Int32) (G : Nat → Nat → Int32) (x1 : Int32) (x2 : Int32) : Option ((Int32 × Int32) ⊕ (Int32)) :=
if G 4 0 ≤ x2 then
(some (.inr x1))
else
(bd (M_isOf G x2 a0 a1) fun r4 =>
bd (if r4 = 0 then
(some (0 : Int32))
else
(ri 48 x2 <|
if G 8 x2.toNatClampNeg = 0 then
(some (1 : Int32))
else
(some (0 : Int32)))) fun x7 =>
nm (x1 + x7 : Int32) fun x8 =>
nm (x2 + (1 : Int32) : Int32) fun x9 =>
some (.inl (x8, x9)))
def M_tiesOf (G : Nat → Nat → Int32) (a0 : Int32) (a1 : Int32) : Option (Int32) :=
bd (lp (fun q => M_tiesOf_s1 a0 a1 G q.1 q.2) FU ((0 : Int32), (0 : Int32))) fun r3 =>
some r3
set_option maxRecDepth 100000 in
set_option maxHeartbeats 4000000 in
theorem cM_tiesOf (G : Nat → Nat → Int32) (E : Nat → Nat → Int64) (Dd : Nat → Nat → UInt64) (a0 : Int32) (a1 : Int32) (rv : Int32)  (hf : M_tiesOf G a0 a1 = some rv) : sMi D (mT cI cJ cD) (mW ad cI cJ cD) l yX12_tiesOf (ws1 yX12_tiesOf cX12_tiesOf 5 (some .int)) ({ frames := 1, cells := 0, slots := 0, locals := 23 }) [.ref (ad 0), .int a0, .int a1] (G, E, Dd) (rv, (G, E, Dd)) := by
  unfold M_tiesOf at hf
  refine sMi_of (by decide) (Nat.le_of_ble_eq_true rfl) ?_
  intro p e R s m args below meth c A Q ls H locs F hRf hRl I hl ret
  obtain ⟨hx, hb, hml, hown, hG⟩ := id F
  replace hl : lv_has ls 5 [(0, .ref (ad 0)), (1, .int a0), (2, .int a1)] := hl
  refine lv_iconst (v := (0 : Int32)) hx hb dX12_tiesOf_0 (by decide) ?_
  refine lv_istore_n (lv' := [(3, .int (0 : Int32)), (0, .ref (ad 0)), (1, .int a0), (2, .int a1)]) hx hb dX12_tiesOf_1 rfl hl (by decide) rfl (fun ls hl => ?_)
  refine lv_iconst (v := (0 : Int32)) hx hb dX12_tiesOf_2 (by decide) ?_
  refine lv_istore (lv' := [(4, .int (0 : Int32)), (3, .int (0 : Int32)), (0, .ref (ad 0)), (1, .int a0), (2, .int a1)]) hx hb dX12_tiesOf_3 hl (by decide) rfl (fun ls hl => ?_)
  obtain ⟨r3, hq1, hf⟩ := bd_some hf
  have K1 : ∀ (H : Heap) (locs : List Loc), sInv D (mT cI cJ cD) (mW ad cI cJ cD) A s H locs (G, E, Dd) → ∀ (ls : Array Slot), lv_has ls 5 [(3, .int r3)] → W p l e R s m args below meth c H locs 0 0 Q (F0 m 49 ls []) := by
    intro H locs I ls hl
    refine lv_iload_n hx hb dX12_tiesOf_49 rfl (lv_at hl 0 rfl) ?_
    cases hf
    exact ret H locs _ ls I dX12_tiesOf_50
  have L1 : ∀ (n : Nat) (x1 : Int32) (x2 : Int32), lp (fun q => M_tiesOf_s1 a0 a1 G q.1 q.2) n (x1, x2) = some r3 → ∀ (H : Heap) (locs : List Loc), sInv D (mT cI cJ cD) (mW ad cI cJ cD) A s H locs (G, E, Dd) → ∀ (ls : Array Slot), lv_has ls 5 [(0, .ref (ad 0)), (1, .int a0), (2, .int a1), (3, .int x1), (4, .int x2)] → W p l e R s m args below meth c H locs 0 0 Q (F0 m 5 ls []) := by
    intro n
    induction n with
    | zero => intro x1 x2 hq; exact (lp_0 hq).elim
    | succ n ih1 =>
      intro x1 x2 hq H locs I ls hl
      obtain ⟨y1, hf, hK1⟩ := lp_go hq
      replace hf : M_tiesOf_s1 a0 a1 G x1 x2 = some y1 := hf
      unfold M_tiesOf_s1 at hf
      refine lv_iload hx hb dX12_tiesOf_5 (lv_at hl 4 rfl) ?_
      refine lv_aload_n hx hb dX12_tiesOf_7 rfl (lv_at hl 0 rfl) ?_
      refine mgtX12_102_0 F I dX12_tiesOf_8 ?_
      refine lv_icmp_ge (tgt := 49) hx hb dX12_tiesOf_11 (by decide) (fun c14 => ?_) (fun c14 => ?_)
      · replace hf := (if_pos c14).symm.trans hf
        cases hf
        cases (show x1 = r3 from hK1)
        exact K1 H locs I ls (lv_sub hl [3] rfl)
      · replace hf := (if_neg c14).symm.trans hf
        refine lv_iload_n hx hb dX12_tiesOf_14 rfl (lv_at hl 3 rfl) ?_
        refine lv_aload_n hx hb dX12_tiesOf_15 rfl (lv_at hl 0 rfl) ?_
        refine lv_iload hx hb dX12_tiesOf_16 (lv_at hl 4 rfl) ?_
        refine lv_iload_n hx hb dX12_tiesOf_18 rfl (lv_at hl 1 rfl) ?_
        refine lv_iload_n hx hb dX12_tiesOf_19 rfl (lv_at hl 2 rfl) ?_
        obtain ⟨r4, h5, hf⟩ := bd_some hf
        refine s_callVi (As := [.int x2, .int a0, .int a1]) (rest := [.int x1]) F I (cM_isOf G E Dd x2 a0 a1 r4 h5) kX12_214 ⟨rfl, rfl⟩ ⟨Nat.le_trans (Nat.le_of_ble_eq_true rfl) hRf, Nat.le_trans (Nat.le_of_ble_eq_true rfl) hRl⟩ 0 12 rfl rfl rfl rfl rfl hl.1 (Nat.le_of_ble_eq_true rfl) ⟨Nat.zero_le _, Nat.zero_le _⟩ dX12_tiesOf_20 ?_
        intro H locs I
        obtain ⟨x7, hv10, hf⟩ := bd_some hf
        have J6 : ∀ (H : Heap) (locs : List Loc), sInv D (mT cI cJ cD) (mW ad cI cJ cD) A s H locs (G, E, Dd) → ∀ (ls : Array Slot), lv_has ls 5 [(0, .ref (ad 0)), (1, .int a0), (2, .int a1), (4, .int x2)] → W p l e R s m args below meth c H locs 0 0 Q (F0 m 41 ls [.int x7, .int x1]) := by
          intro H locs I ls hl
          refine lv_iadd hx hb dX12_tiesOf_41 ?_
          refine lv_topi (fun x8 ex8 => ?_)
          replace hf := nm_some ex8 hf
          refine lv_istore_n (lv' := [(3, .int x8), (0, .ref (ad 0)), (1, .int a0), (2, .int a1), (4, .int x2)]) hx hb dX12_tiesOf_42 rfl hl (by decide) rfl (fun ls hl => ?_)
          obtain ⟨x9, ex9⟩ : ∃ y : Int32, y = x2 + (1 : Int32) := ⟨_, rfl⟩
          replace hf := nm_some ex9 hf
          refine lv_iinc (v := x9) (lv' := [(4, .int x9), (3, .int x8), (0, .ref (ad 0)), (1, .int a0), (2, .int a1)]) hx hb dX12_tiesOf_43 hl (k := 4) rfl (by rw [ex9]; rfl) (by decide) rfl (fun ls hl => ?_)
          refine lv_goto (tgt := 5) hx hb dX12_tiesOf_46 (by decide) ?_
          cases hf
          exact ih1 _ _ hK1 H locs I ls (lv_sub hl [2, 3, 4, 1, 0] rfl)
        replace hf := hv10
        refine lv_if_eq (tgt := 40) hx hb dX12_tiesOf_23 (by decide) (fun c13 => ?_) (fun c13 => ?_)
        · replace hf := (if_pos c13).symm.trans hf
          refine lv_iconst (v := (0 : Int32)) hx hb dX12_tiesOf_40 (by decide) ?_
          cases hf
          exact J6 H locs I ls (lv_sub hl [0, 1, 2, 4] rfl)
        · replace hf := (if_neg c13).symm.trans hf
          refine lv_aload_n hx hb dX12_tiesOf_26 rfl (lv_at hl 0 rfl) ?_
          refine mgtX12_22_0 F I dX12_tiesOf_27 ?_
          refine lv_iload hx hb dX12_tiesOf_30 (lv_at hl 4 rfl) ?_
          obtain ⟨g11, hf⟩ := ri_some hf
          refine mal5 F I g11 dX12_tiesOf_32 ?_
          refine lv_if_ne (tgt := 40) hx hb dX12_tiesOf_33 (by decide) (fun c12 => ?_) (fun c12 => ?_)
          · replace hf := (if_neg c12).symm.trans hf
            refine lv_iconst (v := (0 : Int32)) hx hb dX12_tiesOf_40 (by decide) ?_
            cases hf
            exact J6 H locs I ls (lv_sub hl [0, 1, 2, 4] rfl)
          · replace hf := (if_pos c12).symm.trans hf
            refine lv_iconst (v := (1 : Int32)) hx hb dX12_tiesOf_36 (by decide) ?_
            refine lv_goto (tgt := 41) hx hb dX12_tiesOf_37 (by decide) ?_
            cases hf
            exact J6 H locs I ls (lv_sub hl [0, 1, 2, 4] rfl)
  exact L1 FU _ _ hq1 H locs I ls (lv_sub hl [2, 3, 4, 1, 0] rfl)
def M_margin (G : Nat → Nat → Int32) (a0 : Int32) (a1 : Int32) : Option (Int32) :=
bd (M_winsBy G (-1 : Int32) a0 a1 (1 : Int32)) fun r1 =>
bd (M_winsBy G (-1 : Int32) a1 a0 (1 : Int32)) fun r3 =>
some (r1 - r3)
set_option maxRecDepth 100000 in
set_option maxHeartbeats 4000000 in
theorem cM_margin (G : Nat → Nat → Int32) (E : Nat → Nat → Int64) (Dd : Nat → Nat → UInt64) (a0 : Int32) (a1 : Int32) (rv : Int32)  (hf : M_margin G a0 a1 = some rv) : sMi D (mT cI cJ cD) (mW ad cI cJ cD) l yX12_margin (ws1 yX12_margin cX12_margin 3 (some .int)) ({ frames := 2, cells := 0, slots := 0, locals := 50 }) [.ref (ad 0), .int a0, .int a1] (G, E, Dd) (rv, (G, E, Dd)) := by
  unfold M_margin at hf
  refine sMi_of (by decide) (Nat.le_of_ble_eq_true rfl) ?_
  intro p e R s m args below meth c A Q ls H locs F hRf hRl I hl ret
  obtain ⟨hx, hb, hml, hown, hG⟩ := id F
  replace hl : lv_has ls 3 [(0, .ref (ad 0)), (1, .int a0), (2, .int a1)] := hl
  refine lv_aload_n hx hb dX12_margin_0 rfl (lv_at hl 0 rfl) ?_
  refine lv_iconst (v := (-1 : Int32)) hx hb dX12_margin_1 (by decide) ?_
  refine lv_iload_n hx hb dX12_margin_2 rfl (lv_at hl 1 rfl) ?_
  refine lv_iload_n hx hb dX12_margin_3 rfl (lv_at hl 2 rfl) ?_
  refine lv_iconst (v := (1 : Int32)) hx hb dX12_margin_4 (by decide) ?_
  obtain ⟨r1, h2, hf⟩ := bd_some hf
  refine s_callVi (As := [.int (-1 : Int32), .int a0, .int a1, .int (1 : Int32)]) (rest := []) F I (cM_winsBy G E Dd (-1 : Int32) a0 a1 (1 : Int32) r1 h2) kX12_220 ⟨rfl, rfl⟩ ⟨Nat.le_trans (Nat.le_of_ble_eq_true rfl) hRf, Nat.le_trans (Nat.le_of_ble_eq_true rfl) hRl⟩ 0 12 rfl rfl rfl rfl rfl hl.1 (Nat.le_of_ble_eq_true rfl) ⟨Nat.zero_le _, Nat.zero_le _⟩ dX12_margin_5 ?_
  intro H locs I
  refine lv_aload_n hx hb dX12_margin_8 rfl (lv_at hl 0 rfl) ?_
  refine lv_iconst (v := (-1 : Int32)) hx hb dX12_margin_9 (by decide) ?_
  refine lv_iload_n hx hb dX12_margin_10 rfl (lv_at hl 2 rfl) ?_
  refine lv_iload_n hx hb dX12_margin_11 rfl (lv_at hl 1 rfl) ?_
  refine lv_iconst (v := (1 : Int32)) hx hb dX12_margin_12 (by decide) ?_
  obtain ⟨r3, h4, hf⟩ := bd_some hf
  refine s_callVi (As := [.int (-1 : Int32), .int a1, .int a0, .int (1 : Int32)]) (rest := [.int r1]) F I (cM_winsBy G E Dd (-1 : Int32) a1 a0 (1 : Int32) r3 h4) kX12_220 ⟨rfl, rfl⟩ ⟨Nat.le_trans (Nat.le_of_ble_eq_true rfl) hRf, Nat.le_trans (Nat.le_of_ble_eq_true rfl) hRl⟩ 0 12 rfl rfl rfl rfl rfl hl.1 (Nat.le_of_ble_eq_true rfl) ⟨Nat.zero_le _, Nat.zero_le _⟩ dX12_margin_13 ?_
  intro H locs I
  refine lv_isub hx hb dX12_margin_16 ?_
  cases hf
  exact ret H locs _ ls I dX12_margin_17
def M_prefers (G : Nat → Nat → Int32) (a0 : Int32) (a1 : Int32) (a2 : Int32) : Option (Int32) :=
bd (M_winsBy G a0 a1 a2 (0 : Int32)) fun r1 =>
bd (M_winsBy G a0 a2 a1 (0 : Int32)) fun r3 =>
if r1 ≤ r3 then
(some (0 : Int32))
else
(some (1 : Int32))
set_option maxRecDepth 100000 in
set_option maxHeartbeats 4000000 in
theorem cM_prefers (G : Nat → Nat → Int32) (E : Nat → Nat → Int64) (Dd : Nat → Nat → UInt64) (a0 : Int32) (a1 : Int32) (a2 : Int32) (rv : Int32)  (hf : M_prefers G a0 a1 a2 = some rv) : sMi D (mT cI cJ cD) (mW ad cI cJ cD) l yX12_prefers (ws1 yX12_prefers cX12_prefers 4 (some .boolean)) ({ frames := 2, cells := 0, slots := 0, locals := 50 }) [.ref (ad 0), .int a0, .int a1, .int a2] (G, E, Dd) (rv, (G, E, Dd)) := by
  unfold M_prefers at hf
  refine sMz_of (by decide) (Nat.le_of_ble_eq_true rfl) ?_
  intro p e R s m args below meth c A Q ls H locs F hRf hRl I hl ret
  obtain ⟨hx, hb, hml, hown, hG⟩ := id F
  replace hl : lv_has ls 4 [(0, .ref (ad 0)), (1, .int a0), (2, .int a1), (3, .int a2)] := hl
  refine lv_aload_n hx hb dX12_prefers_0 rfl (lv_at hl 0 rfl) ?_
  refine lv_iload_n hx hb dX12_prefers_1 rfl (lv_at hl 1 rfl) ?_
  refine lv_iload_n hx hb dX12_prefers_2 rfl (lv_at hl 2 rfl) ?_
  refine lv_iload_n hx hb dX12_prefers_3 rfl (lv_at hl 3 rfl) ?_
  refine lv_iconst (v := (0 : Int32)) hx hb dX12_prefers_4 (by decide) ?_
  obtain ⟨r1, h2, hf⟩ := bd_some hf
  refine s_callVi (As := [.int a0, .int a1, .int a2, .int (0 : Int32)]) (rest := []) F I (cM_winsBy G E Dd a0 a1 a2 (0 : Int32) r1 h2) kX12_220 ⟨rfl, rfl⟩ ⟨Nat.le_trans (Nat.le_of_ble_eq_true rfl) hRf, Nat.le_trans (Nat.le_of_ble_eq_true rfl) hRl⟩ 0 12 rfl rfl rfl rfl rfl hl.1 (Nat.le_of_ble_eq_true rfl) ⟨Nat.zero_le _, Nat.zero_le _⟩ dX12_prefers_5 ?_
  intro H locs I
  refine lv_aload_n hx hb dX12_prefers_8 rfl (lv_at hl 0 rfl) ?_
  refine lv_iload_n hx hb dX12_prefers_9 rfl (lv_at hl 1 rfl) ?_
  refine lv_iload_n hx hb dX12_prefers_10 rfl (lv_at hl 3 rfl) ?_
  refine lv_iload_n hx hb dX12_prefers_11 rfl (lv_at hl 2 rfl) ?_
  refine lv_iconst (v := (0 : Int32)) hx hb dX12_prefers_12 (by decide) ?_
  obtain ⟨r3, h4, hf⟩ := bd_some hf
  refine s_callVi (As := [.int a0, .int a2, .int a1, .int (0 : Int32)]) (rest := [.int r1]) F I (cM_winsBy G E Dd a0 a2 a1 (0 : Int32) r3 h4) kX12_220 ⟨rfl, rfl⟩ ⟨Nat.le_trans (Nat.le_of_ble_eq_true rfl) hRf, Nat.le_trans (Nat.le_of_ble_eq_true rfl) hRl⟩ 0 12 rfl rfl rfl rfl rfl hl.1 (Nat.le_of_ble_eq_true rfl) ⟨Nat.zero_le _, Nat.zero_le _⟩ dX12_prefers_13 ?_
  intro H locs I
  refine lv_icmp_le (tgt := 23) hx hb dX12_prefers_16 (by decide) (fun c5 => ?_) (fun c5 => ?_)
  · replace hf := (if_pos c5).symm.trans hf
    refine lv_iconst (v := (0 : Int32)) hx hb dX12_prefers_23 (by decide) ?_
    cases hf
    exact ret H locs _ ls I (Or.inl rfl) dX12_prefers_24
  · replace hf := (if_neg c5).symm.trans hf
    refine lv_iconst (v := (1 : Int32)) hx hb dX12_prefers_19 (by decide) ?_
    refine lv_goto (tgt := 24) hx hb dX12_prefers_20 (by decide) ?_
    cases hf
    exact ret H locs _ ls I (Or.inr rfl) dX12_prefers_24
def M_preferring_s1 (a0 : Int32) (a1 : Int32) (G : Nat → Nat → Int32) (x1 : Int32) (x2 : Int32) : Option ((Int32 × Int32) ⊕ (Int32)) :=
if G 2 0 ≤ x2 then
(some (.inr x1))
else
(bd (M_prefers G x2 a0 a1) fun r4 =>
bd (if r4 = 0 then
(some (0 : Int32))
else
(some (1 : Int32))) fun x7 =>
nm (x1 + x7 : Int32) fun x8 =>
nm (x2 + (1 : Int32) : Int32) fun x9 =>
some (.inl (x8, x9)))
def M_preferring (G : Nat → Nat → Int32) (a0 : Int32) (a1 : Int32) : Option (Int32) :=
bd (lp (fun q => M_preferring_s1 a0 a1 G q.1 q.2) FU ((0 : Int32), (0 : Int32))) fun r3 =>
some r3
set_option maxRecDepth 100000 in
set_option maxHeartbeats 4000000 in
theorem cM_preferring (G : Nat → Nat → Int32) (E : Nat → Nat → Int64) (Dd : Nat → Nat → UInt64) (a0 : Int32) (a1 : Int32) (rv : Int32)  (hf : M_preferring G a0 a1 = some rv) : sMi D (mT cI cJ cD) (mW ad cI cJ cD) l yX12_preferring (ws1 yX12_preferring cX12_preferring 5 (some .int)) ({ frames := 3, cells := 0, slots := 0, locals := 73 }) [.ref (ad 0), .int a0, .int a1] (G, E, Dd) (rv, (G, E, Dd)) := by
  unfold M_preferring at hf
  refine sMi_of (by decide) (Nat.le_of_ble_eq_true rfl) ?_
  intro p e R s m args below meth c A Q ls H locs F hRf hRl I hl ret
  obtain ⟨hx, hb, hml, hown, hG⟩ := id F
  replace hl : lv_has ls 5 [(0, .ref (ad 0)), (1, .int a0), (2, .int a1)] := hl
  refine lv_iconst (v := (0 : Int32)) hx hb dX12_preferring_0 (by decide) ?_
  refine lv_istore_n (lv' := [(3, .int (0 : Int32)), (0, .ref (ad 0)), (1, .int a0), (2, .int a1)]) hx hb dX12_preferring_1 rfl hl (by decide) rfl (fun ls hl => ?_)
  refine lv_iconst (v := (0 : Int32)) hx hb dX12_preferring_2 (by decide) ?_
  refine lv_istore (lv' := [(4, .int (0 : Int32)), (3, .int (0 : Int32)), (0, .ref (ad 0)), (1, .int a0), (2, .int a1)]) hx hb dX12_preferring_3 hl (by decide) rfl (fun ls hl => ?_)
  obtain ⟨r3, hq1, hf⟩ := bd_some hf
  have K1 : ∀ (H : Heap) (locs : List Loc), sInv D (mT cI cJ cD) (mW ad cI cJ cD) A s H locs (G, E, Dd) → ∀ (ls : Array Slot), lv_has ls 5 [(3, .int r3)] → W p l e R s m args below meth c H locs 0 0 Q (F0 m 39 ls []) := by
    intro H locs I ls hl
    refine lv_iload_n hx hb dX12_preferring_39 rfl (lv_at hl 0 rfl) ?_
    cases hf
    exact ret H locs _ ls I dX12_preferring_40
  have L1 : ∀ (n : Nat) (x1 : Int32) (x2 : Int32), lp (fun q => M_preferring_s1 a0 a1 G q.1 q.2) n (x1, x2) = some r3 → ∀ (H : Heap) (locs : List Loc), sInv D (mT cI cJ cD) (mW ad cI cJ cD) A s H locs (G, E, Dd) → ∀ (ls : Array Slot), lv_has ls 5 [(0, .ref (ad 0)), (1, .int a0), (2, .int a1), (3, .int x1), (4, .int x2)] → W p l e R s m args below meth c H locs 0 0 Q (F0 m 5 ls []) := by
    intro n
    induction n with
    | zero => intro x1 x2 hq; exact (lp_0 hq).elim
    | succ n ih1 =>
      intro x1 x2 hq H locs I ls hl
      obtain ⟨y1, hf, hK1⟩ := lp_go hq
      replace hf : M_preferring_s1 a0 a1 G x1 x2 = some y1 := hf
      unfold M_preferring_s1 at hf
      refine lv_iload hx hb dX12_preferring_5 (lv_at hl 4 rfl) ?_
      refine lv_aload_n hx hb dX12_preferring_7 rfl (lv_at hl 0 rfl) ?_
      refine mgtX12_99_0 F I dX12_preferring_8 ?_
      refine lv_icmp_ge (tgt := 39) hx hb dX12_preferring_11 (by decide) (fun c12 => ?_) (fun c12 => ?_)
      · replace hf := (if_pos c12).symm.trans hf
        cases hf
        cases (show x1 = r3 from hK1)
        exact K1 H locs I ls (lv_sub hl [3] rfl)
      · replace hf := (if_neg c12).symm.trans hf
        refine lv_iload_n hx hb dX12_preferring_14 rfl (lv_at hl 3 rfl) ?_
        refine lv_aload_n hx hb dX12_preferring_15 rfl (lv_at hl 0 rfl) ?_
        refine lv_iload hx hb dX12_preferring_16 (lv_at hl 4 rfl) ?_
        refine lv_iload_n hx hb dX12_preferring_18 rfl (lv_at hl 1 rfl) ?_
        refine lv_iload_n hx hb dX12_preferring_19 rfl (lv_at hl 2 rfl) ?_
        obtain ⟨r4, h5, hf⟩ := bd_some hf
        refine s_callVi (As := [.int x2, .int a0, .int a1]) (rest := [.int x1]) F I (cM_prefers G E Dd x2 a0 a1 r4 h5) kX12_224 ⟨rfl, rfl⟩ ⟨Nat.le_trans (Nat.le_of_ble_eq_true rfl) hRf, Nat.le_trans (Nat.le_of_ble_eq_true rfl) hRl⟩ 0 12 rfl rfl rfl rfl rfl hl.1 (Nat.le_of_ble_eq_true rfl) ⟨Nat.zero_le _, Nat.zero_le _⟩ dX12_preferring_20 ?_
        intro H locs I
        obtain ⟨x7, hv10, hf⟩ := bd_some hf
        have J6 : ∀ (H : Heap) (locs : List Loc), sInv D (mT cI cJ cD) (mW ad cI cJ cD) A s H locs (G, E, Dd) → ∀ (ls : Array Slot), lv_has ls 5 [(0, .ref (ad 0)), (1, .int a0), (2, .int a1), (4, .int x2)] → W p l e R s m args below meth c H locs 0 0 Q (F0 m 31 ls [.int x7, .int x1]) := by
          intro H locs I ls hl
          refine lv_iadd hx hb dX12_preferring_31 ?_
          refine lv_topi (fun x8 ex8 => ?_)
          replace hf := nm_some ex8 hf
          refine lv_istore_n (lv' := [(3, .int x8), (0, .ref (ad 0)), (1, .int a0), (2, .int a1), (4, .int x2)]) hx hb dX12_preferring_32 rfl hl (by decide) rfl (fun ls hl => ?_)
          obtain ⟨x9, ex9⟩ : ∃ y : Int32, y = x2 + (1 : Int32) := ⟨_, rfl⟩
          replace hf := nm_some ex9 hf
          refine lv_iinc (v := x9) (lv' := [(4, .int x9), (3, .int x8), (0, .ref (ad 0)), (1, .int a0), (2, .int a1)]) hx hb dX12_preferring_33 hl (k := 4) rfl (by rw [ex9]; rfl) (by decide) rfl (fun ls hl => ?_)
          refine lv_goto (tgt := 5) hx hb dX12_preferring_36 (by decide) ?_
          cases hf
          exact ih1 _ _ hK1 H locs I ls (lv_sub hl [2, 3, 4, 1, 0] rfl)
        replace hf := hv10
        refine lv_if_eq (tgt := 30) hx hb dX12_preferring_23 (by decide) (fun c11 => ?_) (fun c11 => ?_)
        · replace hf := (if_pos c11).symm.trans hf
          refine lv_iconst (v := (0 : Int32)) hx hb dX12_preferring_30 (by decide) ?_
          cases hf
          exact J6 H locs I ls (lv_sub hl [0, 1, 2, 4] rfl)
        · replace hf := (if_neg c11).symm.trans hf
          refine lv_iconst (v := (1 : Int32)) hx hb dX12_preferring_26 (by decide) ?_
          refine lv_goto (tgt := 31) hx hb dX12_preferring_27 (by decide) ?_
          cases hf
          exact J6 H locs I ls (lv_sub hl [0, 1, 2, 4] rfl)
  exact L1 FU _ _ hq1 H locs I ls (lv_sub hl [2, 3, 4, 1, 0] rfl)
def M_resultNow (G : Nat → Nat → Int32) (a0 : Int32) (a1 : Int32) (a2 : Int32) : Option (Int32) :=
if a0 = a1 then
(some (0 : Int32))
else
(if a2 = 0 then
(bd (M_wins G a0 a1) fun r9 =>
some r9)
else
(if a2 = (1 : Int32) then
(bd (M_tiesOf G a0 a1) fun r6 =>
some r6)
else
(if a2 = (2 : Int32) then
(bd (M_margin G a0 a1) fun r3 =>
some r3)
else
(bd (M_preferring G a0 a1) fun r1 =>
some r1))))
set_option maxRecDepth 100000 in
set_option maxHeartbeats 4000000 in
theorem cM_resultNow (G : Nat → Nat → Int32) (E : Nat → Nat → Int64) (Dd : Nat → Nat → UInt64) (a0 : Int32) (a1 : Int32) (a2 : Int32) (rv : Int32)  (hf : M_resultNow G a0 a1 a2 = some rv) : sMi D (mT cI cJ cD) (mW ad cI cJ cD) l yX12_resultNow (ws1 yX12_resultNow cX12_resultNow 4 (some .int)) ({ frames := 4, cells := 0, slots := 0, locals := 97 }) [.ref (ad 0), .int a0, .int a1, .int a2] (G, E, Dd) (rv, (G, E, Dd)) := by
  unfold M_resultNow at hf
  refine sMi_of (by decide) (Nat.le_of_ble_eq_true rfl) ?_
  intro p e R s m args below meth c A Q ls H locs F hRf hRl I hl ret
  obtain ⟨hx, hb, hml, hown, hG⟩ := id F
  replace hl : lv_has ls 4 [(0, .ref (ad 0)), (1, .int a0), (2, .int a1), (3, .int a2)] := hl
  refine lv_iload_n hx hb dX12_resultNow_0 rfl (lv_at hl 1 rfl) ?_
  refine lv_iload_n hx hb dX12_resultNow_1 rfl (lv_at hl 2 rfl) ?_
  refine lv_icmp_ne (tgt := 7) hx hb dX12_resultNow_2 (by decide) (fun c12 => ?_) (fun c12 => ?_)
  · replace hf := (if_neg c12).symm.trans hf
    refine lv_iload_n hx hb dX12_resultNow_7 rfl (lv_at hl 3 rfl) ?_
    refine lv_if_ne (tgt := 20) hx hb dX12_resultNow_8 (by decide) (fun c11 => ?_) (fun c11 => ?_)
    · replace hf := (if_neg c11).symm.trans hf
      refine lv_iload_n hx hb dX12_resultNow_20 rfl (lv_at hl 3 rfl) ?_
      refine lv_iconst (v := (1 : Int32)) hx hb dX12_resultNow_21 (by decide) ?_
      refine lv_icmp_ne (tgt := 34) hx hb dX12_resultNow_22 (by decide) (fun c8 => ?_) (fun c8 => ?_)
      · replace hf := (if_neg c8).symm.trans hf
        refine lv_iload_n hx hb dX12_resultNow_34 rfl (lv_at hl 3 rfl) ?_
        refine lv_iconst (v := (2 : Int32)) hx hb dX12_resultNow_35 (by decide) ?_
        refine lv_icmp_ne (tgt := 48) hx hb dX12_resultNow_36 (by decide) (fun c5 => ?_) (fun c5 => ?_)
        · replace hf := (if_neg c5).symm.trans hf
          refine lv_aload_n hx hb dX12_resultNow_48 rfl (lv_at hl 0 rfl) ?_
          refine lv_iload_n hx hb dX12_resultNow_49 rfl (lv_at hl 1 rfl) ?_
          refine lv_iload_n hx hb dX12_resultNow_50 rfl (lv_at hl 2 rfl) ?_
          obtain ⟨r1, h2, hf⟩ := bd_some hf
          refine s_callVi (As := [.int a0, .int a1]) (rest := []) F I (cM_preferring G E Dd a0 a1 r1 h2) kX12_236 ⟨rfl, rfl⟩ ⟨Nat.le_trans (Nat.le_of_ble_eq_true rfl) hRf, Nat.le_trans (Nat.le_of_ble_eq_true rfl) hRl⟩ 0 12 rfl rfl rfl rfl rfl hl.1 (Nat.le_of_ble_eq_true rfl) ⟨Nat.zero_le _, Nat.zero_le _⟩ dX12_resultNow_51 ?_
          intro H locs I
          cases hf
          exact ret H locs _ ls I dX12_resultNow_54
        · replace hf := (if_pos c5).symm.trans hf
          refine lv_aload_n hx hb dX12_resultNow_39 rfl (lv_at hl 0 rfl) ?_
          refine lv_iload_n hx hb dX12_resultNow_40 rfl (lv_at hl 1 rfl) ?_
          refine lv_iload_n hx hb dX12_resultNow_41 rfl (lv_at hl 2 rfl) ?_
          obtain ⟨r3, h4, hf⟩ := bd_some hf
          refine s_callVi (As := [.int a0, .int a1]) (rest := []) F I (cM_margin G E Dd a0 a1 r3 h4) kX12_233 ⟨rfl, rfl⟩ ⟨Nat.le_trans (Nat.le_of_ble_eq_true rfl) hRf, Nat.le_trans (Nat.le_of_ble_eq_true rfl) hRl⟩ 0 12 rfl rfl rfl rfl rfl hl.1 (Nat.le_of_ble_eq_true rfl) ⟨Nat.zero_le _, Nat.zero_le _⟩ dX12_resultNow_42 ?_
          intro H locs I
          refine lv_goto (tgt := 54) hx hb dX12_resultNow_45 (by decide) ?_
          cases hf
          exact ret H locs _ ls I dX12_resultNow_54
      · replace hf := (if_pos c8).symm.trans hf
        refine lv_aload_n hx hb dX12_resultNow_25 rfl (lv_at hl 0 rfl) ?_
        refine lv_iload_n hx hb dX12_resultNow_26 rfl (lv_at hl 1 rfl) ?_
        refine lv_iload_n hx hb dX12_resultNow_27 rfl (lv_at hl 2 rfl) ?_
        obtain ⟨r6, h7, hf⟩ := bd_some hf
        refine s_callVi (As := [.int a0, .int a1]) (rest := []) F I (cM_tiesOf G E Dd a0 a1 r6 h7) kX12_230 ⟨rfl, rfl⟩ ⟨Nat.le_trans (Nat.le_of_ble_eq_true rfl) hRf, Nat.le_trans (Nat.le_of_ble_eq_true rfl) hRl⟩ 0 12 rfl rfl rfl rfl rfl hl.1 (Nat.le_of_ble_eq_true rfl) ⟨Nat.zero_le _, Nat.zero_le _⟩ dX12_resultNow_28 ?_
        intro H locs I
        refine lv_goto (tgt := 54) hx hb dX12_resultNow_31 (by decide) ?_
        cases hf
        exact ret H locs _ ls I dX12_resultNow_54
    · replace hf := (if_pos c11).symm.trans hf
      refine lv_aload_n hx hb dX12_resultNow_11 rfl (lv_at hl 0 rfl) ?_
      refine lv_iload_n hx hb dX12_resultNow_12 rfl (lv_at hl 1 rfl) ?_
      refine lv_iload_n hx hb dX12_resultNow_13 rfl (lv_at hl 2 rfl) ?_
      obtain ⟨r9, h10, hf⟩ := bd_some hf
      refine s_callVi (As := [.int a0, .int a1]) (rest := []) F I (cM_wins G E Dd a0 a1 r9 h10) kX12_227 ⟨rfl, rfl⟩ ⟨Nat.le_trans (Nat.le_of_ble_eq_true rfl) hRf, Nat.le_trans (Nat.le_of_ble_eq_true rfl) hRl⟩ 0 12 rfl rfl rfl rfl rfl hl.1 (Nat.le_of_ble_eq_true rfl) ⟨Nat.zero_le _, Nat.zero_le _⟩ dX12_resultNow_14 ?_
      intro H locs I
      refine lv_goto (tgt := 54) hx hb dX12_resultNow_17 (by decide) ?_
      cases hf
      exact ret H locs _ ls I dX12_resultNow_54
  · replace hf := (if_pos c12).symm.trans hf
    refine lv_iconst (v := (0 : Int32)) hx hb dX12_resultNow_5 (by decide) ?_
    cases hf
    exact ret H locs _ ls I dX12_resultNow_6
def M_result (G : Nat → Nat → Int32) (a0 : Int32) (a1 : Int32) (a2 : Int32) : Option (Int32 × (Nat → Nat → Int32)) :=
bd (M_isSample G a0) fun r1 =>
bd (if r1 = 0 then
(some (1 : Int32))
else
(bd (M_isSample G a1) fun r10 =>
if r10 = 0 then
(some (1 : Int32))
else
(bd (M_within a2 (0 : Int32) (3 : Int32)) fun r12 =>
if r12 = 0 then
(some (2 : Int32))
else
(some (0 : Int32))))) fun x4 =>
nm (wf G 0 x4) fun G5 =>
if G5 0 0 ≤ 0 then
(bd (M_resultNow G5 a0 a1 a2) fun r6 =>
some (r6, G5))
else
(some ((0 : Int32), G5))
set_option maxRecDepth 100000 in
set_option maxHeartbeats 4000000 in
theorem cM_result (G : Nat → Nat → Int32) (E : Nat → Nat → Int64) (Dd : Nat → Nat → UInt64) (a0 : Int32) (a1 : Int32) (a2 : Int32) (rv : Int32) (newG : Nat → Nat → Int32) (hf : M_result G a0 a1 a2 = some (rv, newG)) : sMi D (mT cI cJ cD) (mW ad cI cJ cD) l yX12_result (ws1 yX12_result cX12_result 4 (some .int)) ({ frames := 5, cells := 0, slots := 0, locals := 120 }) [.ref (ad 0), .int a0, .int a1, .int a2] (G, E, Dd) (rv, (newG, E, Dd)) := by
  unfold M_result at hf
  refine sMi_of (by decide) (Nat.le_of_ble_eq_true rfl) ?_
  intro p e R s m args below meth c A Q ls H locs F hRf hRl I hl ret
  obtain ⟨hx, hb, hml, hown, hG⟩ := id F
  replace hl : lv_has ls 4 [(0, .ref (ad 0)), (1, .int a0), (2, .int a1), (3, .int a2)] := hl
  refine lv_aload_n hx hb dX12_result_0 rfl (lv_at hl 0 rfl) ?_
  refine lv_aload_n hx hb dX12_result_1 rfl (lv_at hl 0 rfl) ?_
  refine lv_iload_n hx hb dX12_result_2 rfl (lv_at hl 1 rfl) ?_
  obtain ⟨r1, h2, hf⟩ := bd_some hf
  refine s_callVi (As := [.int a0]) (rest := [.ref (ad 0)]) F I (cM_isSample G E Dd a0 r1 h2) kX12_151 ⟨rfl, rfl⟩ ⟨Nat.le_trans (Nat.le_of_ble_eq_true rfl) hRf, Nat.le_trans (Nat.le_of_ble_eq_true rfl) hRl⟩ 0 12 rfl rfl rfl rfl rfl hl.1 (Nat.le_of_ble_eq_true rfl) ⟨Nat.zero_le _, Nat.zero_le _⟩ dX12_result_3 ?_
  intro H locs I
  obtain ⟨x4, hv9, hf⟩ := bd_some hf
  have J3 : ∀ (H : Heap) (locs : List Loc), sInv D (mT cI cJ cD) (mW ad cI cJ cD) A s H locs (G, E, Dd) → ∀ (ls : Array Slot), lv_has ls 4 [(0, .ref (ad 0)), (1, .int a0), (2, .int a1), (3, .int a2)] → W p l e R s m args below meth c H locs 0 0 Q (F0 m 35 ls [.int x4, .ref (ad 0)]) := by
    intro H locs I ls hl
    refine mptX12_89_0 F I dX12_result_35 ?_
    intro H locs G5 eG5 I
    replace hf := nm_some eG5 hf
    refine lv_aload_n hx hb dX12_result_38 rfl (lv_at hl 0 rfl) ?_
    refine mgtX12_89_0 F I dX12_result_39 ?_
    refine lv_if_le (tgt := 49) hx hb dX12_result_42 (by decide) (fun c8 => ?_) (fun c8 => ?_)
    · replace hf := (if_pos c8).symm.trans hf
      refine lv_aload_n hx hb dX12_result_49 rfl (lv_at hl 0 rfl) ?_
      refine lv_iload_n hx hb dX12_result_50 rfl (lv_at hl 1 rfl) ?_
      refine lv_iload_n hx hb dX12_result_51 rfl (lv_at hl 2 rfl) ?_
      refine lv_iload_n hx hb dX12_result_52 rfl (lv_at hl 3 rfl) ?_
      obtain ⟨r6, h7, hf⟩ := bd_some hf
      refine s_callVi (As := [.int a0, .int a1, .int a2]) (rest := []) F I (cM_resultNow G5 E Dd a0 a1 a2 r6 h7) kX12_239 ⟨rfl, rfl⟩ ⟨Nat.le_trans (Nat.le_of_ble_eq_true rfl) hRf, Nat.le_trans (Nat.le_of_ble_eq_true rfl) hRl⟩ 0 12 rfl rfl rfl rfl rfl hl.1 (Nat.le_of_ble_eq_true rfl) ⟨Nat.zero_le _, Nat.zero_le _⟩ dX12_result_53 ?_
      intro H locs I
      cases hf
      exact ret H locs _ ls I dX12_result_56
    · replace hf := (if_neg c8).symm.trans hf
      refine lv_iconst (v := (0 : Int32)) hx hb dX12_result_45 (by decide) ?_
      refine lv_goto (tgt := 56) hx hb dX12_result_46 (by decide) ?_
      cases hf
      exact ret H locs _ ls I dX12_result_56
  replace hf := hv9
  refine lv_if_eq (tgt := 17) hx hb dX12_result_6 (by decide) (fun c16 => ?_) (fun c16 => ?_)
  · replace hf := (if_pos c16).symm.trans hf
    refine lv_iconst (v := (1 : Int32)) hx hb dX12_result_17 (by decide) ?_
    refine lv_goto (tgt := 35) hx hb dX12_result_18 (by decide) ?_
    cases hf
    exact J3 H locs I ls (lv_sub hl [0, 1, 2, 3] rfl)
  · replace hf := (if_neg c16).symm.trans hf
    refine lv_aload_n hx hb dX12_result_9 rfl (lv_at hl 0 rfl) ?_
    refine lv_iload_n hx hb dX12_result_10 rfl (lv_at hl 2 rfl) ?_
    obtain ⟨r10, h11, hf⟩ := bd_some hf
    refine s_callVi (As := [.int a1]) (rest := [.ref (ad 0)]) F I (cM_isSample G E Dd a1 r10 h11) kX12_151 ⟨rfl, rfl⟩ ⟨Nat.le_trans (Nat.le_of_ble_eq_true rfl) hRf, Nat.le_trans (Nat.le_of_ble_eq_true rfl) hRl⟩ 0 12 rfl rfl rfl rfl rfl hl.1 (Nat.le_of_ble_eq_true rfl) ⟨Nat.zero_le _, Nat.zero_le _⟩ dX12_result_11 ?_
    intro H locs I
    refine lv_if_ne (tgt := 21) hx hb dX12_result_14 (by decide) (fun c15 => ?_) (fun c15 => ?_)
    · replace hf := (if_neg c15).symm.trans hf
      refine lv_iload_n hx hb dX12_result_21 rfl (lv_at hl 3 rfl) ?_
      refine lv_iconst (v := (0 : Int32)) hx hb dX12_result_22 (by decide) ?_
      refine lv_iconst (v := (3 : Int32)) hx hb dX12_result_23 (by decide) ?_
      obtain ⟨r12, h13, hf⟩ := bd_some hf
      refine s_callSi (As := [.int a2, .int (0 : Int32), .int (3 : Int32)]) (rest := [.ref (ad 0)]) F I (cM_within G E Dd a2 (0 : Int32) (3 : Int32) r12 h13) kX12_95 ⟨rfl, rfl⟩ ⟨Nat.le_trans (Nat.le_of_ble_eq_true rfl) hRf, Nat.le_trans (Nat.le_of_ble_eq_true rfl) hRl⟩ rfl rfl hl.1 (Nat.le_of_ble_eq_true rfl) ⟨Nat.zero_le _, Nat.zero_le _⟩ dX12_result_24 ?_
      intro H locs I
      refine lv_if_eq (tgt := 34) hx hb dX12_result_27 (by decide) (fun c14 => ?_) (fun c14 => ?_)
      · replace hf := (if_pos c14).symm.trans hf
        refine lv_iconst (v := (2 : Int32)) hx hb dX12_result_34 (by decide) ?_
        cases hf
        exact J3 H locs I ls (lv_sub hl [0, 1, 2, 3] rfl)
      · replace hf := (if_neg c14).symm.trans hf
        refine lv_iconst (v := (0 : Int32)) hx hb dX12_result_30 (by decide) ?_
        refine lv_goto (tgt := 35) hx hb dX12_result_31 (by decide) ?_
        cases hf
        exact J3 H locs I ls (lv_sub hl [0, 1, 2, 3] rfl)
    · replace hf := (if_pos c15).symm.trans hf
      refine lv_iconst (v := (1 : Int32)) hx hb dX12_result_17 (by decide) ?_
      refine lv_goto (tgt := 35) hx hb dX12_result_18 (by decide) ?_
      cases hf
      exact J3 H locs I ls (lv_sub hl [0, 1, 2, 3] rfl)
def M_pointsWithout_s1 (a0 : Int32) (a1 : Int32) (G : Nat → Nat → Int32) (x1 : Int32) (x2 : Int32) : Option ((Int32 × Int32) ⊕ (Int32)) :=
if G 4 0 ≤ x2 then
(some (.inr x1))
else
(bd (if x2 = a1 then
(some (0 : Int32))
else
(ri 48 x2 <|
if G 6 x2.toNatClampNeg = a0 then
(some (1 : Int32))
else
(ri 48 x2 <|
if G 7 x2.toNatClampNeg = a0 then
(some (1 : Int32))
else
(some (0 : Int32))))) fun x5 =>
ri 48 x2 <|
bd (if G 8 x2.toNatClampNeg = 0 then
(some (1 : Int32))
else
(bd (M_wonBy G x2) fun r18 =>
if r18 = a0 then
(some (2 : Int32))
else
(some (0 : Int32)))) fun x8 =>
bd (if x5 = 0 then
(some (0 : Int32))
else
(ri 48 x2 <|
ri 8 (G 5 x2.toNatClampNeg) <|
some (x8 * (G 3 (G 5 x2.toNatClampNeg).toNatClampNeg)))) fun x10 =>
nm (x1 + x10 : Int32) fun x11 =>
nm (x2 + (1 : Int32) : Int32) fun x12 =>
some (.inl (x11, x12)))
def M_pointsWithout (G : Nat → Nat → Int32) (a0 : Int32) (a1 : Int32) : Option (Int32) :=
bd (lp (fun q => M_pointsWithout_s1 a0 a1 G q.1 q.2) FU ((0 : Int32), (0 : Int32))) fun r3 =>
some r3
set_option maxRecDepth 100000 in
set_option maxHeartbeats 4000000 in
theorem cM_pointsWithout (G : Nat → Nat → Int32) (E : Nat → Nat → Int64) (Dd : Nat → Nat → UInt64) (a0 : Int32) (a1 : Int32) (rv : Int32)  (hf : M_pointsWithout G a0 a1 = some rv) : sMi D (mT cI cJ cD) (mW ad cI cJ cD) l yX12_pointsWithout (ws1 yX12_pointsWithout cX12_pointsWithout 7 (some .int)) ({ frames := 1, cells := 0, slots := 0, locals := 21 }) [.ref (ad 0), .int a0, .int a1] (G, E, Dd) (rv, (G, E, Dd)) := by
  unfold M_pointsWithout at hf
  refine sMi_of (by decide) (Nat.le_of_ble_eq_true rfl) ?_
  intro p e R s m args below meth c A Q ls H locs F hRf hRl I hl ret
  obtain ⟨hx, hb, hml, hown, hG⟩ := id F
  replace hl : lv_has ls 7 [(0, .ref (ad 0)), (1, .int a0), (2, .int a1)] := hl
  refine lv_iconst (v := (0 : Int32)) hx hb dX12_pointsWithout_0 (by decide) ?_
  refine lv_istore_n (lv' := [(3, .int (0 : Int32)), (0, .ref (ad 0)), (1, .int a0), (2, .int a1)]) hx hb dX12_pointsWithout_1 rfl hl (by decide) rfl (fun ls hl => ?_)
  refine lv_iconst (v := (0 : Int32)) hx hb dX12_pointsWithout_2 (by decide) ?_
  refine lv_istore (lv' := [(4, .int (0 : Int32)), (3, .int (0 : Int32)), (0, .ref (ad 0)), (1, .int a0), (2, .int a1)]) hx hb dX12_pointsWithout_3 hl (by decide) rfl (fun ls hl => ?_)
  obtain ⟨r3, hq1, hf⟩ := bd_some hf
  have K1 : ∀ (H : Heap) (locs : List Loc), sInv D (mT cI cJ cD) (mW ad cI cJ cD) A s H locs (G, E, Dd) → ∀ (ls : Array Slot), lv_has ls 7 [(3, .int r3)] → W p l e R s m args below meth c H locs 0 0 Q (F0 m 113 ls []) := by
    intro H locs I ls hl
    refine lv_iload_n hx hb dX12_pointsWithout_113 rfl (lv_at hl 0 rfl) ?_
    cases hf
    exact ret H locs _ ls I dX12_pointsWithout_114
  have L1 : ∀ (n : Nat) (x1 : Int32) (x2 : Int32), lp (fun q => M_pointsWithout_s1 a0 a1 G q.1 q.2) n (x1, x2) = some r3 → ∀ (H : Heap) (locs : List Loc), sInv D (mT cI cJ cD) (mW ad cI cJ cD) A s H locs (G, E, Dd) → ∀ (ls : Array Slot), lv_has ls 7 [(0, .ref (ad 0)), (1, .int a0), (2, .int a1), (3, .int x1), (4, .int x2)] → W p l e R s m args below meth c H locs 0 0 Q (F0 m 5 ls []) := by
    intro n
    induction n with
    | zero => intro x1 x2 hq; exact (lp_0 hq).elim
    | succ n ih1 =>
      intro x1 x2 hq H locs I ls hl
      obtain ⟨y1, hf, hK1⟩ := lp_go hq
      replace hf : M_pointsWithout_s1 a0 a1 G x1 x2 = some y1 := hf
      unfold M_pointsWithout_s1 at hf
      refine lv_iload hx hb dX12_pointsWithout_5 (lv_at hl 4 rfl) ?_
      refine lv_aload_n hx hb dX12_pointsWithout_7 rfl (lv_at hl 0 rfl) ?_
      refine mgtX12_102_0 F I dX12_pointsWithout_8 ?_
      refine lv_icmp_ge (tgt := 113) hx hb dX12_pointsWithout_11 (by decide) (fun c28 => ?_) (fun c28 => ?_)
      · replace hf := (if_pos c28).symm.trans hf
        cases hf
        cases (show x1 = r3 from hK1)
        exact K1 H locs I ls (lv_sub hl [3] rfl)
      · replace hf := (if_neg c28).symm.trans hf
        refine lv_iload hx hb dX12_pointsWithout_14 (lv_at hl 4 rfl) ?_
        refine lv_iload_n hx hb dX12_pointsWithout_16 rfl (lv_at hl 2 rfl) ?_
        obtain ⟨x5, hv22, hf⟩ := bd_some hf
        have J4 : ∀ (H : Heap) (locs : List Loc), sInv D (mT cI cJ cD) (mW ad cI cJ cD) A s H locs (G, E, Dd) → ∀ (ls : Array Slot), lv_has ls 7 [(0, .ref (ad 0)), (1, .int a0), (2, .int a1), (3, .int x1), (4, .int x2)] → W p l e R s m args below meth c H locs 0 0 Q (F0 m 47 ls [.int x5]) := by
          intro H locs I ls hl
          refine lv_istore (lv' := [(5, .int x5), (0, .ref (ad 0)), (1, .int a0), (2, .int a1), (3, .int x1), (4, .int x2)]) hx hb dX12_pointsWithout_47 hl (by decide) rfl (fun ls hl => ?_)
          refine lv_aload_n hx hb dX12_pointsWithout_49 rfl (lv_at hl 1 rfl) ?_
          refine mgtX12_22_0 F I dX12_pointsWithout_50 ?_
          refine lv_iload hx hb dX12_pointsWithout_53 (lv_at hl 5 rfl) ?_
          obtain ⟨g6, hf⟩ := ri_some hf
          refine mal5 F I g6 dX12_pointsWithout_55 ?_
          obtain ⟨x8, hv17, hf⟩ := bd_some hf
          have J7 : ∀ (H : Heap) (locs : List Loc), sInv D (mT cI cJ cD) (mW ad cI cJ cD) A s H locs (G, E, Dd) → ∀ (ls : Array Slot), lv_has ls 7 [(0, .ref (ad 0)), (1, .int a0), (2, .int a1), (3, .int x1), (4, .int x2), (5, .int x5)] → W p l e R s m args below meth c H locs 0 0 Q (F0 m 78 ls [.int x8]) := by
            intro H locs I ls hl
            refine lv_istore (lv' := [(6, .int x8), (0, .ref (ad 0)), (1, .int a0), (2, .int a1), (3, .int x1), (4, .int x2), (5, .int x5)]) hx hb dX12_pointsWithout_78 hl (by decide) rfl (fun ls hl => ?_)
            refine lv_iload_n hx hb dX12_pointsWithout_80 rfl (lv_at hl 4 rfl) ?_
            refine lv_iload hx hb dX12_pointsWithout_81 (lv_at hl 6 rfl) ?_
            obtain ⟨x10, hv13, hf⟩ := bd_some hf
            have J9 : ∀ (H : Heap) (locs : List Loc), sInv D (mT cI cJ cD) (mW ad cI cJ cD) A s H locs (G, E, Dd) → ∀ (ls : Array Slot), lv_has ls 7 [(0, .ref (ad 0)), (1, .int a0), (2, .int a1), (4, .int x2)] → W p l e R s m args below meth c H locs 0 0 Q (F0 m 105 ls [.int x10, .int x1]) := by
              intro H locs I ls hl
              refine lv_iadd hx hb dX12_pointsWithout_105 ?_
              refine lv_topi (fun x11 ex11 => ?_)
              replace hf := nm_some ex11 hf
              refine lv_istore_n (lv' := [(3, .int x11), (0, .ref (ad 0)), (1, .int a0), (2, .int a1), (4, .int x2)]) hx hb dX12_pointsWithout_106 rfl hl (by decide) rfl (fun ls hl => ?_)
              obtain ⟨x12, ex12⟩ : ∃ y : Int32, y = x2 + (1 : Int32) := ⟨_, rfl⟩
              replace hf := nm_some ex12 hf
              refine lv_iinc (v := x12) (lv' := [(4, .int x12), (3, .int x11), (0, .ref (ad 0)), (1, .int a0), (2, .int a1)]) hx hb dX12_pointsWithout_107 hl (k := 4) rfl (by rw [ex12]; rfl) (by decide) rfl (fun ls hl => ?_)
              refine lv_goto (tgt := 5) hx hb dX12_pointsWithout_110 (by decide) ?_
              cases hf
              exact ih1 _ _ hK1 H locs I ls (lv_sub hl [2, 3, 4, 1, 0] rfl)
            replace hf := hv13
            refine lv_if_eq (tgt := 104) hx hb dX12_pointsWithout_83 (by decide) (fun c16 => ?_) (fun c16 => ?_)
            · replace hf := (if_pos c16).symm.trans hf
              refine lv_iconst (v := (0 : Int32)) hx hb dX12_pointsWithout_104 (by decide) ?_
              cases hf
              exact J9 H locs I ls (lv_sub hl [1, 2, 3, 5] rfl)
            · replace hf := (if_neg c16).symm.trans hf
              refine lv_iload hx hb dX12_pointsWithout_86 (lv_at hl 0 rfl) ?_
              refine lv_aload_n hx hb dX12_pointsWithout_88 rfl (lv_at hl 1 rfl) ?_
              refine mgtX12_7_0 F I dX12_pointsWithout_89 ?_
              refine lv_aload_n hx hb dX12_pointsWithout_92 rfl (lv_at hl 1 rfl) ?_
              refine mgtX12_13_0 F I dX12_pointsWithout_93 ?_
              refine lv_iload hx hb dX12_pointsWithout_96 (lv_at hl 5 rfl) ?_
              obtain ⟨g14, hf⟩ := ri_some hf
              refine mal2 F I g14 dX12_pointsWithout_98 ?_
              obtain ⟨g15, hf⟩ := ri_some hf
              refine mal1 F I g15 dX12_pointsWithout_99 ?_
              refine lv_imul hx hb dX12_pointsWithout_100 ?_
              refine lv_goto (tgt := 105) hx hb dX12_pointsWithout_101 (by decide) ?_
              cases hf
              exact J9 H locs I ls (lv_sub hl [1, 2, 3, 5] rfl)
          replace hf := hv17
          refine lv_if_ne (tgt := 63) hx hb dX12_pointsWithout_56 (by decide) (fun c21 => ?_) (fun c21 => ?_)
          · replace hf := (if_neg c21).symm.trans hf
            refine lv_aload_n hx hb dX12_pointsWithout_63 rfl (lv_at hl 1 rfl) ?_
            refine lv_iload hx hb dX12_pointsWithout_64 (lv_at hl 5 rfl) ?_
            obtain ⟨r18, h19, hf⟩ := bd_some hf
            refine s_callVi (As := [.int x2]) (rest := []) F I (cM_wonBy G E Dd x2 r18 h19) kX12_217 ⟨rfl, rfl⟩ ⟨Nat.le_trans (Nat.le_of_ble_eq_true rfl) hRf, Nat.le_trans (Nat.le_of_ble_eq_true rfl) hRl⟩ 0 12 rfl rfl rfl rfl rfl hl.1 (Nat.le_of_ble_eq_true rfl) ⟨Nat.zero_le _, Nat.zero_le _⟩ dX12_pointsWithout_66 ?_
            intro H locs I
            refine lv_iload_n hx hb dX12_pointsWithout_69 rfl (lv_at hl 2 rfl) ?_
            refine lv_icmp_ne (tgt := 77) hx hb dX12_pointsWithout_70 (by decide) (fun c20 => ?_) (fun c20 => ?_)
            · replace hf := (if_neg c20).symm.trans hf
              refine lv_iconst (v := (0 : Int32)) hx hb dX12_pointsWithout_77 (by decide) ?_
              cases hf
              exact J7 H locs I ls (lv_sub hl [1, 2, 3, 4, 5, 0] rfl)
            · replace hf := (if_pos c20).symm.trans hf
              refine lv_iconst (v := (2 : Int32)) hx hb dX12_pointsWithout_73 (by decide) ?_
              refine lv_goto (tgt := 78) hx hb dX12_pointsWithout_74 (by decide) ?_
              cases hf
              exact J7 H locs I ls (lv_sub hl [1, 2, 3, 4, 5, 0] rfl)
          · replace hf := (if_pos c21).symm.trans hf
            refine lv_iconst (v := (1 : Int32)) hx hb dX12_pointsWithout_59 (by decide) ?_
            refine lv_goto (tgt := 78) hx hb dX12_pointsWithout_60 (by decide) ?_
            cases hf
            exact J7 H locs I ls (lv_sub hl [1, 2, 3, 4, 5, 0] rfl)
        replace hf := hv22
        refine lv_icmp_eq (tgt := 46) hx hb dX12_pointsWithout_17 (by decide) (fun c27 => ?_) (fun c27 => ?_)
        · replace hf := (if_pos c27).symm.trans hf
          refine lv_iconst (v := (0 : Int32)) hx hb dX12_pointsWithout_46 (by decide) ?_
          cases hf
          exact J4 H locs I ls (lv_sub hl [0, 1, 2, 3, 4] rfl)
        · replace hf := (if_neg c27).symm.trans hf
          refine lv_aload_n hx hb dX12_pointsWithout_20 rfl (lv_at hl 0 rfl) ?_
          refine mgtX12_16_0 F I dX12_pointsWithout_21 ?_
          refine lv_iload hx hb dX12_pointsWithout_24 (lv_at hl 4 rfl) ?_
          obtain ⟨g23, hf⟩ := ri_some hf
          refine mal3 F I g23 dX12_pointsWithout_26 ?_
          refine lv_iload_n hx hb dX12_pointsWithout_27 rfl (lv_at hl 1 rfl) ?_
          refine lv_icmp_eq (tgt := 42) hx hb dX12_pointsWithout_28 (by decide) (fun c26 => ?_) (fun c26 => ?_)
          · replace hf := (if_pos c26).symm.trans hf
            refine lv_iconst (v := (1 : Int32)) hx hb dX12_pointsWithout_42 (by decide) ?_
            refine lv_goto (tgt := 47) hx hb dX12_pointsWithout_43 (by decide) ?_
            cases hf
            exact J4 H locs I ls (lv_sub hl [0, 1, 2, 3, 4] rfl)
          · replace hf := (if_neg c26).symm.trans hf
            refine lv_aload_n hx hb dX12_pointsWithout_31 rfl (lv_at hl 0 rfl) ?_
            refine mgtX12_19_0 F I dX12_pointsWithout_32 ?_
            refine lv_iload hx hb dX12_pointsWithout_35 (lv_at hl 4 rfl) ?_
            obtain ⟨g24, hf⟩ := ri_some hf
            refine mal4 F I g24 dX12_pointsWithout_37 ?_
            refine lv_iload_n hx hb dX12_pointsWithout_38 rfl (lv_at hl 1 rfl) ?_
            refine lv_icmp_ne (tgt := 46) hx hb dX12_pointsWithout_39 (by decide) (fun c25 => ?_) (fun c25 => ?_)
            · replace hf := (if_neg c25).symm.trans hf
              refine lv_iconst (v := (0 : Int32)) hx hb dX12_pointsWithout_46 (by decide) ?_
              cases hf
              exact J4 H locs I ls (lv_sub hl [0, 1, 2, 3, 4] rfl)
            · replace hf := (if_pos c25).symm.trans hf
              refine lv_iconst (v := (1 : Int32)) hx hb dX12_pointsWithout_42 (by decide) ?_
              refine lv_goto (tgt := 47) hx hb dX12_pointsWithout_43 (by decide) ?_
              cases hf
              exact J4 H locs I ls (lv_sub hl [0, 1, 2, 3, 4] rfl)
  exact L1 FU _ _ hq1 H locs I ls (lv_sub hl [2, 3, 4, 1, 0] rfl)
def M_rankWithout_s1 (a1 : Int32) (r1 : Int32) (G : Nat → Nat → Int32) (x3 : Int32) (x4 : Int32) : Option ((Int32 × Int32) ⊕ (Int32)) :=
if G 1 0 ≤ x4 then
(some (.inr x3))
else
(bd (M_pointsWithout G x4 a1) fun r6 =>
bd (if r6 ≤ r1 then
(some (0 : Int32))
else
(some (1 : Int32))) fun x9 =>
nm (x3 + x9 : Int32) fun x10 =>
nm (x4 + (1 : Int32) : Int32) fun x11 =>
some (.inl (x10, x11)))
def M_rankWithout (G : Nat → Nat → Int32) (a0 : Int32) (a1 : Int32) : Option (Int32) :=
bd (M_pointsWithout G a0 a1) fun r1 =>
bd (lp (fun q => M_rankWithout_s1 a1 r1 G q.1 q.2) FU ((1 : Int32), (0 : Int32))) fun r5 =>
some r5
set_option maxRecDepth 100000 in
set_option maxHeartbeats 4000000 in
theorem cM_rankWithout (G : Nat → Nat → Int32) (E : Nat → Nat → Int64) (Dd : Nat → Nat → UInt64) (a0 : Int32) (a1 : Int32) (rv : Int32)  (hf : M_rankWithout G a0 a1 = some rv) : sMi D (mT cI cJ cD) (mW ad cI cJ cD) l yX12_rankWithout (ws1 yX12_rankWithout cX12_rankWithout 6 (some .int)) ({ frames := 2, cells := 0, slots := 0, locals := 47 }) [.ref (ad 0), .int a0, .int a1] (G, E, Dd) (rv, (G, E, Dd)) := by
  unfold M_rankWithout at hf
  refine sMi_of (by decide) (Nat.le_of_ble_eq_true rfl) ?_
  intro p e R s m args below meth c A Q ls H locs F hRf hRl I hl ret
  obtain ⟨hx, hb, hml, hown, hG⟩ := id F
  replace hl : lv_has ls 6 [(0, .ref (ad 0)), (1, .int a0), (2, .int a1)] := hl
  refine lv_iconst (v := (1 : Int32)) hx hb dX12_rankWithout_0 (by decide) ?_
  refine lv_istore_n (lv' := [(3, .int (1 : Int32)), (0, .ref (ad 0)), (1, .int a0), (2, .int a1)]) hx hb dX12_rankWithout_1 rfl hl (by decide) rfl (fun ls hl => ?_)
  refine lv_aload_n hx hb dX12_rankWithout_2 rfl (lv_at hl 1 rfl) ?_
  refine lv_iload_n hx hb dX12_rankWithout_3 rfl (lv_at hl 2 rfl) ?_
  refine lv_iload_n hx hb dX12_rankWithout_4 rfl (lv_at hl 3 rfl) ?_
  obtain ⟨r1, h2, hf⟩ := bd_some hf
  refine s_callVi (As := [.int a0, .int a1]) (rest := []) F I (cM_pointsWithout G E Dd a0 a1 r1 h2) kX12_243 ⟨rfl, rfl⟩ ⟨Nat.le_trans (Nat.le_of_ble_eq_true rfl) hRf, Nat.le_trans (Nat.le_of_ble_eq_true rfl) hRl⟩ 0 12 rfl rfl rfl rfl rfl hl.1 (Nat.le_of_ble_eq_true rfl) ⟨Nat.zero_le _, Nat.zero_le _⟩ dX12_rankWithout_5 ?_
  intro H locs I
  refine lv_istore (lv' := [(4, .int r1), (3, .int (1 : Int32)), (0, .ref (ad 0)), (1, .int a0), (2, .int a1)]) hx hb dX12_rankWithout_8 hl (by decide) rfl (fun ls hl => ?_)
  refine lv_iconst (v := (0 : Int32)) hx hb dX12_rankWithout_10 (by decide) ?_
  refine lv_istore (lv' := [(5, .int (0 : Int32)), (4, .int r1), (3, .int (1 : Int32)), (0, .ref (ad 0)), (1, .int a0), (2, .int a1)]) hx hb dX12_rankWithout_11 hl (by decide) rfl (fun ls hl => ?_)
  obtain ⟨r5, hq1, hf⟩ := bd_some hf
  have K1 : ∀ (H : Heap) (locs : List Loc), sInv D (mT cI cJ cD) (mW ad cI cJ cD) A s H locs (G, E, Dd) → ∀ (ls : Array Slot), lv_has ls 6 [(3, .int r5)] → W p l e R s m args below meth c H locs 0 0 Q (F0 m 48 ls []) := by
    intro H locs I ls hl
    refine lv_iload_n hx hb dX12_rankWithout_48 rfl (lv_at hl 0 rfl) ?_
    cases hf
    exact ret H locs _ ls I dX12_rankWithout_49
  have L1 : ∀ (n : Nat) (x3 : Int32) (x4 : Int32), lp (fun q => M_rankWithout_s1 a1 r1 G q.1 q.2) n (x3, x4) = some r5 → ∀ (H : Heap) (locs : List Loc), sInv D (mT cI cJ cD) (mW ad cI cJ cD) A s H locs (G, E, Dd) → ∀ (ls : Array Slot), lv_has ls 6 [(0, .ref (ad 0)), (2, .int a1), (3, .int x3), (4, .int r1), (5, .int x4)] → W p l e R s m args below meth c H locs 0 0 Q (F0 m 13 ls []) := by
    intro n
    induction n with
    | zero => intro x3 x4 hq; exact (lp_0 hq).elim
    | succ n ih1 =>
      intro x3 x4 hq H locs I ls hl
      obtain ⟨y1, hf, hK1⟩ := lp_go hq
      replace hf : M_rankWithout_s1 a1 r1 G x3 x4 = some y1 := hf
      unfold M_rankWithout_s1 at hf
      refine lv_iload hx hb dX12_rankWithout_13 (lv_at hl 4 rfl) ?_
      refine lv_aload_n hx hb dX12_rankWithout_15 rfl (lv_at hl 0 rfl) ?_
      refine mgtX12_92_0 F I dX12_rankWithout_16 ?_
      refine lv_icmp_ge (tgt := 48) hx hb dX12_rankWithout_19 (by decide) (fun c14 => ?_) (fun c14 => ?_)
      · replace hf := (if_pos c14).symm.trans hf
        cases hf
        cases (show x3 = r5 from hK1)
        exact K1 H locs I ls (lv_sub hl [2] rfl)
      · replace hf := (if_neg c14).symm.trans hf
        refine lv_iload_n hx hb dX12_rankWithout_22 rfl (lv_at hl 2 rfl) ?_
        refine lv_aload_n hx hb dX12_rankWithout_23 rfl (lv_at hl 0 rfl) ?_
        refine lv_iload hx hb dX12_rankWithout_24 (lv_at hl 4 rfl) ?_
        refine lv_iload_n hx hb dX12_rankWithout_26 rfl (lv_at hl 1 rfl) ?_
        obtain ⟨r6, h7, hf⟩ := bd_some hf
        refine s_callVi (As := [.int x4, .int a1]) (rest := [.int x3]) F I (cM_pointsWithout G E Dd x4 a1 r6 h7) kX12_243 ⟨rfl, rfl⟩ ⟨Nat.le_trans (Nat.le_of_ble_eq_true rfl) hRf, Nat.le_trans (Nat.le_of_ble_eq_true rfl) hRl⟩ 0 12 rfl rfl rfl rfl rfl hl.1 (Nat.le_of_ble_eq_true rfl) ⟨Nat.zero_le _, Nat.zero_le _⟩ dX12_rankWithout_27 ?_
        intro H locs I
        refine lv_iload hx hb dX12_rankWithout_30 (lv_at hl 3 rfl) ?_
        obtain ⟨x9, hv12, hf⟩ := bd_some hf
        have J8 : ∀ (H : Heap) (locs : List Loc), sInv D (mT cI cJ cD) (mW ad cI cJ cD) A s H locs (G, E, Dd) → ∀ (ls : Array Slot), lv_has ls 6 [(0, .ref (ad 0)), (2, .int a1), (4, .int r1), (5, .int x4)] → W p l e R s m args below meth c H locs 0 0 Q (F0 m 40 ls [.int x9, .int x3]) := by
          intro H locs I ls hl
          refine lv_iadd hx hb dX12_rankWithout_40 ?_
          refine lv_topi (fun x10 ex10 => ?_)
          replace hf := nm_some ex10 hf
          refine lv_istore_n (lv' := [(3, .int x10), (0, .ref (ad 0)), (2, .int a1), (4, .int r1), (5, .int x4)]) hx hb dX12_rankWithout_41 rfl hl (by decide) rfl (fun ls hl => ?_)
          obtain ⟨x11, ex11⟩ : ∃ y : Int32, y = x4 + (1 : Int32) := ⟨_, rfl⟩
          replace hf := nm_some ex11 hf
          refine lv_iinc (v := x11) (lv' := [(5, .int x11), (3, .int x10), (0, .ref (ad 0)), (2, .int a1), (4, .int r1)]) hx hb dX12_rankWithout_42 hl (k := 4) rfl (by rw [ex11]; rfl) (by decide) rfl (fun ls hl => ?_)
          refine lv_goto (tgt := 13) hx hb dX12_rankWithout_45 (by decide) ?_
          cases hf
          exact ih1 _ _ hK1 H locs I ls (lv_sub hl [2, 3, 1, 4, 0] rfl)
        replace hf := hv12
        refine lv_icmp_le (tgt := 39) hx hb dX12_rankWithout_32 (by decide) (fun c13 => ?_) (fun c13 => ?_)
        · replace hf := (if_pos c13).symm.trans hf
          refine lv_iconst (v := (0 : Int32)) hx hb dX12_rankWithout_39 (by decide) ?_
          cases hf
          exact J8 H locs I ls (lv_sub hl [0, 1, 3, 4] rfl)
        · replace hf := (if_neg c13).symm.trans hf
          refine lv_iconst (v := (1 : Int32)) hx hb dX12_rankWithout_35 (by decide) ?_
          refine lv_goto (tgt := 40) hx hb dX12_rankWithout_36 (by decide) ?_
          cases hf
          exact J8 H locs I ls (lv_sub hl [0, 1, 3, 4] rfl)
  exact L1 FU _ _ hq1 H locs I ls (lv_sub hl [3, 5, 2, 1, 0] rfl)
def M_isStable_s1 (a0 : Int32) (r1 : Int32) (G : Nat → Nat → Int32) (x3 : Int32) (x4 : Int32) : Option ((Int32 × Int32) ⊕ (Int32)) :=
if G 4 0 ≤ x4 then
(some (.inr x3))
else
(bd (if x3 = 0 then
(some (0 : Int32))
else
(bd (M_rankWithout G a0 x4) fun r11 =>
if r11 = r1 then
(some (1 : Int32))
else
(some (0 : Int32)))) fun x8 =>
nm (x4 + (1 : Int32) : Int32) fun x9 =>
some (.inl (x8, x9)))
def M_isStable (G : Nat → Nat → Int32) (a0 : Int32) : Option (Int32) :=
bd (M_rankWithout G a0 (-1 : Int32)) fun r1 =>
bd (lp (fun q => M_isStable_s1 a0 r1 G q.1 q.2) FU ((1 : Int32), (0 : Int32))) fun r5 =>
gd (r5 = 0 ∨ r5 = 1) <|
some r5
set_option maxRecDepth 100000 in
set_option maxHeartbeats 4000000 in
theorem cM_isStable (G : Nat → Nat → Int32) (E : Nat → Nat → Int64) (Dd : Nat → Nat → UInt64) (a0 : Int32) (rv : Int32)  (hf : M_isStable G a0 = some rv) : sMi D (mT cI cJ cD) (mW ad cI cJ cD) l yX12_isStable (ws1 yX12_isStable cX12_isStable 5 (some .boolean)) ({ frames := 3, cells := 0, slots := 0, locals := 72 }) [.ref (ad 0), .int a0] (G, E, Dd) (rv, (G, E, Dd)) := by
  unfold M_isStable at hf
  refine sMz_of (by decide) (Nat.le_of_ble_eq_true rfl) ?_
  intro p e R s m args below meth c A Q ls H locs F hRf hRl I hl ret
  obtain ⟨hx, hb, hml, hown, hG⟩ := id F
  replace hl : lv_has ls 5 [(0, .ref (ad 0)), (1, .int a0)] := hl
  refine lv_aload_n hx hb dX12_isStable_0 rfl (lv_at hl 0 rfl) ?_
  refine lv_iload_n hx hb dX12_isStable_1 rfl (lv_at hl 1 rfl) ?_
  refine lv_iconst (v := (-1 : Int32)) hx hb dX12_isStable_2 (by decide) ?_
  obtain ⟨r1, h2, hf⟩ := bd_some hf
  refine s_callVi (As := [.int a0, .int (-1 : Int32)]) (rest := []) F I (cM_rankWithout G E Dd a0 (-1 : Int32) r1 h2) kX12_246 ⟨rfl, rfl⟩ ⟨Nat.le_trans (Nat.le_of_ble_eq_true rfl) hRf, Nat.le_trans (Nat.le_of_ble_eq_true rfl) hRl⟩ 0 12 rfl rfl rfl rfl rfl hl.1 (Nat.le_of_ble_eq_true rfl) ⟨Nat.zero_le _, Nat.zero_le _⟩ dX12_isStable_3 ?_
  intro H locs I
  refine lv_istore_n (lv' := [(2, .int r1), (0, .ref (ad 0)), (1, .int a0)]) hx hb dX12_isStable_6 rfl hl (by decide) rfl (fun ls hl => ?_)
  refine lv_iconst (v := (1 : Int32)) hx hb dX12_isStable_7 (by decide) ?_
  refine lv_istore_n (lv' := [(3, .int (1 : Int32)), (2, .int r1), (0, .ref (ad 0)), (1, .int a0)]) hx hb dX12_isStable_8 rfl hl (by decide) rfl (fun ls hl => ?_)
  refine lv_iconst (v := (0 : Int32)) hx hb dX12_isStable_9 (by decide) ?_
  refine lv_istore (lv' := [(4, .int (0 : Int32)), (3, .int (1 : Int32)), (2, .int r1), (0, .ref (ad 0)), (1, .int a0)]) hx hb dX12_isStable_10 hl (by decide) rfl (fun ls hl => ?_)
  obtain ⟨r5, hq1, hf⟩ := bd_some hf
  have K1 : ∀ (H : Heap) (locs : List Loc), sInv D (mT cI cJ cD) (mW ad cI cJ cD) A s H locs (G, E, Dd) → ∀ (ls : Array Slot), lv_has ls 5 [(3, .int r5)] → W p l e R s m args below meth c H locs 0 0 Q (F0 m 48 ls []) := by
    intro H locs I ls hl
    refine lv_iload_n hx hb dX12_isStable_48 rfl (lv_at hl 0 rfl) ?_
    obtain ⟨g6, hf⟩ := gd_some hf
    cases hf
    exact ret H locs _ ls I g6 dX12_isStable_49
  have L1 : ∀ (n : Nat) (x3 : Int32) (x4 : Int32), lp (fun q => M_isStable_s1 a0 r1 G q.1 q.2) n (x3, x4) = some r5 → ∀ (H : Heap) (locs : List Loc), sInv D (mT cI cJ cD) (mW ad cI cJ cD) A s H locs (G, E, Dd) → ∀ (ls : Array Slot), lv_has ls 5 [(0, .ref (ad 0)), (1, .int a0), (2, .int r1), (3, .int x3), (4, .int x4)] → W p l e R s m args below meth c H locs 0 0 Q (F0 m 12 ls []) := by
    intro n
    induction n with
    | zero => intro x3 x4 hq; exact (lp_0 hq).elim
    | succ n ih1 =>
      intro x3 x4 hq H locs I ls hl
      obtain ⟨y1, hf, hK1⟩ := lp_go hq
      replace hf : M_isStable_s1 a0 r1 G x3 x4 = some y1 := hf
      unfold M_isStable_s1 at hf
      refine lv_iload hx hb dX12_isStable_12 (lv_at hl 4 rfl) ?_
      refine lv_aload_n hx hb dX12_isStable_14 rfl (lv_at hl 0 rfl) ?_
      refine mgtX12_102_0 F I dX12_isStable_15 ?_
      refine lv_icmp_ge (tgt := 48) hx hb dX12_isStable_18 (by decide) (fun c15 => ?_) (fun c15 => ?_)
      · replace hf := (if_pos c15).symm.trans hf
        cases hf
        cases (show x3 = r5 from hK1)
        exact K1 H locs I ls (lv_sub hl [3] rfl)
      · replace hf := (if_neg c15).symm.trans hf
        refine lv_iload_n hx hb dX12_isStable_21 rfl (lv_at hl 3 rfl) ?_
        obtain ⟨x8, hv10, hf⟩ := bd_some hf
        have J7 : ∀ (H : Heap) (locs : List Loc), sInv D (mT cI cJ cD) (mW ad cI cJ cD) A s H locs (G, E, Dd) → ∀ (ls : Array Slot), lv_has ls 5 [(0, .ref (ad 0)), (1, .int a0), (2, .int r1), (4, .int x4)] → W p l e R s m args below meth c H locs 0 0 Q (F0 m 41 ls [.int x8]) := by
          intro H locs I ls hl
          refine lv_istore_n (lv' := [(3, .int x8), (0, .ref (ad 0)), (1, .int a0), (2, .int r1), (4, .int x4)]) hx hb dX12_isStable_41 rfl hl (by decide) rfl (fun ls hl => ?_)
          obtain ⟨x9, ex9⟩ : ∃ y : Int32, y = x4 + (1 : Int32) := ⟨_, rfl⟩
          replace hf := nm_some ex9 hf
          refine lv_iinc (v := x9) (lv' := [(4, .int x9), (3, .int x8), (0, .ref (ad 0)), (1, .int a0), (2, .int r1)]) hx hb dX12_isStable_42 hl (k := 4) rfl (by rw [ex9]; rfl) (by decide) rfl (fun ls hl => ?_)
          refine lv_goto (tgt := 12) hx hb dX12_isStable_45 (by decide) ?_
          cases hf
          exact ih1 _ _ hK1 H locs I ls (lv_sub hl [2, 3, 4, 1, 0] rfl)
        replace hf := hv10
        refine lv_if_eq (tgt := 40) hx hb dX12_isStable_22 (by decide) (fun c14 => ?_) (fun c14 => ?_)
        · replace hf := (if_pos c14).symm.trans hf
          refine lv_iconst (v := (0 : Int32)) hx hb dX12_isStable_40 (by decide) ?_
          cases hf
          exact J7 H locs I ls (lv_sub hl [0, 1, 2, 4] rfl)
        · replace hf := (if_neg c14).symm.trans hf
          refine lv_aload_n hx hb dX12_isStable_25 rfl (lv_at hl 0 rfl) ?_
          refine lv_iload_n hx hb dX12_isStable_26 rfl (lv_at hl 1 rfl) ?_
          refine lv_iload hx hb dX12_isStable_27 (lv_at hl 4 rfl) ?_
          obtain ⟨r11, h12, hf⟩ := bd_some hf
          refine s_callVi (As := [.int a0, .int x4]) (rest := []) F I (cM_rankWithout G E Dd a0 x4 r11 h12) kX12_246 ⟨rfl, rfl⟩ ⟨Nat.le_trans (Nat.le_of_ble_eq_true rfl) hRf, Nat.le_trans (Nat.le_of_ble_eq_true rfl) hRl⟩ 0 12 rfl rfl rfl rfl rfl hl.1 (Nat.le_of_ble_eq_true rfl) ⟨Nat.zero_le _, Nat.zero_le _⟩ dX12_isStable_29 ?_
          intro H locs I
          refine lv_iload_n hx hb dX12_isStable_32 rfl (lv_at hl 2 rfl) ?_
          refine lv_icmp_ne (tgt := 40) hx hb dX12_isStable_33 (by decide) (fun c13 => ?_) (fun c13 => ?_)
          · replace hf := (if_neg c13).symm.trans hf
            refine lv_iconst (v := (0 : Int32)) hx hb dX12_isStable_40 (by decide) ?_
            cases hf
            exact J7 H locs I ls (lv_sub hl [0, 1, 2, 4] rfl)
          · replace hf := (if_pos c13).symm.trans hf
            refine lv_iconst (v := (1 : Int32)) hx hb dX12_isStable_36 (by decide) ?_
            refine lv_goto (tgt := 41) hx hb dX12_isStable_37 (by decide) ?_
            cases hf
            exact J7 H locs I ls (lv_sub hl [0, 1, 2, 4] rfl)
  exact L1 FU _ _ hq1 H locs I ls (lv_sub hl [3, 4, 2, 1, 0] rfl)
def M_layMargins_s1  (x1 : Int32) (G2 : Nat → Nat → Int32) : Option ((Int32 × (Nat → Nat → Int32)) ⊕ ((Nat → Nat → Int32))) :=
if (G2 1 0) * (G2 1 0) ≤ x1 then
(some (.inr G2))
else
(gd (¬ G2 1 0 = 0) <|
nm (x1 / (G2 1 0) : Int32) fun x5 =>
gd (¬ G2 1 0 = 0) <|
nm (x1 - x1 / (G2 1 0) * (G2 1 0) : Int32) fun x7 =>
bd (if x5 = x7 then
(some (0 : Int32))
else
(bd (M_margin G2 x5 x7) fun r14 =>
some r14)) fun x9 =>
ri 64 (((8 : Int32) * x5) + x7) <|
nm (wr G2 29 (((8 : Int32) * x5) + x7) x9) fun G11 =>
nm (x1 + (1 : Int32) : Int32) fun x12 =>
some (.inl (x12, G11)))
def M_layMargins (G : Nat → Nat → Int32) : Option ((Nat → Nat → Int32)) :=
bd (lp (fun q => M_layMargins_s1 q.1 q.2) FU ((0 : Int32), G)) fun G3 =>
some G3
set_option maxRecDepth 100000 in
set_option maxHeartbeats 4000000 in
theorem cM_layMargins (G : Nat → Nat → Int32) (E : Nat → Nat → Int64) (Dd : Nat → Nat → UInt64)   (newG : Nat → Nat → Int32) (hf : M_layMargins G = some newG) : sMv D (mT cI cJ cD) (mW ad cI cJ cD) l yX12_layMargins (ws1 yX12_layMargins cX12_layMargins 4 none) ({ frames := 3, cells := 0, slots := 0, locals := 72 }) [.ref (ad 0)] (G, E, Dd) (newG, E, Dd) := by
  unfold M_layMargins at hf
  refine sMv_of (by decide) (Nat.le_of_ble_eq_true rfl) ?_
  intro p e R s m args below meth c A Q ls H locs F hRf hRl I hl ret
  obtain ⟨hx, hb, hml, hown, hG⟩ := id F
  replace hl : lv_has ls 4 [(0, .ref (ad 0))] := hl
  refine lv_iconst (v := (0 : Int32)) hx hb dX12_layMargins_0 (by decide) ?_
  refine lv_istore_n (lv' := [(1, .int (0 : Int32)), (0, .ref (ad 0))]) hx hb dX12_layMargins_1 rfl hl (by decide) rfl (fun ls hl => ?_)
  obtain ⟨G3, hq1, hf⟩ := bd_some hf
  have K1 : ∀ (H : Heap) (locs : List Loc), sInv D (mT cI cJ cD) (mW ad cI cJ cD) A s H locs (G3, E, Dd) → ∀ (ls : Array Slot), lv_has ls 4 [] → W p l e R s m args below meth c H locs 0 0 Q (F0 m 61 ls []) := by
    intro H locs I ls hl
    cases hf
    exact ret H locs _ ls I dX12_layMargins_61
  have L1 : ∀ (n : Nat) (x1 : Int32) (G2 : Nat → Nat → Int32), lp (fun q => M_layMargins_s1 q.1 q.2) n (x1, G2) = some G3 → ∀ (H : Heap) (locs : List Loc), sInv D (mT cI cJ cD) (mW ad cI cJ cD) A s H locs (G2, E, Dd) → ∀ (ls : Array Slot), lv_has ls 4 [(0, .ref (ad 0)), (1, .int x1)] → W p l e R s m args below meth c H locs 0 0 Q (F0 m 2 ls []) := by
    intro n
    induction n with
    | zero => intro x1 G2 hq; exact (lp_0 hq).elim
    | succ n ih1 =>
      intro x1 G2 hq H locs I ls hl
      obtain ⟨y1, hf, hK1⟩ := lp_go hq
      replace hf : M_layMargins_s1 x1 G2 = some y1 := hf
      unfold M_layMargins_s1 at hf
      refine lv_iload_n hx hb dX12_layMargins_2 rfl (lv_at hl 1 rfl) ?_
      refine lv_aload_n hx hb dX12_layMargins_3 rfl (lv_at hl 0 rfl) ?_
      refine mgtX12_92_0 F I dX12_layMargins_4 ?_
      refine lv_aload_n hx hb dX12_layMargins_7 rfl (lv_at hl 0 rfl) ?_
      refine mgtX12_92_0 F I dX12_layMargins_8 ?_
      refine lv_imul hx hb dX12_layMargins_11 ?_
      refine lv_icmp_ge (tgt := 61) hx hb dX12_layMargins_12 (by decide) (fun c17 => ?_) (fun c17 => ?_)
      · replace hf := (if_pos c17).symm.trans hf
        cases hf
        cases (show G2 = G3 from hK1)
        exact K1 H locs I ls (lv_sub hl [] rfl)
      · replace hf := (if_neg c17).symm.trans hf
        refine lv_iload_n hx hb dX12_layMargins_15 rfl (lv_at hl 1 rfl) ?_
        refine lv_aload_n hx hb dX12_layMargins_16 rfl (lv_at hl 0 rfl) ?_
        refine mgtX12_92_0 F I dX12_layMargins_17 ?_
        obtain ⟨g4, hf⟩ := gd_some hf
        refine lv_idiv hx hb dX12_layMargins_20 g4 ?_
        refine lv_topi (fun x5 ex5 => ?_)
        replace hf := nm_some ex5 hf
        refine lv_istore_n (lv' := [(2, .int x5), (0, .ref (ad 0)), (1, .int x1)]) hx hb dX12_layMargins_21 rfl hl (by decide) rfl (fun ls hl => ?_)
        refine lv_iload_n hx hb dX12_layMargins_22 rfl (lv_at hl 2 rfl) ?_
        refine lv_aload_n hx hb dX12_layMargins_23 rfl (lv_at hl 1 rfl) ?_
        refine mgtX12_92_0 F I dX12_layMargins_24 ?_
        obtain ⟨g6, hf⟩ := gd_some hf
        refine lv_irem hx hb dX12_layMargins_27 g6 ?_
        refine lv_topi (fun x7 ex7 => ?_)
        replace hf := nm_some ex7 hf
        refine lv_istore_n (lv' := [(3, .int x7), (2, .int x5), (0, .ref (ad 0)), (1, .int x1)]) hx hb dX12_layMargins_28 rfl hl (by decide) rfl (fun ls hl => ?_)
        refine lv_aload_n hx hb dX12_layMargins_29 rfl (lv_at hl 2 rfl) ?_
        refine mgtX12_56_0 F I dX12_layMargins_30 ?_
        refine lv_bipush (v := (8 : Int32)) hx hb dX12_layMargins_33 (by decide) ?_
        refine lv_iload_n hx hb dX12_layMargins_35 rfl (lv_at hl 1 rfl) ?_
        refine lv_imul hx hb dX12_layMargins_36 ?_
        refine lv_iload_n hx hb dX12_layMargins_37 rfl (lv_at hl 0 rfl) ?_
        refine lv_iadd hx hb dX12_layMargins_38 ?_
        refine lv_iload_n hx hb dX12_layMargins_39 rfl (lv_at hl 1 rfl) ?_
        refine lv_iload_n hx hb dX12_layMargins_40 rfl (lv_at hl 0 rfl) ?_
        obtain ⟨x9, hv13, hf⟩ := bd_some hf
        have J8 : ∀ (H : Heap) (locs : List Loc), sInv D (mT cI cJ cD) (mW ad cI cJ cD) A s H locs (G2, E, Dd) → ∀ (ls : Array Slot), lv_has ls 4 [(0, .ref (ad 0)), (1, .int x1)] → W p l e R s m args below meth c H locs 0 0 Q (F0 m 54 ls [.int x9, .int (((8 : Int32) * x5) + x7), .ref (ad 15)]) := by
          intro H locs I ls hl
          obtain ⟨g10, hf⟩ := ri_some hf
          refine mas15 F I g10 dX12_layMargins_54 ?_
          intro H locs G11 eG11 I
          replace hf := nm_some eG11 hf
          obtain ⟨x12, ex12⟩ : ∃ y : Int32, y = x1 + (1 : Int32) := ⟨_, rfl⟩
          replace hf := nm_some ex12 hf
          refine lv_iinc (v := x12) (lv' := [(1, .int x12), (0, .ref (ad 0))]) hx hb dX12_layMargins_55 hl (k := 1) rfl (by rw [ex12]; rfl) (by decide) rfl (fun ls hl => ?_)
          refine lv_goto (tgt := 2) hx hb dX12_layMargins_58 (by decide) ?_
          cases hf
          exact ih1 _ _ hK1 H locs I ls (lv_sub hl [1, 0] rfl)
        replace hf := hv13
        refine lv_icmp_ne (tgt := 48) hx hb dX12_layMargins_41 (by decide) (fun c16 => ?_) (fun c16 => ?_)
        · replace hf := (if_neg c16).symm.trans hf
          refine lv_aload_n hx hb dX12_layMargins_48 rfl (lv_at hl 2 rfl) ?_
          refine lv_iload_n hx hb dX12_layMargins_49 rfl (lv_at hl 1 rfl) ?_
          refine lv_iload_n hx hb dX12_layMargins_50 rfl (lv_at hl 0 rfl) ?_
          obtain ⟨r14, h15, hf⟩ := bd_some hf
          refine s_callVi (As := [.int x5, .int x7]) (rest := [.int (((8 : Int32) * x5) + x7), .ref (ad 15)]) F I (cM_margin G2 E Dd x5 x7 r14 h15) kX12_233 ⟨rfl, rfl⟩ ⟨Nat.le_trans (Nat.le_of_ble_eq_true rfl) hRf, Nat.le_trans (Nat.le_of_ble_eq_true rfl) hRl⟩ 0 12 rfl rfl rfl rfl rfl hl.1 (Nat.le_of_ble_eq_true rfl) ⟨Nat.zero_le _, Nat.zero_le _⟩ dX12_layMargins_51 ?_
          intro H locs I
          cases hf
          exact J8 H locs I ls (lv_sub hl [2, 3] rfl)
        · replace hf := (if_pos c16).symm.trans hf
          refine lv_iconst (v := (0 : Int32)) hx hb dX12_layMargins_44 (by decide) ?_
          refine lv_goto (tgt := 54) hx hb dX12_layMargins_45 (by decide) ?_
          cases hf
          exact J8 H locs I ls (lv_sub hl [2, 3] rfl)
  exact L1 FU _ _ hq1 H locs I ls (lv_sub hl [1, 0] rfl)
end Meth
