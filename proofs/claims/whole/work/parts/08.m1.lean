section Meth
variable {D : va_G} {l : Launch} {ad : Nat → Nat} {cI cJ cD : ClassId}
def M_beats (G : Nat → Nat → Int32) (a0 : Int32) (a1 : Int32) : Option (Int32) :=
ri 64 (((8 : Int32) * a0) + a1) <|
if G 29 (((8 : Int32) * a0) + a1).toNatClampNeg ≤ 0 then
(some (0 : Int32))
else
(some (1 : Int32))
set_option maxRecDepth 100000 in
set_option maxHeartbeats 4000000 in
theorem cM_beats (G : Nat → Nat → Int32) (E : Nat → Nat → Int64) (Dd : Nat → Nat → UInt64) (a0 : Int32) (a1 : Int32) (rv : Int32)  (hf : M_beats G a0 a1 = some rv) : sMi D (mT cI cJ cD) (mW ad cI cJ cD) l yX12_beats (ws1 yX12_beats cX12_beats 3 (some .boolean)) ({ frames := 0, cells := 0, slots := 0, locals := 0 }) [.ref (ad 0), .int a0, .int a1] (G, E, Dd) (rv, (G, E, Dd)) := by
  unfold M_beats at hf
  refine sMz_of (by decide) (Nat.le_of_ble_eq_true rfl) ?_
  intro p e R s m args below meth c A Q ls H locs F hRf hRl I hl ret
  obtain ⟨hx, hb, hml, hown, hG⟩ := id F
  replace hl : lv_has ls 3 [(0, .ref (ad 0)), (1, .int a0), (2, .int a1)] := hl
  refine lv_aload_n hx hb dX12_beats_0 rfl (lv_at hl 0 rfl) ?_
  refine mgtX12_56_0 F I dX12_beats_1 ?_
  refine lv_bipush (v := (8 : Int32)) hx hb dX12_beats_4 (by decide) ?_
  refine lv_iload_n hx hb dX12_beats_6 rfl (lv_at hl 1 rfl) ?_
  refine lv_imul hx hb dX12_beats_7 ?_
  refine lv_iload_n hx hb dX12_beats_8 rfl (lv_at hl 2 rfl) ?_
  refine lv_iadd hx hb dX12_beats_9 ?_
  obtain ⟨g1, hf⟩ := ri_some hf
  refine mal15 F I g1 dX12_beats_10 ?_
  refine lv_if_le (tgt := 18) hx hb dX12_beats_11 (by decide) (fun c2 => ?_) (fun c2 => ?_)
  · replace hf := (if_pos c2).symm.trans hf
    refine lv_iconst (v := (0 : Int32)) hx hb dX12_beats_18 (by decide) ?_
    cases hf
    exact ret H locs _ ls I (Or.inl rfl) dX12_beats_19
  · replace hf := (if_neg c2).symm.trans hf
    refine lv_iconst (v := (1 : Int32)) hx hb dX12_beats_14 (by decide) ?_
    refine lv_goto (tgt := 19) hx hb dX12_beats_15 (by decide) ?_
    cases hf
    exact ret H locs _ ls I (Or.inr rfl) dX12_beats_19
def M_dominance_s1 (a0 : Int32) (G : Nat → Nat → Int32) (x1 : Int32) (x2 : Int32) : Option ((Int32 × Int32) ⊕ (Int32)) :=
if G 1 0 ≤ x2 then
(some (.inr x1))
else
(bd (M_beats G a0 x2) fun r4 =>
bd (if r4 = 0 then
(bd (M_beats G x2 a0) fun r11 =>
if r11 = 0 then
(some (0 : Int32))
else
(some (-1 : Int32)))
else
(some (1 : Int32))) fun x7 =>
nm (x1 + x7 : Int32) fun x8 =>
nm (x2 + (1 : Int32) : Int32) fun x9 =>
some (.inl (x8, x9)))
def M_dominance (G : Nat → Nat → Int32) (a0 : Int32) : Option (Int32) :=
bd (lp (fun q => M_dominance_s1 a0 G q.1 q.2) FU ((0 : Int32), (0 : Int32))) fun r3 =>
some r3
set_option maxRecDepth 100000 in
set_option maxHeartbeats 4000000 in
theorem cM_dominance (G : Nat → Nat → Int32) (E : Nat → Nat → Int64) (Dd : Nat → Nat → UInt64) (a0 : Int32) (rv : Int32)  (hf : M_dominance G a0 = some rv) : sMi D (mT cI cJ cD) (mW ad cI cJ cD) l yX12_dominance (ws1 yX12_dominance cX12_dominance 4 (some .int)) ({ frames := 1, cells := 0, slots := 0, locals := 22 }) [.ref (ad 0), .int a0] (G, E, Dd) (rv, (G, E, Dd)) := by
  unfold M_dominance at hf
  refine sMi_of (by decide) (Nat.le_of_ble_eq_true rfl) ?_
  intro p e R s m args below meth c A Q ls H locs F hRf hRl I hl ret
  obtain ⟨hx, hb, hml, hown, hG⟩ := id F
  replace hl : lv_has ls 4 [(0, .ref (ad 0)), (1, .int a0)] := hl
  refine lv_iconst (v := (0 : Int32)) hx hb dX12_dominance_0 (by decide) ?_
  refine lv_istore_n (lv' := [(2, .int (0 : Int32)), (0, .ref (ad 0)), (1, .int a0)]) hx hb dX12_dominance_1 rfl hl (by decide) rfl (fun ls hl => ?_)
  refine lv_iconst (v := (0 : Int32)) hx hb dX12_dominance_2 (by decide) ?_
  refine lv_istore_n (lv' := [(3, .int (0 : Int32)), (2, .int (0 : Int32)), (0, .ref (ad 0)), (1, .int a0)]) hx hb dX12_dominance_3 rfl hl (by decide) rfl (fun ls hl => ?_)
  obtain ⟨r3, hq1, hf⟩ := bd_some hf
  have K1 : ∀ (H : Heap) (locs : List Loc), sInv D (mT cI cJ cD) (mW ad cI cJ cD) A s H locs (G, E, Dd) → ∀ (ls : Array Slot), lv_has ls 4 [(2, .int r3)] → W p l e R s m args below meth c H locs 0 0 Q (F0 m 48 ls []) := by
    intro H locs I ls hl
    refine lv_iload_n hx hb dX12_dominance_48 rfl (lv_at hl 0 rfl) ?_
    cases hf
    exact ret H locs _ ls I dX12_dominance_49
  have L1 : ∀ (n : Nat) (x1 : Int32) (x2 : Int32), lp (fun q => M_dominance_s1 a0 G q.1 q.2) n (x1, x2) = some r3 → ∀ (H : Heap) (locs : List Loc), sInv D (mT cI cJ cD) (mW ad cI cJ cD) A s H locs (G, E, Dd) → ∀ (ls : Array Slot), lv_has ls 4 [(0, .ref (ad 0)), (1, .int a0), (2, .int x1), (3, .int x2)] → W p l e R s m args below meth c H locs 0 0 Q (F0 m 4 ls []) := by
    intro n
    induction n with
    | zero => intro x1 x2 hq; exact (lp_0 hq).elim
    | succ n ih1 =>
      intro x1 x2 hq H locs I ls hl
      obtain ⟨y1, hf, hK1⟩ := lp_go hq
      replace hf : M_dominance_s1 a0 G x1 x2 = some y1 := hf
      unfold M_dominance_s1 at hf
      refine lv_iload_n hx hb dX12_dominance_4 rfl (lv_at hl 3 rfl) ?_
      refine lv_aload_n hx hb dX12_dominance_5 rfl (lv_at hl 0 rfl) ?_
      refine mgtX12_92_0 F I dX12_dominance_6 ?_
      refine lv_icmp_ge (tgt := 48) hx hb dX12_dominance_9 (by decide) (fun c15 => ?_) (fun c15 => ?_)
      · replace hf := (if_pos c15).symm.trans hf
        cases hf
        cases (show x1 = r3 from hK1)
        exact K1 H locs I ls (lv_sub hl [2] rfl)
      · replace hf := (if_neg c15).symm.trans hf
        refine lv_iload_n hx hb dX12_dominance_12 rfl (lv_at hl 2 rfl) ?_
        refine lv_aload_n hx hb dX12_dominance_13 rfl (lv_at hl 0 rfl) ?_
        refine lv_iload_n hx hb dX12_dominance_14 rfl (lv_at hl 1 rfl) ?_
        refine lv_iload_n hx hb dX12_dominance_15 rfl (lv_at hl 3 rfl) ?_
        obtain ⟨r4, h5, hf⟩ := bd_some hf
        refine s_callVi (As := [.int a0, .int x2]) (rest := [.int x1]) F I (cM_beats G E Dd a0 x2 r4 h5) kX12_249 ⟨rfl, rfl⟩ ⟨Nat.le_trans (Nat.le_of_ble_eq_true rfl) hRf, Nat.le_trans (Nat.le_of_ble_eq_true rfl) hRl⟩ 0 12 rfl rfl rfl rfl rfl hl.1 (Nat.le_of_ble_eq_true rfl) ⟨Nat.zero_le _, Nat.zero_le _⟩ dX12_dominance_16 ?_
        intro H locs I
        obtain ⟨x7, hv10, hf⟩ := bd_some hf
        have J6 : ∀ (H : Heap) (locs : List Loc), sInv D (mT cI cJ cD) (mW ad cI cJ cD) A s H locs (G, E, Dd) → ∀ (ls : Array Slot), lv_has ls 4 [(0, .ref (ad 0)), (1, .int a0), (3, .int x2)] → W p l e R s m args below meth c H locs 0 0 Q (F0 m 40 ls [.int x7, .int x1]) := by
          intro H locs I ls hl
          refine lv_iadd hx hb dX12_dominance_40 ?_
          refine lv_topi (fun x8 ex8 => ?_)
          replace hf := nm_some ex8 hf
          refine lv_istore_n (lv' := [(2, .int x8), (0, .ref (ad 0)), (1, .int a0), (3, .int x2)]) hx hb dX12_dominance_41 rfl hl (by decide) rfl (fun ls hl => ?_)
          obtain ⟨x9, ex9⟩ : ∃ y : Int32, y = x2 + (1 : Int32) := ⟨_, rfl⟩
          replace hf := nm_some ex9 hf
          refine lv_iinc (v := x9) (lv' := [(3, .int x9), (2, .int x8), (0, .ref (ad 0)), (1, .int a0)]) hx hb dX12_dominance_42 hl (k := 3) rfl (by rw [ex9]; rfl) (by decide) rfl (fun ls hl => ?_)
          refine lv_goto (tgt := 4) hx hb dX12_dominance_45 (by decide) ?_
          cases hf
          exact ih1 _ _ hK1 H locs I ls (lv_sub hl [2, 3, 1, 0] rfl)
        replace hf := hv10
        refine lv_if_eq (tgt := 26) hx hb dX12_dominance_19 (by decide) (fun c14 => ?_) (fun c14 => ?_)
        · replace hf := (if_pos c14).symm.trans hf
          refine lv_aload_n hx hb dX12_dominance_26 rfl (lv_at hl 0 rfl) ?_
          refine lv_iload_n hx hb dX12_dominance_27 rfl (lv_at hl 3 rfl) ?_
          refine lv_iload_n hx hb dX12_dominance_28 rfl (lv_at hl 1 rfl) ?_
          obtain ⟨r11, h12, hf⟩ := bd_some hf
          refine s_callVi (As := [.int x2, .int a0]) (rest := [.int x1]) F I (cM_beats G E Dd x2 a0 r11 h12) kX12_249 ⟨rfl, rfl⟩ ⟨Nat.le_trans (Nat.le_of_ble_eq_true rfl) hRf, Nat.le_trans (Nat.le_of_ble_eq_true rfl) hRl⟩ 0 12 rfl rfl rfl rfl rfl hl.1 (Nat.le_of_ble_eq_true rfl) ⟨Nat.zero_le _, Nat.zero_le _⟩ dX12_dominance_29 ?_
          intro H locs I
          refine lv_if_eq (tgt := 39) hx hb dX12_dominance_32 (by decide) (fun c13 => ?_) (fun c13 => ?_)
          · replace hf := (if_pos c13).symm.trans hf
            refine lv_iconst (v := (0 : Int32)) hx hb dX12_dominance_39 (by decide) ?_
            cases hf
            exact J6 H locs I ls (lv_sub hl [0, 1, 3] rfl)
          · replace hf := (if_neg c13).symm.trans hf
            refine lv_iconst (v := (-1 : Int32)) hx hb dX12_dominance_35 (by decide) ?_
            refine lv_goto (tgt := 40) hx hb dX12_dominance_36 (by decide) ?_
            cases hf
            exact J6 H locs I ls (lv_sub hl [0, 1, 3] rfl)
        · replace hf := (if_neg c14).symm.trans hf
          refine lv_iconst (v := (1 : Int32)) hx hb dX12_dominance_22 (by decide) ?_
          refine lv_goto (tgt := 40) hx hb dX12_dominance_23 (by decide) ?_
          cases hf
          exact J6 H locs I ls (lv_sub hl [0, 1, 3] rfl)
  exact L1 FU _ _ hq1 H locs I ls (lv_sub hl [2, 3, 1, 0] rfl)
def M_size_s1 (a0 : Int32) (x1 : Int32) (x2 : Int32) : Option ((Int32 × Int32) ⊕ (Int32)) :=
if (8 : Int32) ≤ x2 then
(some (.inr x1))
else
(nm (x1 + ((a0 >>> (x2 &&& 31)) &&& (1 : Int32)) : Int32) fun x4 =>
nm (x2 + (1 : Int32) : Int32) fun x5 =>
some (.inl (x4, x5)))
def M_size (a0 : Int32) : Option (Int32) :=
bd (lp (fun q => M_size_s1 a0 q.1 q.2) FU ((0 : Int32), (0 : Int32))) fun r3 =>
some r3
set_option maxRecDepth 100000 in
set_option maxHeartbeats 4000000 in
theorem cM_size (G : Nat → Nat → Int32) (E : Nat → Nat → Int64) (Dd : Nat → Nat → UInt64) (a0 : Int32) (rv : Int32)  (hf : M_size a0 = some rv) : sMi D (mT cI cJ cD) (mW ad cI cJ cD) l yX12_size (ws1 yX12_size cX12_size 3 (some .int)) ({ frames := 0, cells := 0, slots := 0, locals := 0 }) [.int a0] (G, E, Dd) (rv, (G, E, Dd)) := by
  unfold M_size at hf
  refine sMi_of (by decide) (Nat.le_of_ble_eq_true rfl) ?_
  intro p e R s m args below meth c A Q ls H locs F hRf hRl I hl ret
  obtain ⟨hx, hb, hml, hown, hG⟩ := id F
  replace hl : lv_has ls 3 [(0, .int a0)] := hl
  refine lv_iconst (v := (0 : Int32)) hx hb dX12_size_0 (by decide) ?_
  refine lv_istore_n (lv' := [(1, .int (0 : Int32)), (0, .int a0)]) hx hb dX12_size_1 rfl hl (by decide) rfl (fun ls hl => ?_)
  refine lv_iconst (v := (0 : Int32)) hx hb dX12_size_2 (by decide) ?_
  refine lv_istore_n (lv' := [(2, .int (0 : Int32)), (1, .int (0 : Int32)), (0, .int a0)]) hx hb dX12_size_3 rfl hl (by decide) rfl (fun ls hl => ?_)
  obtain ⟨r3, hq1, hf⟩ := bd_some hf
  have K1 : ∀ (H : Heap) (locs : List Loc), sInv D (mT cI cJ cD) (mW ad cI cJ cD) A s H locs (G, E, Dd) → ∀ (ls : Array Slot), lv_has ls 3 [(1, .int r3)] → W p l e R s m args below meth c H locs 0 0 Q (F0 m 24 ls []) := by
    intro H locs I ls hl
    refine lv_iload_n hx hb dX12_size_24 rfl (lv_at hl 0 rfl) ?_
    cases hf
    exact ret H locs _ ls I dX12_size_25
  have L1 : ∀ (n : Nat) (x1 : Int32) (x2 : Int32), lp (fun q => M_size_s1 a0 q.1 q.2) n (x1, x2) = some r3 → ∀ (H : Heap) (locs : List Loc), sInv D (mT cI cJ cD) (mW ad cI cJ cD) A s H locs (G, E, Dd) → ∀ (ls : Array Slot), lv_has ls 3 [(0, .int a0), (1, .int x1), (2, .int x2)] → W p l e R s m args below meth c H locs 0 0 Q (F0 m 4 ls []) := by
    intro n
    induction n with
    | zero => intro x1 x2 hq; exact (lp_0 hq).elim
    | succ n ih1 =>
      intro x1 x2 hq H locs I ls hl
      obtain ⟨y1, hf, hK1⟩ := lp_go hq
      replace hf : M_size_s1 a0 x1 x2 = some y1 := hf
      unfold M_size_s1 at hf
      refine lv_iload_n hx hb dX12_size_4 rfl (lv_at hl 2 rfl) ?_
      refine lv_bipush (v := (8 : Int32)) hx hb dX12_size_5 (by decide) ?_
      refine lv_icmp_ge (tgt := 24) hx hb dX12_size_7 (by decide) (fun c6 => ?_) (fun c6 => ?_)
      · replace hf := (if_pos c6).symm.trans hf
        cases hf
        cases (show x1 = r3 from hK1)
        exact K1 H locs I ls (lv_sub hl [1] rfl)
      · replace hf := (if_neg c6).symm.trans hf
        refine lv_iload_n hx hb dX12_size_10 rfl (lv_at hl 1 rfl) ?_
        refine lv_iload_n hx hb dX12_size_11 rfl (lv_at hl 0 rfl) ?_
        refine lv_iload_n hx hb dX12_size_12 rfl (lv_at hl 2 rfl) ?_
        refine lv_ishr hx hb dX12_size_13 ?_
        refine lv_iconst (v := (1 : Int32)) hx hb dX12_size_14 (by decide) ?_
        refine lv_iand hx hb dX12_size_15 ?_
        refine lv_iadd hx hb dX12_size_16 ?_
        refine lv_topi (fun x4 ex4 => ?_)
        replace hf := nm_some ex4 hf
        refine lv_istore_n (lv' := [(1, .int x4), (0, .int a0), (2, .int x2)]) hx hb dX12_size_17 rfl hl (by decide) rfl (fun ls hl => ?_)
        obtain ⟨x5, ex5⟩ : ∃ y : Int32, y = x2 + (1 : Int32) := ⟨_, rfl⟩
        replace hf := nm_some ex5 hf
        refine lv_iinc (v := x5) (lv' := [(2, .int x5), (1, .int x4), (0, .int a0)]) hx hb dX12_size_18 hl (k := 2) rfl (by rw [ex5]; rfl) (by decide) rfl (fun ls hl => ?_)
        refine lv_goto (tgt := 4) hx hb dX12_size_21 (by decide) ?_
        cases hf
        exact ih1 _ _ hK1 H locs I ls (lv_sub hl [2, 1, 0] rfl)
  exact L1 FU _ _ hq1 H locs I ls (lv_sub hl [2, 1, 0] rfl)
def M_isTop_s2 (a0 : Int32) (a1 : Int32) (x4 : Int32) (G : Nat → Nat → Int32) (x7 : Int32) (x8 : Int32) : Option ((Int32 × Int32) ⊕ (Int32)) :=
if G 1 0 ≤ x8 then
(some (.inr x7))
else
(bd (if (a0 >>> (x4 &&& 31)) &&& (1 : Int32) = (1 : Int32) then
(if (a1 &&& (a0 ^^^ (-1 : Int32))) &&& ((1 : Int32) <<< (x8 &&& 31)) = 0 then
(some (0 : Int32))
else
(some (1 : Int32)))
else
(some (0 : Int32))) fun x12 =>
bd (if x7 = 0 then
(some (0 : Int32))
else
(if x12 = 0 then
(some (1 : Int32))
else
(bd (M_beats G x4 x8) fun r17 =>
if r17 = 0 then
(some (0 : Int32))
else
(some (1 : Int32))))) fun x14 =>
nm (x8 + (1 : Int32) : Int32) fun x15 =>
some (.inl (x14, x15)))
def M_isTop_s1 (a0 : Int32) (a1 : Int32) (G : Nat → Nat → Int32) (x3 : Int32) (x4 : Int32) : Option ((Int32 × Int32) ⊕ (Int32)) :=
if G 1 0 ≤ x4 then
(some (.inr x3))
else
(if x3 = 0 then
(some (.inr x3))
else
(bd (lp (fun q => M_isTop_s2 a0 a1 x4 G q.1 q.2) FU (x3, (0 : Int32))) fun r9 =>
nm (x4 + (1 : Int32) : Int32) fun x10 =>
some (.inl (r9, x10))))
def M_isTop (G : Nat → Nat → Int32) (a0 : Int32) (a1 : Int32) : Option (Int32) :=
bd (if a0 = 0 then
(some (0 : Int32))
else
(if a0 &&& (a1 ^^^ (-1 : Int32)) = 0 then
(some (1 : Int32))
else
(some (0 : Int32)))) fun x2 =>
bd (lp (fun q => M_isTop_s1 a0 a1 G q.1 q.2) FU (x2, (0 : Int32))) fun r5 =>
gd (r5 = 0 ∨ r5 = 1) <|
some r5
set_option maxRecDepth 100000 in
set_option maxHeartbeats 4000000 in
theorem cM_isTop (G : Nat → Nat → Int32) (E : Nat → Nat → Int64) (Dd : Nat → Nat → UInt64) (a0 : Int32) (a1 : Int32) (rv : Int32)  (hf : M_isTop G a0 a1 = some rv) : sMi D (mT cI cJ cD) (mW ad cI cJ cD) l yX12_isTop (ws1 yX12_isTop cX12_isTop 7 (some .boolean)) ({ frames := 1, cells := 0, slots := 0, locals := 22 }) [.ref (ad 0), .int a0, .int a1] (G, E, Dd) (rv, (G, E, Dd)) := by
  unfold M_isTop at hf
  refine sMz_of (by decide) (Nat.le_of_ble_eq_true rfl) ?_
  intro p e R s m args below meth c A Q ls H locs F hRf hRl I hl ret
  obtain ⟨hx, hb, hml, hown, hG⟩ := id F
  replace hl : lv_has ls 7 [(0, .ref (ad 0)), (1, .int a0), (2, .int a1)] := hl
  refine lv_iload_n hx hb dX12_isTop_0 rfl (lv_at hl 1 rfl) ?_
  obtain ⟨x2, hv28, hf⟩ := bd_some hf
  have J1 : ∀ (H : Heap) (locs : List Loc), sInv D (mT cI cJ cD) (mW ad cI cJ cD) A s H locs (G, E, Dd) → ∀ (ls : Array Slot), lv_has ls 7 [(0, .ref (ad 0)), (1, .int a0), (2, .int a1)] → W p l e R s m args below meth c H locs 0 0 Q (F0 m 17 ls [.int x2]) := by
    intro H locs I ls hl
    refine lv_istore_n (lv' := [(3, .int x2), (0, .ref (ad 0)), (1, .int a0), (2, .int a1)]) hx hb dX12_isTop_17 rfl hl (by decide) rfl (fun ls hl => ?_)
    refine lv_iconst (v := (0 : Int32)) hx hb dX12_isTop_18 (by decide) ?_
    refine lv_istore (lv' := [(4, .int (0 : Int32)), (3, .int x2), (0, .ref (ad 0)), (1, .int a0), (2, .int a1)]) hx hb dX12_isTop_19 hl (by decide) rfl (fun ls hl => ?_)
    obtain ⟨r5, hq1, hf⟩ := bd_some hf
    have K1 : ∀ (H : Heap) (locs : List Loc), sInv D (mT cI cJ cD) (mW ad cI cJ cD) A s H locs (G, E, Dd) → ∀ (ls : Array Slot), lv_has ls 7 [(3, .int r5)] → W p l e R s m args below meth c H locs 0 0 Q (F0 m 114 ls []) := by
      intro H locs I ls hl
      refine lv_iload_n hx hb dX12_isTop_114 rfl (lv_at hl 0 rfl) ?_
      obtain ⟨g6, hf⟩ := gd_some hf
      cases hf
      exact ret H locs _ ls I g6 dX12_isTop_115
    have L1 : ∀ (n : Nat) (x3 : Int32) (x4 : Int32), lp (fun q => M_isTop_s1 a0 a1 G q.1 q.2) n (x3, x4) = some r5 → ∀ (H : Heap) (locs : List Loc), sInv D (mT cI cJ cD) (mW ad cI cJ cD) A s H locs (G, E, Dd) → ∀ (ls : Array Slot), lv_has ls 7 [(0, .ref (ad 0)), (1, .int a0), (2, .int a1), (3, .int x3), (4, .int x4)] → W p l e R s m args below meth c H locs 0 0 Q (F0 m 21 ls []) := by
      intro n
      induction n with
      | zero => intro x3 x4 hq; exact (lp_0 hq).elim
      | succ n ih1 =>
        intro x3 x4 hq H locs I ls hl
        obtain ⟨y1, hf, hK1⟩ := lp_go hq
        replace hf : M_isTop_s1 a0 a1 G x3 x4 = some y1 := hf
        unfold M_isTop_s1 at hf
        refine lv_iload hx hb dX12_isTop_21 (lv_at hl 4 rfl) ?_
        refine lv_aload_n hx hb dX12_isTop_23 rfl (lv_at hl 0 rfl) ?_
        refine mgtX12_92_0 F I dX12_isTop_24 ?_
        refine lv_icmp_ge (tgt := 114) hx hb dX12_isTop_27 (by decide) (fun c27 => ?_) (fun c27 => ?_)
        · replace hf := (if_pos c27).symm.trans hf
          cases hf
          cases (show x3 = r5 from hK1)
          exact K1 H locs I ls (lv_sub hl [3] rfl)
        · replace hf := (if_neg c27).symm.trans hf
          refine lv_iload_n hx hb dX12_isTop_30 rfl (lv_at hl 3 rfl) ?_
          refine lv_if_eq (tgt := 114) hx hb dX12_isTop_31 (by decide) (fun c26 => ?_) (fun c26 => ?_)
          · replace hf := (if_pos c26).symm.trans hf
            cases hf
            cases (show x3 = r5 from hK1)
            exact K1 H locs I ls (lv_sub hl [3] rfl)
          · replace hf := (if_neg c26).symm.trans hf
            refine lv_iconst (v := (0 : Int32)) hx hb dX12_isTop_34 (by decide) ?_
            refine lv_istore (lv' := [(5, .int (0 : Int32)), (0, .ref (ad 0)), (1, .int a0), (2, .int a1), (3, .int x3), (4, .int x4)]) hx hb dX12_isTop_35 hl (by decide) rfl (fun ls hl => ?_)
            obtain ⟨r9, hq2, hf⟩ := bd_some hf
            have K2 : ∀ (H : Heap) (locs : List Loc), sInv D (mT cI cJ cD) (mW ad cI cJ cD) A s H locs (G, E, Dd) → ∀ (ls : Array Slot), lv_has ls 7 [(0, .ref (ad 0)), (1, .int a0), (2, .int a1), (3, .int r9), (4, .int x4)] → W p l e R s m args below meth c H locs 0 0 Q (F0 m 108 ls []) := by
              intro H locs I ls hl
              obtain ⟨x10, ex10⟩ : ∃ y : Int32, y = x4 + (1 : Int32) := ⟨_, rfl⟩
              replace hf := nm_some ex10 hf
              refine lv_iinc (v := x10) (lv' := [(4, .int x10), (0, .ref (ad 0)), (1, .int a0), (2, .int a1), (3, .int r9)]) hx hb dX12_isTop_108 hl (k := 4) rfl (by rw [ex10]; rfl) (by decide) rfl (fun ls hl => ?_)
              refine lv_goto (tgt := 21) hx hb dX12_isTop_111 (by decide) ?_
              cases hf
              exact ih1 _ _ hK1 H locs I ls (lv_sub hl [1, 2, 3, 4, 0] rfl)
            have L2 : ∀ (n : Nat) (x7 : Int32) (x8 : Int32), lp (fun q => M_isTop_s2 a0 a1 x4 G q.1 q.2) n (x7, x8) = some r9 → ∀ (H : Heap) (locs : List Loc), sInv D (mT cI cJ cD) (mW ad cI cJ cD) A s H locs (G, E, Dd) → ∀ (ls : Array Slot), lv_has ls 7 [(0, .ref (ad 0)), (1, .int a0), (2, .int a1), (3, .int x7), (4, .int x4), (5, .int x8)] → W p l e R s m args below meth c H locs 0 0 Q (F0 m 37 ls []) := by
              intro n
              induction n with
              | zero => intro x7 x8 hq; exact (lp_0 hq).elim
              | succ n ih2 =>
                intro x7 x8 hq H locs I ls hl
                obtain ⟨y2, hf, hK2⟩ := lp_go hq
                replace hf : M_isTop_s2 a0 a1 x4 G x7 x8 = some y2 := hf
                unfold M_isTop_s2 at hf
                refine lv_iload hx hb dX12_isTop_37 (lv_at hl 5 rfl) ?_
                refine lv_aload_n hx hb dX12_isTop_39 rfl (lv_at hl 0 rfl) ?_
                refine mgtX12_92_0 F I dX12_isTop_40 ?_
                refine lv_icmp_ge (tgt := 108) hx hb dX12_isTop_43 (by decide) (fun c25 => ?_) (fun c25 => ?_)
                · replace hf := (if_pos c25).symm.trans hf
                  cases hf
                  cases (show x7 = r9 from hK2)
                  exact K2 H locs I ls (lv_sub hl [0, 1, 2, 3, 4] rfl)
                · replace hf := (if_neg c25).symm.trans hf
                  refine lv_iload_n hx hb dX12_isTop_46 rfl (lv_at hl 1 rfl) ?_
                  refine lv_iload hx hb dX12_isTop_47 (lv_at hl 4 rfl) ?_
                  refine lv_ishr hx hb dX12_isTop_49 ?_
                  refine lv_iconst (v := (1 : Int32)) hx hb dX12_isTop_50 (by decide) ?_
                  refine lv_iand hx hb dX12_isTop_51 ?_
                  refine lv_iconst (v := (1 : Int32)) hx hb dX12_isTop_52 (by decide) ?_
                  obtain ⟨x12, hv22, hf⟩ := bd_some hf
                  have J11 : ∀ (H : Heap) (locs : List Loc), sInv D (mT cI cJ cD) (mW ad cI cJ cD) A s H locs (G, E, Dd) → ∀ (ls : Array Slot), lv_has ls 7 [(0, .ref (ad 0)), (1, .int a0), (2, .int a1), (3, .int x7), (4, .int x4), (5, .int x8)] → W p l e R s m args below meth c H locs 0 0 Q (F0 m 74 ls [.int x12]) := by
                    intro H locs I ls hl
                    refine lv_istore (lv' := [(6, .int x12), (0, .ref (ad 0)), (1, .int a0), (2, .int a1), (3, .int x7), (4, .int x4), (5, .int x8)]) hx hb dX12_isTop_74 hl (by decide) rfl (fun ls hl => ?_)
                    refine lv_iload_n hx hb dX12_isTop_76 rfl (lv_at hl 4 rfl) ?_
                    obtain ⟨x14, hv16, hf⟩ := bd_some hf
                    have J13 : ∀ (H : Heap) (locs : List Loc), sInv D (mT cI cJ cD) (mW ad cI cJ cD) A s H locs (G, E, Dd) → ∀ (ls : Array Slot), lv_has ls 7 [(0, .ref (ad 0)), (1, .int a0), (2, .int a1), (4, .int x4), (5, .int x8)] → W p l e R s m args below meth c H locs 0 0 Q (F0 m 101 ls [.int x14]) := by
                      intro H locs I ls hl
                      refine lv_istore_n (lv' := [(3, .int x14), (0, .ref (ad 0)), (1, .int a0), (2, .int a1), (4, .int x4), (5, .int x8)]) hx hb dX12_isTop_101 rfl hl (by decide) rfl (fun ls hl => ?_)
                      obtain ⟨x15, ex15⟩ : ∃ y : Int32, y = x8 + (1 : Int32) := ⟨_, rfl⟩
                      replace hf := nm_some ex15 hf
                      refine lv_iinc (v := x15) (lv' := [(5, .int x15), (3, .int x14), (0, .ref (ad 0)), (1, .int a0), (2, .int a1), (4, .int x4)]) hx hb dX12_isTop_102 hl (k := 5) rfl (by rw [ex15]; rfl) (by decide) rfl (fun ls hl => ?_)
                      refine lv_goto (tgt := 37) hx hb dX12_isTop_105 (by decide) ?_
                      cases hf
                      exact ih2 _ _ hK2 H locs I ls (lv_sub hl [2, 3, 4, 1, 5, 0] rfl)
                    replace hf := hv16
                    refine lv_if_eq (tgt := 100) hx hb dX12_isTop_77 (by decide) (fun c21 => ?_) (fun c21 => ?_)
                    · replace hf := (if_pos c21).symm.trans hf
                      refine lv_iconst (v := (0 : Int32)) hx hb dX12_isTop_100 (by decide) ?_
                      cases hf
                      exact J13 H locs I ls (lv_sub hl [1, 2, 3, 5, 6] rfl)
                    · replace hf := (if_neg c21).symm.trans hf
                      refine lv_iload hx hb dX12_isTop_80 (lv_at hl 0 rfl) ?_
                      refine lv_if_eq (tgt := 96) hx hb dX12_isTop_82 (by decide) (fun c20 => ?_) (fun c20 => ?_)
                      · replace hf := (if_pos c20).symm.trans hf
                        refine lv_iconst (v := (1 : Int32)) hx hb dX12_isTop_96 (by decide) ?_
                        refine lv_goto (tgt := 101) hx hb dX12_isTop_97 (by decide) ?_
                        cases hf
                        exact J13 H locs I ls (lv_sub hl [1, 2, 3, 5, 6] rfl)
                      · replace hf := (if_neg c20).symm.trans hf
                        refine lv_aload_n hx hb dX12_isTop_85 rfl (lv_at hl 1 rfl) ?_
                        refine lv_iload hx hb dX12_isTop_86 (lv_at hl 5 rfl) ?_
                        refine lv_iload hx hb dX12_isTop_88 (lv_at hl 6 rfl) ?_
                        obtain ⟨r17, h18, hf⟩ := bd_some hf
                        refine s_callVi (As := [.int x4, .int x8]) (rest := []) F I (cM_beats G E Dd x4 x8 r17 h18) kX12_249 ⟨rfl, rfl⟩ ⟨Nat.le_trans (Nat.le_of_ble_eq_true rfl) hRf, Nat.le_trans (Nat.le_of_ble_eq_true rfl) hRl⟩ 0 12 rfl rfl rfl rfl rfl hl.1 (Nat.le_of_ble_eq_true rfl) ⟨Nat.zero_le _, Nat.zero_le _⟩ dX12_isTop_90 ?_
                        intro H locs I
                        refine lv_if_eq (tgt := 100) hx hb dX12_isTop_93 (by decide) (fun c19 => ?_) (fun c19 => ?_)
                        · replace hf := (if_pos c19).symm.trans hf
                          refine lv_iconst (v := (0 : Int32)) hx hb dX12_isTop_100 (by decide) ?_
                          cases hf
                          exact J13 H locs I ls (lv_sub hl [1, 2, 3, 5, 6] rfl)
                        · replace hf := (if_neg c19).symm.trans hf
                          refine lv_iconst (v := (1 : Int32)) hx hb dX12_isTop_96 (by decide) ?_
                          refine lv_goto (tgt := 101) hx hb dX12_isTop_97 (by decide) ?_
                          cases hf
                          exact J13 H locs I ls (lv_sub hl [1, 2, 3, 5, 6] rfl)
                  replace hf := hv22
                  refine lv_icmp_ne (tgt := 73) hx hb dX12_isTop_53 (by decide) (fun c24 => ?_) (fun c24 => ?_)
                  · replace hf := (if_neg c24).symm.trans hf
                    refine lv_iconst (v := (0 : Int32)) hx hb dX12_isTop_73 (by decide) ?_
                    cases hf
                    exact J11 H locs I ls (lv_sub hl [0, 1, 2, 3, 4, 5] rfl)
                  · replace hf := (if_pos c24).symm.trans hf
                    refine lv_iload_n hx hb dX12_isTop_56 rfl (lv_at hl 2 rfl) ?_
                    refine lv_iload_n hx hb dX12_isTop_57 rfl (lv_at hl 1 rfl) ?_
                    refine lv_iconst (v := (-1 : Int32)) hx hb dX12_isTop_58 (by decide) ?_
                    refine lv_ixor hx hb dX12_isTop_59 ?_
                    refine lv_iand hx hb dX12_isTop_60 ?_
                    refine lv_iconst (v := (1 : Int32)) hx hb dX12_isTop_61 (by decide) ?_
                    refine lv_iload hx hb dX12_isTop_62 (lv_at hl 5 rfl) ?_
                    refine lv_ishl hx hb dX12_isTop_64 ?_
                    refine lv_iand hx hb dX12_isTop_65 ?_
                    refine lv_if_eq (tgt := 73) hx hb dX12_isTop_66 (by decide) (fun c23 => ?_) (fun c23 => ?_)
                    · replace hf := (if_pos c23).symm.trans hf
                      refine lv_iconst (v := (0 : Int32)) hx hb dX12_isTop_73 (by decide) ?_
                      cases hf
                      exact J11 H locs I ls (lv_sub hl [0, 1, 2, 3, 4, 5] rfl)
                    · replace hf := (if_neg c23).symm.trans hf
                      refine lv_iconst (v := (1 : Int32)) hx hb dX12_isTop_69 (by decide) ?_
                      refine lv_goto (tgt := 74) hx hb dX12_isTop_70 (by decide) ?_
                      cases hf
                      exact J11 H locs I ls (lv_sub hl [0, 1, 2, 3, 4, 5] rfl)
            exact L2 FU _ _ hq2 H locs I ls (lv_sub hl [1, 2, 3, 4, 5, 0] rfl)
    exact L1 FU _ _ hq1 H locs I ls (lv_sub hl [2, 3, 4, 1, 0] rfl)
  replace hf := hv28
  refine lv_if_eq (tgt := 16) hx hb dX12_isTop_1 (by decide) (fun c30 => ?_) (fun c30 => ?_)
  · replace hf := (if_pos c30).symm.trans hf
    refine lv_iconst (v := (0 : Int32)) hx hb dX12_isTop_16 (by decide) ?_
    cases hf
    exact J1 H locs I ls (lv_sub hl [0, 1, 2] rfl)
  · replace hf := (if_neg c30).symm.trans hf
    refine lv_iload_n hx hb dX12_isTop_4 rfl (lv_at hl 1 rfl) ?_
    refine lv_iload_n hx hb dX12_isTop_5 rfl (lv_at hl 2 rfl) ?_
    refine lv_iconst (v := (-1 : Int32)) hx hb dX12_isTop_6 (by decide) ?_
    refine lv_ixor hx hb dX12_isTop_7 ?_
    refine lv_iand hx hb dX12_isTop_8 ?_
    refine lv_if_ne (tgt := 16) hx hb dX12_isTop_9 (by decide) (fun c29 => ?_) (fun c29 => ?_)
    · replace hf := (if_neg c29).symm.trans hf
      refine lv_iconst (v := (0 : Int32)) hx hb dX12_isTop_16 (by decide) ?_
      cases hf
      exact J1 H locs I ls (lv_sub hl [0, 1, 2] rfl)
    · replace hf := (if_pos c29).symm.trans hf
      refine lv_iconst (v := (1 : Int32)) hx hb dX12_isTop_12 (by decide) ?_
      refine lv_goto (tgt := 17) hx hb dX12_isTop_13 (by decide) ?_
      cases hf
      exact J1 H locs I ls (lv_sub hl [0, 1, 2] rfl)
def M_topOf_s1 (a0 : Int32) (G : Nat → Nat → Int32) (x1 : Int32) (x2 : Int32) : Option ((Int32 × Int32) ⊕ (Int32)) :=
if (1 : Int32) <<< ((G 1 0) &&& 31) ≤ x2 then
(some (.inr x1))
else
(bd (M_size x2) fun r4 =>
bd (M_size x1) fun r6 =>
bd (if r6 ≤ r4 then
(some x1)
else
(bd (M_isTop G x2 a0) fun r12 =>
if r12 = 0 then
(some x1)
else
(some x2))) fun x9 =>
nm (x2 + (1 : Int32) : Int32) fun x10 =>
some (.inl (x9, x10)))
def M_topOf (G : Nat → Nat → Int32) (a0 : Int32) : Option (Int32) :=
bd (lp (fun q => M_topOf_s1 a0 G q.1 q.2) FU (a0, (1 : Int32))) fun r3 =>
some r3
set_option maxRecDepth 100000 in
set_option maxHeartbeats 4000000 in
theorem cM_topOf (G : Nat → Nat → Int32) (E : Nat → Nat → Int64) (Dd : Nat → Nat → UInt64) (a0 : Int32) (rv : Int32)  (hf : M_topOf G a0 = some rv) : sMi D (mT cI cJ cD) (mW ad cI cJ cD) l yX12_topOf (ws1 yX12_topOf cX12_topOf 4 (some .int)) ({ frames := 2, cells := 0, slots := 0, locals := 48 }) [.ref (ad 0), .int a0] (G, E, Dd) (rv, (G, E, Dd)) := by
  unfold M_topOf at hf
  refine sMi_of (by decide) (Nat.le_of_ble_eq_true rfl) ?_
  intro p e R s m args below meth c A Q ls H locs F hRf hRl I hl ret
  obtain ⟨hx, hb, hml, hown, hG⟩ := id F
  replace hl : lv_has ls 4 [(0, .ref (ad 0)), (1, .int a0)] := hl
  refine lv_iload_n hx hb dX12_topOf_0 rfl (lv_at hl 1 rfl) ?_
  refine lv_istore_n (lv' := [(2, .int a0), (0, .ref (ad 0)), (1, .int a0)]) hx hb dX12_topOf_1 rfl hl (by decide) rfl (fun ls hl => ?_)
  refine lv_iconst (v := (1 : Int32)) hx hb dX12_topOf_2 (by decide) ?_
  refine lv_istore_n (lv' := [(3, .int (1 : Int32)), (2, .int a0), (0, .ref (ad 0)), (1, .int a0)]) hx hb dX12_topOf_3 rfl hl (by decide) rfl (fun ls hl => ?_)
  obtain ⟨r3, hq1, hf⟩ := bd_some hf
  have K1 : ∀ (H : Heap) (locs : List Loc), sInv D (mT cI cJ cD) (mW ad cI cJ cD) A s H locs (G, E, Dd) → ∀ (ls : Array Slot), lv_has ls 4 [(2, .int r3)] → W p l e R s m args below meth c H locs 0 0 Q (F0 m 46 ls []) := by
    intro H locs I ls hl
    refine lv_iload_n hx hb dX12_topOf_46 rfl (lv_at hl 0 rfl) ?_
    cases hf
    exact ret H locs _ ls I dX12_topOf_47
  have L1 : ∀ (n : Nat) (x1 : Int32) (x2 : Int32), lp (fun q => M_topOf_s1 a0 G q.1 q.2) n (x1, x2) = some r3 → ∀ (H : Heap) (locs : List Loc), sInv D (mT cI cJ cD) (mW ad cI cJ cD) A s H locs (G, E, Dd) → ∀ (ls : Array Slot), lv_has ls 4 [(0, .ref (ad 0)), (1, .int a0), (2, .int x1), (3, .int x2)] → W p l e R s m args below meth c H locs 0 0 Q (F0 m 4 ls []) := by
    intro n
    induction n with
    | zero => intro x1 x2 hq; exact (lp_0 hq).elim
    | succ n ih1 =>
      intro x1 x2 hq H locs I ls hl
      obtain ⟨y1, hf, hK1⟩ := lp_go hq
      replace hf : M_topOf_s1 a0 G x1 x2 = some y1 := hf
      unfold M_topOf_s1 at hf
      refine lv_iload_n hx hb dX12_topOf_4 rfl (lv_at hl 3 rfl) ?_
      refine lv_iconst (v := (1 : Int32)) hx hb dX12_topOf_5 (by decide) ?_
      refine lv_aload_n hx hb dX12_topOf_6 rfl (lv_at hl 0 rfl) ?_
      refine mgtX12_92_0 F I dX12_topOf_7 ?_
      refine lv_ishl hx hb dX12_topOf_10 ?_
      refine lv_icmp_ge (tgt := 46) hx hb dX12_topOf_11 (by decide) (fun c16 => ?_) (fun c16 => ?_)
      · replace hf := (if_pos c16).symm.trans hf
        cases hf
        cases (show x1 = r3 from hK1)
        exact K1 H locs I ls (lv_sub hl [2] rfl)
      · replace hf := (if_neg c16).symm.trans hf
        refine lv_iload_n hx hb dX12_topOf_14 rfl (lv_at hl 3 rfl) ?_
        obtain ⟨r4, h5, hf⟩ := bd_some hf
        refine s_callSi (As := [.int x2]) (rest := []) F I (cM_size G E Dd x2 r4 h5) kX12_253 ⟨rfl, rfl⟩ ⟨Nat.le_trans (Nat.le_of_ble_eq_true rfl) hRf, Nat.le_trans (Nat.le_of_ble_eq_true rfl) hRl⟩ rfl rfl hl.1 (Nat.le_of_ble_eq_true rfl) ⟨Nat.zero_le _, Nat.zero_le _⟩ dX12_topOf_15 ?_
        intro H locs I
        refine lv_iload_n hx hb dX12_topOf_18 rfl (lv_at hl 2 rfl) ?_
        obtain ⟨r6, h7, hf⟩ := bd_some hf
        refine s_callSi (As := [.int x1]) (rest := [.int r4]) F I (cM_size G E Dd x1 r6 h7) kX12_253 ⟨rfl, rfl⟩ ⟨Nat.le_trans (Nat.le_of_ble_eq_true rfl) hRf, Nat.le_trans (Nat.le_of_ble_eq_true rfl) hRl⟩ rfl rfl hl.1 (Nat.le_of_ble_eq_true rfl) ⟨Nat.zero_le _, Nat.zero_le _⟩ dX12_topOf_19 ?_
        intro H locs I
        obtain ⟨x9, hv11, hf⟩ := bd_some hf
        have J8 : ∀ (H : Heap) (locs : List Loc), sInv D (mT cI cJ cD) (mW ad cI cJ cD) A s H locs (G, E, Dd) → ∀ (ls : Array Slot), lv_has ls 4 [(0, .ref (ad 0)), (1, .int a0), (3, .int x2)] → W p l e R s m args below meth c H locs 0 0 Q (F0 m 39 ls [.int x9]) := by
          intro H locs I ls hl
          refine lv_istore_n (lv' := [(2, .int x9), (0, .ref (ad 0)), (1, .int a0), (3, .int x2)]) hx hb dX12_topOf_39 rfl hl (by decide) rfl (fun ls hl => ?_)
          obtain ⟨x10, ex10⟩ : ∃ y : Int32, y = x2 + (1 : Int32) := ⟨_, rfl⟩
          replace hf := nm_some ex10 hf
          refine lv_iinc (v := x10) (lv' := [(3, .int x10), (2, .int x9), (0, .ref (ad 0)), (1, .int a0)]) hx hb dX12_topOf_40 hl (k := 3) rfl (by rw [ex10]; rfl) (by decide) rfl (fun ls hl => ?_)
          refine lv_goto (tgt := 4) hx hb dX12_topOf_43 (by decide) ?_
          cases hf
          exact ih1 _ _ hK1 H locs I ls (lv_sub hl [2, 3, 1, 0] rfl)
        replace hf := hv11
        refine lv_icmp_ge (tgt := 38) hx hb dX12_topOf_22 (by decide) (fun c15 => ?_) (fun c15 => ?_)
        · replace hf := (if_pos c15).symm.trans hf
          refine lv_iload_n hx hb dX12_topOf_38 rfl (lv_at hl 2 rfl) ?_
          cases hf
          exact J8 H locs I ls (lv_sub hl [0, 1, 3] rfl)
        · replace hf := (if_neg c15).symm.trans hf
          refine lv_aload_n hx hb dX12_topOf_25 rfl (lv_at hl 0 rfl) ?_
          refine lv_iload_n hx hb dX12_topOf_26 rfl (lv_at hl 3 rfl) ?_
          refine lv_iload_n hx hb dX12_topOf_27 rfl (lv_at hl 1 rfl) ?_
          obtain ⟨r12, h13, hf⟩ := bd_some hf
          refine s_callVi (As := [.int x2, .int a0]) (rest := []) F I (cM_isTop G E Dd x2 a0 r12 h13) kX12_256 ⟨rfl, rfl⟩ ⟨Nat.le_trans (Nat.le_of_ble_eq_true rfl) hRf, Nat.le_trans (Nat.le_of_ble_eq_true rfl) hRl⟩ 0 12 rfl rfl rfl rfl rfl hl.1 (Nat.le_of_ble_eq_true rfl) ⟨Nat.zero_le _, Nat.zero_le _⟩ dX12_topOf_28 ?_
          intro H locs I
          refine lv_if_eq (tgt := 38) hx hb dX12_topOf_31 (by decide) (fun c14 => ?_) (fun c14 => ?_)
          · replace hf := (if_pos c14).symm.trans hf
            refine lv_iload_n hx hb dX12_topOf_38 rfl (lv_at hl 2 rfl) ?_
            cases hf
            exact J8 H locs I ls (lv_sub hl [0, 1, 3] rfl)
          · replace hf := (if_neg c14).symm.trans hf
            refine lv_iload_n hx hb dX12_topOf_34 rfl (lv_at hl 3 rfl) ?_
            refine lv_goto (tgt := 39) hx hb dX12_topOf_35 (by decide) ?_
            cases hf
            exact J8 H locs I ls (lv_sub hl [0, 1, 3] rfl)
  exact L1 FU _ _ hq1 H locs I ls (lv_sub hl [2, 3, 1, 0] rfl)
def M_layerOf_s1 (a0 : Int32) (G : Nat → Nat → Int32) (x2 : Int32) (x3 : Int32) : Option ((Int32 × Int32) ⊕ (Int32)) :=
if x2 = 0 then
(some (.inr x3))
else
(bd (M_topOf G x2) fun r4 =>
if a0 = (-1 : Int32) then
(nm (x2 &&& (r4 ^^^ (-1 : Int32)) : Int32) fun x6 =>
nm (x3 + (1 : Int32) : Int32) fun x7 =>
some (.inl (x6, x7)))
else
(if (r4 >>> (a0 &&& 31)) &&& (1 : Int32) = (1 : Int32) then
(some (.inr x3))
else
(nm (x2 &&& (r4 ^^^ (-1 : Int32)) : Int32) fun x8 =>
nm (x3 + (1 : Int32) : Int32) fun x9 =>
some (.inl (x8, x9)))))
def M_layerOf (G : Nat → Nat → Int32) (a0 : Int32) : Option (Int32) :=
nm (((1 : Int32) <<< ((G 1 0) &&& 31)) - (1 : Int32) : Int32) fun x1 =>
lp (fun q => M_layerOf_s1 a0 G q.1 q.2) FU (x1, (0 : Int32))
set_option maxRecDepth 100000 in
set_option maxHeartbeats 4000000 in
theorem cM_layerOf (G : Nat → Nat → Int32) (E : Nat → Nat → Int64) (Dd : Nat → Nat → UInt64) (a0 : Int32) (rv : Int32)  (hf : M_layerOf G a0 = some rv) : sMi D (mT cI cJ cD) (mW ad cI cJ cD) l yX12_layerOf (ws1 yX12_layerOf cX12_layerOf 5 (some .int)) ({ frames := 3, cells := 0, slots := 0, locals := 71 }) [.ref (ad 0), .int a0] (G, E, Dd) (rv, (G, E, Dd)) := by
  unfold M_layerOf at hf
  refine sMi_of (by decide) (Nat.le_of_ble_eq_true rfl) ?_
  intro p e R s m args below meth c A Q ls H locs F hRf hRl I hl ret
  obtain ⟨hx, hb, hml, hown, hG⟩ := id F
  replace hl : lv_has ls 5 [(0, .ref (ad 0)), (1, .int a0)] := hl
  refine lv_iconst (v := (1 : Int32)) hx hb dX12_layerOf_0 (by decide) ?_
  refine lv_aload_n hx hb dX12_layerOf_1 rfl (lv_at hl 0 rfl) ?_
  refine mgtX12_92_0 F I dX12_layerOf_2 ?_
  refine lv_ishl hx hb dX12_layerOf_5 ?_
  refine lv_iconst (v := (1 : Int32)) hx hb dX12_layerOf_6 (by decide) ?_
  refine lv_isub hx hb dX12_layerOf_7 ?_
  refine lv_topi (fun x1 ex1 => ?_)
  replace hf := nm_some ex1 hf
  refine lv_istore_n (lv' := [(2, .int x1), (0, .ref (ad 0)), (1, .int a0)]) hx hb dX12_layerOf_8 rfl hl (by decide) rfl (fun ls hl => ?_)
  refine lv_iconst (v := (0 : Int32)) hx hb dX12_layerOf_9 (by decide) ?_
  refine lv_istore_n (lv' := [(3, .int (0 : Int32)), (2, .int x1), (0, .ref (ad 0)), (1, .int a0)]) hx hb dX12_layerOf_10 rfl hl (by decide) rfl (fun ls hl => ?_)
  have hq1 : lp (fun q => M_layerOf_s1 a0 G q.1 q.2) FU (x1, (0 : Int32)) = some rv := hf
  have L1 : ∀ (n : Nat) (x2 : Int32) (x3 : Int32), lp (fun q => M_layerOf_s1 a0 G q.1 q.2) n (x2, x3) = some rv → ∀ (H : Heap) (locs : List Loc), sInv D (mT cI cJ cD) (mW ad cI cJ cD) A s H locs (G, E, Dd) → ∀ (ls : Array Slot), lv_has ls 5 [(0, .ref (ad 0)), (1, .int a0), (2, .int x2), (3, .int x3)] → W p l e R s m args below meth c H locs 0 0 Q (F0 m 11 ls []) := by
    intro n
    induction n with
    | zero => intro x2 x3 hq; exact (lp_0 hq).elim
    | succ n ih1 =>
      intro x2 x3 hq H locs I ls hl
      obtain ⟨y1, hf, hK1⟩ := lp_go hq
      replace hf : M_layerOf_s1 a0 G x2 x3 = some y1 := hf
      unfold M_layerOf_s1 at hf
      refine lv_iload_n hx hb dX12_layerOf_11 rfl (lv_at hl 2 rfl) ?_
      refine lv_if_eq (tgt := 52) hx hb dX12_layerOf_12 (by decide) (fun c12 => ?_) (fun c12 => ?_)
      · replace hf := (if_pos c12).symm.trans hf
        refine lv_iload_n hx hb dX12_layerOf_52 rfl (lv_at hl 3 rfl) ?_
        cases hf
        have hf := congrArg some (show _ = _ from hK1)
        cases hf
        exact ret H locs _ ls I dX12_layerOf_53
      · replace hf := (if_neg c12).symm.trans hf
        refine lv_aload_n hx hb dX12_layerOf_15 rfl (lv_at hl 0 rfl) ?_
        refine lv_iload_n hx hb dX12_layerOf_16 rfl (lv_at hl 2 rfl) ?_
        obtain ⟨r4, h5, hf⟩ := bd_some hf
        refine s_callVi (As := [.int x2]) (rest := []) F I (cM_topOf G E Dd x2 r4 h5) kX12_259 ⟨rfl, rfl⟩ ⟨Nat.le_trans (Nat.le_of_ble_eq_true rfl) hRf, Nat.le_trans (Nat.le_of_ble_eq_true rfl) hRl⟩ 0 12 rfl rfl rfl rfl rfl hl.1 (Nat.le_of_ble_eq_true rfl) ⟨Nat.zero_le _, Nat.zero_le _⟩ dX12_layerOf_17 ?_
        intro H locs I
        refine lv_istore (lv' := [(4, .int r4), (0, .ref (ad 0)), (1, .int a0), (2, .int x2), (3, .int x3)]) hx hb dX12_layerOf_20 hl (by decide) rfl (fun ls hl => ?_)
        refine lv_iload_n hx hb dX12_layerOf_22 rfl (lv_at hl 2 rfl) ?_
        refine lv_iconst (v := (-1 : Int32)) hx hb dX12_layerOf_23 (by decide) ?_
        refine lv_icmp_eq (tgt := 39) hx hb dX12_layerOf_24 (by decide) (fun c11 => ?_) (fun c11 => ?_)
        · replace hf := (if_pos c11).symm.trans hf
          refine lv_iload_n hx hb dX12_layerOf_39 rfl (lv_at hl 3 rfl) ?_
          refine lv_iload hx hb dX12_layerOf_40 (lv_at hl 0 rfl) ?_
          refine lv_iconst (v := (-1 : Int32)) hx hb dX12_layerOf_42 (by decide) ?_
          refine lv_ixor hx hb dX12_layerOf_43 ?_
          refine lv_iand hx hb dX12_layerOf_44 ?_
          refine lv_topi (fun x6 ex6 => ?_)
          replace hf := nm_some ex6 hf
          refine lv_istore_n (lv' := [(2, .int x6), (4, .int r4), (0, .ref (ad 0)), (1, .int a0), (3, .int x3)]) hx hb dX12_layerOf_45 rfl hl (by decide) rfl (fun ls hl => ?_)
          obtain ⟨x7, ex7⟩ : ∃ y : Int32, y = x3 + (1 : Int32) := ⟨_, rfl⟩
          replace hf := nm_some ex7 hf
          refine lv_iinc (v := x7) (lv' := [(3, .int x7), (2, .int x6), (4, .int r4), (0, .ref (ad 0)), (1, .int a0)]) hx hb dX12_layerOf_46 hl (k := 4) rfl (by rw [ex7]; rfl) (by decide) rfl (fun ls hl => ?_)
          refine lv_goto (tgt := 11) hx hb dX12_layerOf_49 (by decide) ?_
          cases hf
          exact ih1 _ _ hK1 H locs I ls (lv_sub hl [3, 4, 1, 0] rfl)
        · replace hf := (if_neg c11).symm.trans hf
          refine lv_iload hx hb dX12_layerOf_27 (lv_at hl 0 rfl) ?_
          refine lv_iload_n hx hb dX12_layerOf_29 rfl (lv_at hl 2 rfl) ?_
          refine lv_ishr hx hb dX12_layerOf_30 ?_
          refine lv_iconst (v := (1 : Int32)) hx hb dX12_layerOf_31 (by decide) ?_
          refine lv_iand hx hb dX12_layerOf_32 ?_
          refine lv_iconst (v := (1 : Int32)) hx hb dX12_layerOf_33 (by decide) ?_
          refine lv_icmp_ne (tgt := 39) hx hb dX12_layerOf_34 (by decide) (fun c10 => ?_) (fun c10 => ?_)
          · replace hf := (if_neg c10).symm.trans hf
            refine lv_iload_n hx hb dX12_layerOf_39 rfl (lv_at hl 3 rfl) ?_
            refine lv_iload hx hb dX12_layerOf_40 (lv_at hl 0 rfl) ?_
            refine lv_iconst (v := (-1 : Int32)) hx hb dX12_layerOf_42 (by decide) ?_
            refine lv_ixor hx hb dX12_layerOf_43 ?_
            refine lv_iand hx hb dX12_layerOf_44 ?_
            refine lv_topi (fun x8 ex8 => ?_)
            replace hf := nm_some ex8 hf
            refine lv_istore_n (lv' := [(2, .int x8), (4, .int r4), (0, .ref (ad 0)), (1, .int a0), (3, .int x3)]) hx hb dX12_layerOf_45 rfl hl (by decide) rfl (fun ls hl => ?_)
            obtain ⟨x9, ex9⟩ : ∃ y : Int32, y = x3 + (1 : Int32) := ⟨_, rfl⟩
            replace hf := nm_some ex9 hf
            refine lv_iinc (v := x9) (lv' := [(3, .int x9), (2, .int x8), (4, .int r4), (0, .ref (ad 0)), (1, .int a0)]) hx hb dX12_layerOf_46 hl (k := 4) rfl (by rw [ex9]; rfl) (by decide) rfl (fun ls hl => ?_)
            refine lv_goto (tgt := 11) hx hb dX12_layerOf_49 (by decide) ?_
            cases hf
            exact ih1 _ _ hK1 H locs I ls (lv_sub hl [3, 4, 1, 0] rfl)
          · replace hf := (if_pos c10).symm.trans hf
            refine lv_iload_n hx hb dX12_layerOf_37 rfl (lv_at hl 4 rfl) ?_
            cases hf
            have hf := congrArg some (show _ = _ from hK1)
            cases hf
            exact ret H locs _ ls I dX12_layerOf_38
  exact L1 FU _ _ hq1 H locs I ls (lv_sub hl [2, 3, 1, 0] rfl)
def M_costOf_s1 (a0 : Int32) (a1 : Int32) (G : Nat → Nat → Int32) (x1 : Int32) (x2 : Int32) : Option ((Int32 × Int32) ⊕ (Int32)) :=
if G 1 0 ≤ x2 then
(some (.inr x1))
else
(bd (if (a1 >>> (x2 &&& 31)) &&& (1 : Int32) = (1 : Int32) then
(bd (M_beats G x2 a0) fun r9 =>
if r9 = 0 then
(some (0 : Int32))
else
(ri 64 (((8 : Int32) * x2) + a0) <|
some (G 29 (((8 : Int32) * x2) + a0).toNatClampNeg)))
else
(some (0 : Int32))) fun x5 =>
nm (x1 + x5 : Int32) fun x6 =>
nm (x2 + (1 : Int32) : Int32) fun x7 =>
some (.inl (x6, x7)))
def M_costOf (G : Nat → Nat → Int32) (a0 : Int32) (a1 : Int32) : Option (Int32) :=
bd (lp (fun q => M_costOf_s1 a0 a1 G q.1 q.2) FU ((0 : Int32), (0 : Int32))) fun r3 =>
some r3
set_option maxRecDepth 100000 in
set_option maxHeartbeats 4000000 in
theorem cM_costOf (G : Nat → Nat → Int32) (E : Nat → Nat → Int64) (Dd : Nat → Nat → UInt64) (a0 : Int32) (a1 : Int32) (rv : Int32)  (hf : M_costOf G a0 a1 = some rv) : sMi D (mT cI cJ cD) (mW ad cI cJ cD) l yX12_costOf (ws1 yX12_costOf cX12_costOf 5 (some .int)) ({ frames := 1, cells := 0, slots := 0, locals := 22 }) [.ref (ad 0), .int a0, .int a1] (G, E, Dd) (rv, (G, E, Dd)) := by
  unfold M_costOf at hf
  refine sMi_of (by decide) (Nat.le_of_ble_eq_true rfl) ?_
  intro p e R s m args below meth c A Q ls H locs F hRf hRl I hl ret
  obtain ⟨hx, hb, hml, hown, hG⟩ := id F
  replace hl : lv_has ls 5 [(0, .ref (ad 0)), (1, .int a0), (2, .int a1)] := hl
  refine lv_iconst (v := (0 : Int32)) hx hb dX12_costOf_0 (by decide) ?_
  refine lv_istore_n (lv' := [(3, .int (0 : Int32)), (0, .ref (ad 0)), (1, .int a0), (2, .int a1)]) hx hb dX12_costOf_1 rfl hl (by decide) rfl (fun ls hl => ?_)
  refine lv_iconst (v := (0 : Int32)) hx hb dX12_costOf_2 (by decide) ?_
  refine lv_istore (lv' := [(4, .int (0 : Int32)), (3, .int (0 : Int32)), (0, .ref (ad 0)), (1, .int a0), (2, .int a1)]) hx hb dX12_costOf_3 hl (by decide) rfl (fun ls hl => ?_)
  obtain ⟨r3, hq1, hf⟩ := bd_some hf
  have K1 : ∀ (H : Heap) (locs : List Loc), sInv D (mT cI cJ cD) (mW ad cI cJ cD) A s H locs (G, E, Dd) → ∀ (ls : Array Slot), lv_has ls 5 [(3, .int r3)] → W p l e R s m args below meth c H locs 0 0 Q (F0 m 59 ls []) := by
    intro H locs I ls hl
    refine lv_iload_n hx hb dX12_costOf_59 rfl (lv_at hl 0 rfl) ?_
    cases hf
    exact ret H locs _ ls I dX12_costOf_60
  have L1 : ∀ (n : Nat) (x1 : Int32) (x2 : Int32), lp (fun q => M_costOf_s1 a0 a1 G q.1 q.2) n (x1, x2) = some r3 → ∀ (H : Heap) (locs : List Loc), sInv D (mT cI cJ cD) (mW ad cI cJ cD) A s H locs (G, E, Dd) → ∀ (ls : Array Slot), lv_has ls 5 [(0, .ref (ad 0)), (1, .int a0), (2, .int a1), (3, .int x1), (4, .int x2)] → W p l e R s m args below meth c H locs 0 0 Q (F0 m 5 ls []) := by
    intro n
    induction n with
    | zero => intro x1 x2 hq; exact (lp_0 hq).elim
    | succ n ih1 =>
      intro x1 x2 hq H locs I ls hl
      obtain ⟨y1, hf, hK1⟩ := lp_go hq
      replace hf : M_costOf_s1 a0 a1 G x1 x2 = some y1 := hf
      unfold M_costOf_s1 at hf
      refine lv_iload hx hb dX12_costOf_5 (lv_at hl 4 rfl) ?_
      refine lv_aload_n hx hb dX12_costOf_7 rfl (lv_at hl 0 rfl) ?_
      refine mgtX12_92_0 F I dX12_costOf_8 ?_
      refine lv_icmp_ge (tgt := 59) hx hb dX12_costOf_11 (by decide) (fun c14 => ?_) (fun c14 => ?_)
      · replace hf := (if_pos c14).symm.trans hf
        cases hf
        cases (show x1 = r3 from hK1)
        exact K1 H locs I ls (lv_sub hl [3] rfl)
      · replace hf := (if_neg c14).symm.trans hf
        refine lv_iload_n hx hb dX12_costOf_14 rfl (lv_at hl 3 rfl) ?_
        refine lv_iload_n hx hb dX12_costOf_15 rfl (lv_at hl 2 rfl) ?_
        refine lv_iload hx hb dX12_costOf_16 (lv_at hl 4 rfl) ?_
        refine lv_ishr hx hb dX12_costOf_18 ?_
        refine lv_iconst (v := (1 : Int32)) hx hb dX12_costOf_19 (by decide) ?_
        refine lv_iand hx hb dX12_costOf_20 ?_
        refine lv_iconst (v := (1 : Int32)) hx hb dX12_costOf_21 (by decide) ?_
        obtain ⟨x5, hv8, hf⟩ := bd_some hf
        have J4 : ∀ (H : Heap) (locs : List Loc), sInv D (mT cI cJ cD) (mW ad cI cJ cD) A s H locs (G, E, Dd) → ∀ (ls : Array Slot), lv_has ls 5 [(0, .ref (ad 0)), (1, .int a0), (2, .int a1), (4, .int x2)] → W p l e R s m args below meth c H locs 0 0 Q (F0 m 51 ls [.int x5, .int x1]) := by
          intro H locs I ls hl
          refine lv_iadd hx hb dX12_costOf_51 ?_
          refine lv_topi (fun x6 ex6 => ?_)
          replace hf := nm_some ex6 hf
          refine lv_istore_n (lv' := [(3, .int x6), (0, .ref (ad 0)), (1, .int a0), (2, .int a1), (4, .int x2)]) hx hb dX12_costOf_52 rfl hl (by decide) rfl (fun ls hl => ?_)
          obtain ⟨x7, ex7⟩ : ∃ y : Int32, y = x2 + (1 : Int32) := ⟨_, rfl⟩
          replace hf := nm_some ex7 hf
          refine lv_iinc (v := x7) (lv' := [(4, .int x7), (3, .int x6), (0, .ref (ad 0)), (1, .int a0), (2, .int a1)]) hx hb dX12_costOf_53 hl (k := 4) rfl (by rw [ex7]; rfl) (by decide) rfl (fun ls hl => ?_)
          refine lv_goto (tgt := 5) hx hb dX12_costOf_56 (by decide) ?_
          cases hf
          exact ih1 _ _ hK1 H locs I ls (lv_sub hl [2, 3, 4, 1, 0] rfl)
        replace hf := hv8
        refine lv_icmp_ne (tgt := 50) hx hb dX12_costOf_22 (by decide) (fun c13 => ?_) (fun c13 => ?_)
        · replace hf := (if_neg c13).symm.trans hf
          refine lv_iconst (v := (0 : Int32)) hx hb dX12_costOf_50 (by decide) ?_
          cases hf
          exact J4 H locs I ls (lv_sub hl [0, 1, 2, 4] rfl)
        · replace hf := (if_pos c13).symm.trans hf
          refine lv_aload_n hx hb dX12_costOf_25 rfl (lv_at hl 0 rfl) ?_
          refine lv_iload hx hb dX12_costOf_26 (lv_at hl 4 rfl) ?_
          refine lv_iload_n hx hb dX12_costOf_28 rfl (lv_at hl 1 rfl) ?_
          obtain ⟨r9, h10, hf⟩ := bd_some hf
          refine s_callVi (As := [.int x2, .int a0]) (rest := [.int x1]) F I (cM_beats G E Dd x2 a0 r9 h10) kX12_249 ⟨rfl, rfl⟩ ⟨Nat.le_trans (Nat.le_of_ble_eq_true rfl) hRf, Nat.le_trans (Nat.le_of_ble_eq_true rfl) hRl⟩ 0 12 rfl rfl rfl rfl rfl hl.1 (Nat.le_of_ble_eq_true rfl) ⟨Nat.zero_le _, Nat.zero_le _⟩ dX12_costOf_29 ?_
          intro H locs I
          refine lv_if_eq (tgt := 50) hx hb dX12_costOf_32 (by decide) (fun c12 => ?_) (fun c12 => ?_)
          · replace hf := (if_pos c12).symm.trans hf
            refine lv_iconst (v := (0 : Int32)) hx hb dX12_costOf_50 (by decide) ?_
            cases hf
            exact J4 H locs I ls (lv_sub hl [0, 1, 2, 4] rfl)
          · replace hf := (if_neg c12).symm.trans hf
            refine lv_aload_n hx hb dX12_costOf_35 rfl (lv_at hl 0 rfl) ?_
            refine mgtX12_56_0 F I dX12_costOf_36 ?_
            refine lv_bipush (v := (8 : Int32)) hx hb dX12_costOf_39 (by decide) ?_
            refine lv_iload hx hb dX12_costOf_41 (lv_at hl 4 rfl) ?_
            refine lv_imul hx hb dX12_costOf_43 ?_
            refine lv_iload_n hx hb dX12_costOf_44 rfl (lv_at hl 1 rfl) ?_
            refine lv_iadd hx hb dX12_costOf_45 ?_
            obtain ⟨g11, hf⟩ := ri_some hf
            refine mal15 F I g11 dX12_costOf_46 ?_
            refine lv_goto (tgt := 51) hx hb dX12_costOf_47 (by decide) ?_
            cases hf
            exact J4 H locs I ls (lv_sub hl [0, 1, 2, 4] rfl)
  exact L1 FU _ _ hq1 H locs I ls (lv_sub hl [2, 3, 4, 1, 0] rfl)
def M_costBy (G : Nat → Nat → Int32) (a0 : Int32) (a1 : Int32) : Option (Int32) :=
bd (M_costOf G a0 (a1 &&& (((1 : Int32) <<< (a0 &&& 31)) ^^^ (-1 : Int32)))) fun r1 =>
ri 256 (a1 &&& (((1 : Int32) <<< (a0 &&& 31)) ^^^ (-1 : Int32))) <|
some (r1 + (G 30 (a1 &&& (((1 : Int32) <<< (a0 &&& 31)) ^^^ (-1 : Int32))).toNatClampNeg))
set_option maxRecDepth 100000 in
set_option maxHeartbeats 4000000 in
theorem cM_costBy (G : Nat → Nat → Int32) (E : Nat → Nat → Int64) (Dd : Nat → Nat → UInt64) (a0 : Int32) (a1 : Int32) (rv : Int32)  (hf : M_costBy G a0 a1 = some rv) : sMi D (mT cI cJ cD) (mW ad cI cJ cD) l yX12_costBy (ws1 yX12_costBy cX12_costBy 3 (some .int)) ({ frames := 2, cells := 0, slots := 0, locals := 46 }) [.ref (ad 0), .int a0, .int a1] (G, E, Dd) (rv, (G, E, Dd)) := by
  unfold M_costBy at hf
  refine sMi_of (by decide) (Nat.le_of_ble_eq_true rfl) ?_
  intro p e R s m args below meth c A Q ls H locs F hRf hRl I hl ret
  obtain ⟨hx, hb, hml, hown, hG⟩ := id F
  replace hl : lv_has ls 3 [(0, .ref (ad 0)), (1, .int a0), (2, .int a1)] := hl
  refine lv_aload_n hx hb dX12_costBy_0 rfl (lv_at hl 0 rfl) ?_
  refine lv_iload_n hx hb dX12_costBy_1 rfl (lv_at hl 1 rfl) ?_
  refine lv_iload_n hx hb dX12_costBy_2 rfl (lv_at hl 2 rfl) ?_
  refine lv_iconst (v := (1 : Int32)) hx hb dX12_costBy_3 (by decide) ?_
  refine lv_iload_n hx hb dX12_costBy_4 rfl (lv_at hl 1 rfl) ?_
  refine lv_ishl hx hb dX12_costBy_5 ?_
  refine lv_iconst (v := (-1 : Int32)) hx hb dX12_costBy_6 (by decide) ?_
  refine lv_ixor hx hb dX12_costBy_7 ?_
  refine lv_iand hx hb dX12_costBy_8 ?_
  obtain ⟨r1, h2, hf⟩ := bd_some hf
  refine s_callVi (As := [.int a0, .int (a1 &&& (((1 : Int32) <<< (a0 &&& 31)) ^^^ (-1 : Int32)))]) (rest := []) F I (cM_costOf G E Dd a0 (a1 &&& (((1 : Int32) <<< (a0 &&& 31)) ^^^ (-1 : Int32))) r1 h2) kX12_262 ⟨rfl, rfl⟩ ⟨Nat.le_trans (Nat.le_of_ble_eq_true rfl) hRf, Nat.le_trans (Nat.le_of_ble_eq_true rfl) hRl⟩ 0 12 rfl rfl rfl rfl rfl hl.1 (Nat.le_of_ble_eq_true rfl) ⟨Nat.zero_le _, Nat.zero_le _⟩ dX12_costBy_9 ?_
  intro H locs I
  refine lv_aload_n hx hb dX12_costBy_12 rfl (lv_at hl 0 rfl) ?_
  refine mgtX12_59_0 F I dX12_costBy_13 ?_
  refine lv_iload_n hx hb dX12_costBy_16 rfl (lv_at hl 2 rfl) ?_
  refine lv_iconst (v := (1 : Int32)) hx hb dX12_costBy_17 (by decide) ?_
  refine lv_iload_n hx hb dX12_costBy_18 rfl (lv_at hl 1 rfl) ?_
  refine lv_ishl hx hb dX12_costBy_19 ?_
  refine lv_iconst (v := (-1 : Int32)) hx hb dX12_costBy_20 (by decide) ?_
  refine lv_ixor hx hb dX12_costBy_21 ?_
  refine lv_iand hx hb dX12_costBy_22 ?_
  obtain ⟨g3, hf⟩ := ri_some hf
  refine mal16 F I g3 dX12_costBy_23 ?_
  refine lv_iadd hx hb dX12_costBy_24 ?_
  cases hf
  exact ret H locs _ ls I dX12_costBy_25
def M_layOrders_s2 (x5 : Int32) (x10 : Int32) (G11 : Nat → Nat → Int32) : Option ((Int32 × (Nat → Nat → Int32)) ⊕ ((Nat → Nat → Int32))) :=
if G11 1 0 ≤ x10 then
(some (.inr G11))
else
(bd (if (x5 >>> (x10 &&& 31)) &&& (1 : Int32) = (1 : Int32) then
(bd (M_costBy G11 x10 x5) fun r18 =>
ri 256 (x5 &&& (((1 : Int32) <<< (x10 &&& 31)) ^^^ (-1 : Int32))) <|
nm (G11 31 (x5 &&& (((1 : Int32) <<< (x10 &&& 31)) ^^^ (-1 : Int32))).toNatClampNeg : Int32) fun x21 =>
ri 256 x5 <|
bd (if G11 30 x5.toNatClampNeg ≤ r18 then
(ri 256 x5 <|
if r18 = G11 30 x5.toNatClampNeg then
(ri 256 x5 <|
some ((G11 31 x5.toNatClampNeg) + x21))
else
(ri 256 x5 <|
some (G11 31 x5.toNatClampNeg)))
else
(some x21)) fun x24 =>
ri 256 x5 <|
nm (wr G11 31 x5 x24) fun G26 =>
ri 256 x5 <|
bd (if G26 30 x5.toNatClampNeg ≤ r18 then
(ri 256 x5 <|
some (G26 30 x5.toNatClampNeg))
else
(some r18)) fun x29 =>
ri 256 x5 <|
nm (wr G26 30 x5 x29) fun G31 =>
some G31)
else
(some G11)) fun G15 =>
nm (x10 + (1 : Int32) : Int32) fun x16 =>
some (.inl (x16, G15)))
def M_layOrders_s1  (x5 : Int32) (G6 : Nat → Nat → Int32) : Option ((Int32 × (Nat → Nat → Int32)) ⊕ ((Nat → Nat → Int32))) :=
if (1 : Int32) <<< ((G6 1 0) &&& 31) ≤ x5 then
(some (.inr G6))
else
(ri 256 x5 <|
nm (wr G6 30 x5 (268435456 : Int32)) fun G9 =>
bd (lp (fun q => M_layOrders_s2 x5 q.1 q.2) FU ((0 : Int32), G9)) fun G12 =>
nm (x5 + (1 : Int32) : Int32) fun x13 =>
some (.inl (x13, G12)))
def M_layOrders (G : Nat → Nat → Int32) : Option ((Nat → Nat → Int32)) :=
ri 256 (0 : Int32) <|
nm (wr G 30 (0 : Int32) (0 : Int32)) fun G2 =>
ri 256 (0 : Int32) <|
nm (wr G2 31 (0 : Int32) (1 : Int32)) fun G4 =>
bd (lp (fun q => M_layOrders_s1 q.1 q.2) FU ((1 : Int32), G4)) fun G7 =>
some G7
set_option maxRecDepth 100000 in
set_option maxHeartbeats 4000000 in
theorem cM_layOrders (G : Nat → Nat → Int32) (E : Nat → Nat → Int64) (Dd : Nat → Nat → UInt64)   (newG : Nat → Nat → Int32) (hf : M_layOrders G = some newG) : sMv D (mT cI cJ cD) (mW ad cI cJ cD) l yX12_layOrders (ws1 yX12_layOrders cX12_layOrders 5 none) ({ frames := 3, cells := 0, slots := 0, locals := 68 }) [.ref (ad 0)] (G, E, Dd) (newG, E, Dd) := by
  unfold M_layOrders at hf
  refine sMv_of (by decide) (Nat.le_of_ble_eq_true rfl) ?_
  intro p e R s m args below meth c A Q ls H locs F hRf hRl I hl ret
  obtain ⟨hx, hb, hml, hown, hG⟩ := id F
  replace hl : lv_has ls 5 [(0, .ref (ad 0))] := hl
  refine lv_aload_n hx hb dX12_layOrders_0 rfl (lv_at hl 0 rfl) ?_
  refine mgtX12_59_0 F I dX12_layOrders_1 ?_
  refine lv_iconst (v := (0 : Int32)) hx hb dX12_layOrders_4 (by decide) ?_
  refine lv_iconst (v := (0 : Int32)) hx hb dX12_layOrders_5 (by decide) ?_
  obtain ⟨g1, hf⟩ := ri_some hf
  refine mas16 F I g1 dX12_layOrders_6 ?_
  intro H locs G2 eG2 I
  replace hf := nm_some eG2 hf
  refine lv_aload_n hx hb dX12_layOrders_7 rfl (lv_at hl 0 rfl) ?_
  refine mgtX12_62_0 F I dX12_layOrders_8 ?_
  refine lv_iconst (v := (0 : Int32)) hx hb dX12_layOrders_11 (by decide) ?_
  refine lv_iconst (v := (1 : Int32)) hx hb dX12_layOrders_12 (by decide) ?_
  obtain ⟨g3, hf⟩ := ri_some hf
  refine mas17 F I g3 dX12_layOrders_13 ?_
  intro H locs G4 eG4 I
  replace hf := nm_some eG4 hf
  refine lv_iconst (v := (1 : Int32)) hx hb dX12_layOrders_14 (by decide) ?_
  refine lv_istore_n (lv' := [(1, .int (1 : Int32)), (0, .ref (ad 0))]) hx hb dX12_layOrders_15 rfl hl (by decide) rfl (fun ls hl => ?_)
  obtain ⟨G7, hq1, hf⟩ := bd_some hf
  have K1 : ∀ (H : Heap) (locs : List Loc), sInv D (mT cI cJ cD) (mW ad cI cJ cD) A s H locs (G7, E, Dd) → ∀ (ls : Array Slot), lv_has ls 5 [] → W p l e R s m args below meth c H locs 0 0 Q (F0 m 162 ls []) := by
    intro H locs I ls hl
    cases hf
    exact ret H locs _ ls I dX12_layOrders_162
  have L1 : ∀ (n : Nat) (x5 : Int32) (G6 : Nat → Nat → Int32), lp (fun q => M_layOrders_s1 q.1 q.2) n (x5, G6) = some G7 → ∀ (H : Heap) (locs : List Loc), sInv D (mT cI cJ cD) (mW ad cI cJ cD) A s H locs (G6, E, Dd) → ∀ (ls : Array Slot), lv_has ls 5 [(0, .ref (ad 0)), (1, .int x5)] → W p l e R s m args below meth c H locs 0 0 Q (F0 m 16 ls []) := by
    intro n
    induction n with
    | zero => intro x5 G6 hq; exact (lp_0 hq).elim
    | succ n ih1 =>
      intro x5 G6 hq H locs I ls hl
      obtain ⟨y1, hf, hK1⟩ := lp_go hq
      replace hf : M_layOrders_s1 x5 G6 = some y1 := hf
      unfold M_layOrders_s1 at hf
      refine lv_iload_n hx hb dX12_layOrders_16 rfl (lv_at hl 1 rfl) ?_
      refine lv_iconst (v := (1 : Int32)) hx hb dX12_layOrders_17 (by decide) ?_
      refine lv_aload_n hx hb dX12_layOrders_18 rfl (lv_at hl 0 rfl) ?_
      refine mgtX12_92_0 F I dX12_layOrders_19 ?_
      refine lv_ishl hx hb dX12_layOrders_22 ?_
      refine lv_icmp_ge (tgt := 162) hx hb dX12_layOrders_23 (by decide) (fun c43 => ?_) (fun c43 => ?_)
      · replace hf := (if_pos c43).symm.trans hf
        cases hf
        cases (show G6 = G7 from hK1)
        exact K1 H locs I ls (lv_sub hl [] rfl)
      · replace hf := (if_neg c43).symm.trans hf
        refine lv_aload_n hx hb dX12_layOrders_26 rfl (lv_at hl 0 rfl) ?_
        refine mgtX12_59_0 F I dX12_layOrders_27 ?_
        refine lv_iload_n hx hb dX12_layOrders_30 rfl (lv_at hl 1 rfl) ?_
        refine lv_ldcw (v := (268435456 : Int32)) hx hb hown (hG _ q1534) dX12_layOrders_31 ?_
        obtain ⟨g8, hf⟩ := ri_some hf
        refine mas16 F I g8 dX12_layOrders_34 ?_
        intro H locs G9 eG9 I
        replace hf := nm_some eG9 hf
        refine lv_iconst (v := (0 : Int32)) hx hb dX12_layOrders_35 (by decide) ?_
        refine lv_istore_n (lv' := [(2, .int (0 : Int32)), (0, .ref (ad 0)), (1, .int x5)]) hx hb dX12_layOrders_36 rfl hl (by decide) rfl (fun ls hl => ?_)
        obtain ⟨G12, hq2, hf⟩ := bd_some hf
        have K2 : ∀ (H : Heap) (locs : List Loc), sInv D (mT cI cJ cD) (mW ad cI cJ cD) A s H locs (G12, E, Dd) → ∀ (ls : Array Slot), lv_has ls 5 [(0, .ref (ad 0)), (1, .int x5)] → W p l e R s m args below meth c H locs 0 0 Q (F0 m 156 ls []) := by
          intro H locs I ls hl
          obtain ⟨x13, ex13⟩ : ∃ y : Int32, y = x5 + (1 : Int32) := ⟨_, rfl⟩
          replace hf := nm_some ex13 hf
          refine lv_iinc (v := x13) (lv' := [(1, .int x13), (0, .ref (ad 0))]) hx hb dX12_layOrders_156 hl (k := 1) rfl (by rw [ex13]; rfl) (by decide) rfl (fun ls hl => ?_)
          refine lv_goto (tgt := 16) hx hb dX12_layOrders_159 (by decide) ?_
          cases hf
          exact ih1 _ _ hK1 H locs I ls (lv_sub hl [1, 0] rfl)
        have L2 : ∀ (n : Nat) (x10 : Int32) (G11 : Nat → Nat → Int32), lp (fun q => M_layOrders_s2 x5 q.1 q.2) n (x10, G11) = some G12 → ∀ (H : Heap) (locs : List Loc), sInv D (mT cI cJ cD) (mW ad cI cJ cD) A s H locs (G11, E, Dd) → ∀ (ls : Array Slot), lv_has ls 5 [(0, .ref (ad 0)), (1, .int x5), (2, .int x10)] → W p l e R s m args below meth c H locs 0 0 Q (F0 m 37 ls []) := by
          intro n
          induction n with
          | zero => intro x10 G11 hq; exact (lp_0 hq).elim
          | succ n ih2 =>
            intro x10 G11 hq H locs I ls hl
            obtain ⟨y2, hf, hK2⟩ := lp_go hq
            replace hf : M_layOrders_s2 x5 x10 G11 = some y2 := hf
            unfold M_layOrders_s2 at hf
            refine lv_iload_n hx hb dX12_layOrders_37 rfl (lv_at hl 2 rfl) ?_
            refine lv_aload_n hx hb dX12_layOrders_38 rfl (lv_at hl 0 rfl) ?_
            refine mgtX12_92_0 F I dX12_layOrders_39 ?_
            refine lv_icmp_ge (tgt := 156) hx hb dX12_layOrders_42 (by decide) (fun c42 => ?_) (fun c42 => ?_)
            · replace hf := (if_pos c42).symm.trans hf
              cases hf
              cases (show G11 = G12 from hK2)
              exact K2 H locs I ls (lv_sub hl [0, 1] rfl)
            · replace hf := (if_neg c42).symm.trans hf
              refine lv_iload_n hx hb dX12_layOrders_45 rfl (lv_at hl 1 rfl) ?_
              refine lv_iload_n hx hb dX12_layOrders_46 rfl (lv_at hl 2 rfl) ?_
              refine lv_ishr hx hb dX12_layOrders_47 ?_
              refine lv_iconst (v := (1 : Int32)) hx hb dX12_layOrders_48 (by decide) ?_
              refine lv_iand hx hb dX12_layOrders_49 ?_
              refine lv_iconst (v := (1 : Int32)) hx hb dX12_layOrders_50 (by decide) ?_
              obtain ⟨G15, hv17, hf⟩ := bd_some hf
              have J14 : ∀ (H : Heap) (locs : List Loc), sInv D (mT cI cJ cD) (mW ad cI cJ cD) A s H locs (G15, E, Dd) → ∀ (ls : Array Slot), lv_has ls 5 [(0, .ref (ad 0)), (1, .int x5), (2, .int x10)] → W p l e R s m args below meth c H locs 0 0 Q (F0 m 150 ls []) := by
                intro H locs I ls hl
                obtain ⟨x16, ex16⟩ : ∃ y : Int32, y = x10 + (1 : Int32) := ⟨_, rfl⟩
                replace hf := nm_some ex16 hf
                refine lv_iinc (v := x16) (lv' := [(2, .int x16), (0, .ref (ad 0)), (1, .int x5)]) hx hb dX12_layOrders_150 hl (k := 2) rfl (by rw [ex16]; rfl) (by decide) rfl (fun ls hl => ?_)
                refine lv_goto (tgt := 37) hx hb dX12_layOrders_153 (by decide) ?_
                cases hf
                exact ih2 _ _ hK2 H locs I ls (lv_sub hl [1, 2, 0] rfl)
              replace hf := hv17
              refine lv_icmp_ne (tgt := 150) hx hb dX12_layOrders_51 (by decide) (fun c41 => ?_) (fun c41 => ?_)
              · replace hf := (if_neg c41).symm.trans hf
                cases hf
                exact J14 H locs I ls (lv_sub hl [0, 1, 2] rfl)
              · replace hf := (if_pos c41).symm.trans hf
                refine lv_aload_n hx hb dX12_layOrders_54 rfl (lv_at hl 0 rfl) ?_
                refine lv_iload_n hx hb dX12_layOrders_55 rfl (lv_at hl 2 rfl) ?_
                refine lv_iload_n hx hb dX12_layOrders_56 rfl (lv_at hl 1 rfl) ?_
                obtain ⟨r18, h19, hf⟩ := bd_some hf
                refine s_callVi (As := [.int x10, .int x5]) (rest := []) F I (cM_costBy G11 E Dd x10 x5 r18 h19) kX12_266 ⟨rfl, rfl⟩ ⟨Nat.le_trans (Nat.le_of_ble_eq_true rfl) hRf, Nat.le_trans (Nat.le_of_ble_eq_true rfl) hRl⟩ 0 12 rfl rfl rfl rfl rfl hl.1 (Nat.le_of_ble_eq_true rfl) ⟨Nat.zero_le _, Nat.zero_le _⟩ dX12_layOrders_57 ?_
                intro H locs I
                refine lv_istore_n (lv' := [(3, .int r18), (0, .ref (ad 0)), (1, .int x5), (2, .int x10)]) hx hb dX12_layOrders_60 rfl hl (by decide) rfl (fun ls hl => ?_)
                refine lv_aload_n hx hb dX12_layOrders_61 rfl (lv_at hl 1 rfl) ?_
                refine mgtX12_62_0 F I dX12_layOrders_62 ?_
                refine lv_iload_n hx hb dX12_layOrders_65 rfl (lv_at hl 2 rfl) ?_
                refine lv_iconst (v := (1 : Int32)) hx hb dX12_layOrders_66 (by decide) ?_
                refine lv_iload_n hx hb dX12_layOrders_67 rfl (lv_at hl 3 rfl) ?_
                refine lv_ishl hx hb dX12_layOrders_68 ?_
                refine lv_iconst (v := (-1 : Int32)) hx hb dX12_layOrders_69 (by decide) ?_
                refine lv_ixor hx hb dX12_layOrders_70 ?_
                refine lv_iand hx hb dX12_layOrders_71 ?_
                obtain ⟨g20, hf⟩ := ri_some hf
                refine mal17 F I g20 dX12_layOrders_72 ?_
                refine lv_topi (fun x21 ex21 => ?_)
                replace hf := nm_some ex21 hf
                refine lv_istore (lv' := [(4, .int x21), (3, .int r18), (0, .ref (ad 0)), (1, .int x5), (2, .int x10)]) hx hb dX12_layOrders_73 hl (by decide) rfl (fun ls hl => ?_)
                refine lv_aload_n hx hb dX12_layOrders_75 rfl (lv_at hl 2 rfl) ?_
                refine mgtX12_62_0 F I dX12_layOrders_76 ?_
                refine lv_iload_n hx hb dX12_layOrders_79 rfl (lv_at hl 3 rfl) ?_
                refine lv_iload_n hx hb dX12_layOrders_80 rfl (lv_at hl 1 rfl) ?_
                refine lv_aload_n hx hb dX12_layOrders_81 rfl (lv_at hl 2 rfl) ?_
                refine mgtX12_59_0 F I dX12_layOrders_82 ?_
                refine lv_iload_n hx hb dX12_layOrders_85 rfl (lv_at hl 3 rfl) ?_
                obtain ⟨g22, hf⟩ := ri_some hf
                refine mal16 F I g22 dX12_layOrders_86 ?_
                obtain ⟨x24, hv35, hf⟩ := bd_some hf
                have J23 : ∀ (H : Heap) (locs : List Loc), sInv D (mT cI cJ cD) (mW ad cI cJ cD) A s H locs (G11, E, Dd) → ∀ (ls : Array Slot), lv_has ls 5 [(0, .ref (ad 0)), (1, .int x5), (2, .int x10), (3, .int r18)] → W p l e R s m args below meth c H locs 0 0 Q (F0 m 123 ls [.int x24, .int x5, .ref (ad 17)]) := by
                  intro H locs I ls hl
                  obtain ⟨g25, hf⟩ := ri_some hf
                  refine mas17 F I g25 dX12_layOrders_123 ?_
                  intro H locs G26 eG26 I
                  replace hf := nm_some eG26 hf
                  refine lv_aload_n hx hb dX12_layOrders_124 rfl (lv_at hl 0 rfl) ?_
                  refine mgtX12_59_0 F I dX12_layOrders_125 ?_
                  refine lv_iload_n hx hb dX12_layOrders_128 rfl (lv_at hl 1 rfl) ?_
                  refine lv_iload_n hx hb dX12_layOrders_129 rfl (lv_at hl 3 rfl) ?_
                  refine lv_aload_n hx hb dX12_layOrders_130 rfl (lv_at hl 0 rfl) ?_
                  refine mgtX12_59_0 F I dX12_layOrders_131 ?_
                  refine lv_iload_n hx hb dX12_layOrders_134 rfl (lv_at hl 1 rfl) ?_
                  obtain ⟨g27, hf⟩ := ri_some hf
                  refine mal16 F I g27 dX12_layOrders_135 ?_
                  obtain ⟨x29, hv32, hf⟩ := bd_some hf
                  have J28 : ∀ (H : Heap) (locs : List Loc), sInv D (mT cI cJ cD) (mW ad cI cJ cD) A s H locs (G26, E, Dd) → ∀ (ls : Array Slot), lv_has ls 5 [(0, .ref (ad 0)), (1, .int x5), (2, .int x10)] → W p l e R s m args below meth c H locs 0 0 Q (F0 m 149 ls [.int x29, .int x5, .ref (ad 16)]) := by
                    intro H locs I ls hl
                    obtain ⟨g30, hf⟩ := ri_some hf
                    refine mas16 F I g30 dX12_layOrders_149 ?_
                    intro H locs G31 eG31 I
                    replace hf := nm_some eG31 hf
                    cases hf
                    exact J14 H locs I ls (lv_sub hl [0, 1, 2] rfl)
                  replace hf := hv32
                  refine lv_icmp_ge (tgt := 143) hx hb dX12_layOrders_136 (by decide) (fun c34 => ?_) (fun c34 => ?_)
                  · replace hf := (if_pos c34).symm.trans hf
                    refine lv_aload_n hx hb dX12_layOrders_143 rfl (lv_at hl 0 rfl) ?_
                    refine mgtX12_59_0 F I dX12_layOrders_144 ?_
                    refine lv_iload_n hx hb dX12_layOrders_147 rfl (lv_at hl 1 rfl) ?_
                    obtain ⟨g33, hf⟩ := ri_some hf
                    refine mal16 F I g33 dX12_layOrders_148 ?_
                    cases hf
                    exact J28 H locs I ls (lv_sub hl [0, 1, 2] rfl)
                  · replace hf := (if_neg c34).symm.trans hf
                    refine lv_iload_n hx hb dX12_layOrders_139 rfl (lv_at hl 3 rfl) ?_
                    refine lv_goto (tgt := 149) hx hb dX12_layOrders_140 (by decide) ?_
                    cases hf
                    exact J28 H locs I ls (lv_sub hl [0, 1, 2] rfl)
                replace hf := hv35
                refine lv_icmp_ge (tgt := 95) hx hb dX12_layOrders_87 (by decide) (fun c40 => ?_) (fun c40 => ?_)
                · replace hf := (if_pos c40).symm.trans hf
                  refine lv_iload_n hx hb dX12_layOrders_95 rfl (lv_at hl 1 rfl) ?_
                  refine lv_aload_n hx hb dX12_layOrders_96 rfl (lv_at hl 2 rfl) ?_
                  refine mgtX12_59_0 F I dX12_layOrders_97 ?_
                  refine lv_iload_n hx hb dX12_layOrders_100 rfl (lv_at hl 3 rfl) ?_
                  obtain ⟨g36, hf⟩ := ri_some hf
                  refine mal16 F I g36 dX12_layOrders_101 ?_
                  refine lv_icmp_ne (tgt := 117) hx hb dX12_layOrders_102 (by decide) (fun c39 => ?_) (fun c39 => ?_)
                  · replace hf := (if_neg c39).symm.trans hf
                    refine lv_aload_n hx hb dX12_layOrders_117 rfl (lv_at hl 2 rfl) ?_
                    refine mgtX12_62_0 F I dX12_layOrders_118 ?_
                    refine lv_iload_n hx hb dX12_layOrders_121 rfl (lv_at hl 3 rfl) ?_
                    obtain ⟨g37, hf⟩ := ri_some hf
                    refine mal17 F I g37 dX12_layOrders_122 ?_
                    cases hf
                    exact J23 H locs I ls (lv_sub hl [2, 3, 4, 1] rfl)
                  · replace hf := (if_pos c39).symm.trans hf
                    refine lv_aload_n hx hb dX12_layOrders_105 rfl (lv_at hl 2 rfl) ?_
                    refine mgtX12_62_0 F I dX12_layOrders_106 ?_
                    refine lv_iload_n hx hb dX12_layOrders_109 rfl (lv_at hl 3 rfl) ?_
                    obtain ⟨g38, hf⟩ := ri_some hf
                    refine mal17 F I g38 dX12_layOrders_110 ?_
                    refine lv_iload hx hb dX12_layOrders_111 (lv_at hl 0 rfl) ?_
                    refine lv_iadd hx hb dX12_layOrders_113 ?_
                    refine lv_goto (tgt := 123) hx hb dX12_layOrders_114 (by decide) ?_
                    cases hf
                    exact J23 H locs I ls (lv_sub hl [2, 3, 4, 1] rfl)
                · replace hf := (if_neg c40).symm.trans hf
                  refine lv_iload hx hb dX12_layOrders_90 (lv_at hl 0 rfl) ?_
                  refine lv_goto (tgt := 123) hx hb dX12_layOrders_92 (by decide) ?_
                  cases hf
                  exact J23 H locs I ls (lv_sub hl [2, 3, 4, 1] rfl)
        exact L2 FU _ _ hq2 H locs I ls (lv_sub hl [1, 2, 0] rfl)
  exact L1 FU _ _ hq1 H locs I ls (lv_sub hl [1, 0] rfl)
def M_at_s2 (x2 : Int32) (G : Nat → Nat → Int32) (x6 : Int32) : Option ((Int32) ⊕ (Int32)) :=
if (x2 >>> (x6 &&& 31)) &&& (1 : Int32) = 0 then
(nm (x6 + (1 : Int32) : Int32) fun x10 =>
some (.inl x10))
else
(bd (M_costBy G x6 x2) fun r11 =>
ri 256 x2 <|
if r11 = G 30 x2.toNatClampNeg then
(some (.inr x6))
else
(nm (x6 + (1 : Int32) : Int32) fun x14 =>
some (.inl x14)))
def M_at_s1 (a0 : Int32) (G : Nat → Nat → Int32) (x2 : Int32) (x3 : Int32) (x4 : Int32) : Option ((Int32 × Int32 × Int32) ⊕ (Int32)) :=
if a0 < x4 then
(some (.inr x3))
else
(bd (lp (fun q => M_at_s2 x2 G q) FU (0 : Int32)) fun r7 =>
nm (x2 &&& (((1 : Int32) <<< (r7 &&& 31)) ^^^ (-1 : Int32)) : Int32) fun x8 =>
nm (x4 + (1 : Int32) : Int32) fun x9 =>
some (.inl (x8, r7, x9)))
def M_at (G : Nat → Nat → Int32) (a0 : Int32) : Option (Int32) :=
nm (((1 : Int32) <<< ((G 1 0) &&& 31)) - (1 : Int32) : Int32) fun x1 =>
bd (lp (fun q => M_at_s1 a0 G q.1 q.2.1 q.2.2) FU (x1, (0 : Int32), (0 : Int32))) fun r5 =>
some r5
set_option maxRecDepth 100000 in
set_option maxHeartbeats 4000000 in
theorem cM_at (G : Nat → Nat → Int32) (E : Nat → Nat → Int64) (Dd : Nat → Nat → UInt64) (a0 : Int32) (rv : Int32)  (hf : M_at G a0 = some rv) : sMi D (mT cI cJ cD) (mW ad cI cJ cD) l yX12_at (ws1 yX12_at cX12_at 5 (some .int)) ({ frames := 3, cells := 0, slots := 0, locals := 68 }) [.ref (ad 0), .int a0] (G, E, Dd) (rv, (G, E, Dd)) := by
  unfold M_at at hf
  refine sMi_of (by decide) (Nat.le_of_ble_eq_true rfl) ?_
  intro p e R s m args below meth c A Q ls H locs F hRf hRl I hl ret
  obtain ⟨hx, hb, hml, hown, hG⟩ := id F
  replace hl : lv_has ls 5 [(0, .ref (ad 0)), (1, .int a0)] := hl
  refine lv_iconst (v := (1 : Int32)) hx hb dX12_at_0 (by decide) ?_
  refine lv_aload_n hx hb dX12_at_1 rfl (lv_at hl 0 rfl) ?_
  refine mgtX12_92_0 F I dX12_at_2 ?_
  refine lv_ishl hx hb dX12_at_5 ?_
  refine lv_iconst (v := (1 : Int32)) hx hb dX12_at_6 (by decide) ?_
  refine lv_isub hx hb dX12_at_7 ?_
  refine lv_topi (fun x1 ex1 => ?_)
  replace hf := nm_some ex1 hf
  refine lv_istore_n (lv' := [(2, .int x1), (0, .ref (ad 0)), (1, .int a0)]) hx hb dX12_at_8 rfl hl (by decide) rfl (fun ls hl => ?_)
  refine lv_iconst (v := (0 : Int32)) hx hb dX12_at_9 (by decide) ?_
  refine lv_istore_n (lv' := [(3, .int (0 : Int32)), (2, .int x1), (0, .ref (ad 0)), (1, .int a0)]) hx hb dX12_at_10 rfl hl (by decide) rfl (fun ls hl => ?_)
  refine lv_iconst (v := (0 : Int32)) hx hb dX12_at_11 (by decide) ?_
  refine lv_istore (lv' := [(4, .int (0 : Int32)), (3, .int (0 : Int32)), (2, .int x1), (0, .ref (ad 0)), (1, .int a0)]) hx hb dX12_at_12 hl (by decide) rfl (fun ls hl => ?_)
  obtain ⟨r5, hq1, hf⟩ := bd_some hf
  have K1 : ∀ (H : Heap) (locs : List Loc), sInv D (mT cI cJ cD) (mW ad cI cJ cD) A s H locs (G, E, Dd) → ∀ (ls : Array Slot), lv_has ls 5 [(3, .int r5)] → W p l e R s m args below meth c H locs 0 0 Q (F0 m 65 ls []) := by
    intro H locs I ls hl
    refine lv_iload_n hx hb dX12_at_65 rfl (lv_at hl 0 rfl) ?_
    cases hf
    exact ret H locs _ ls I dX12_at_66
  have L1 : ∀ (n : Nat) (x2 : Int32) (x3 : Int32) (x4 : Int32), lp (fun q => M_at_s1 a0 G q.1 q.2.1 q.2.2) n (x2, x3, x4) = some r5 → ∀ (H : Heap) (locs : List Loc), sInv D (mT cI cJ cD) (mW ad cI cJ cD) A s H locs (G, E, Dd) → ∀ (ls : Array Slot), lv_has ls 5 [(0, .ref (ad 0)), (1, .int a0), (2, .int x2), (3, .int x3), (4, .int x4)] → W p l e R s m args below meth c H locs 0 0 Q (F0 m 14 ls []) := by
    intro n
    induction n with
    | zero => intro x2 x3 x4 hq; exact (lp_0 hq).elim
    | succ n ih1 =>
      intro x2 x3 x4 hq H locs I ls hl
      obtain ⟨y1, hf, hK1⟩ := lp_go hq
      replace hf : M_at_s1 a0 G x2 x3 x4 = some y1 := hf
      unfold M_at_s1 at hf
      refine lv_iload hx hb dX12_at_14 (lv_at hl 4 rfl) ?_
      refine lv_iload_n hx hb dX12_at_16 rfl (lv_at hl 1 rfl) ?_
      refine lv_icmp_gt (tgt := 65) hx hb dX12_at_17 (by decide) (fun c17 => ?_) (fun c17 => ?_)
      · replace hf := (if_pos c17).symm.trans hf
        cases hf
        cases (show x3 = r5 from hK1)
        exact K1 H locs I ls (lv_sub hl [3] rfl)
      · replace hf := (if_neg c17).symm.trans hf
        refine lv_iconst (v := (0 : Int32)) hx hb dX12_at_20 (by decide) ?_
        refine lv_istore_n (lv' := [(3, .int (0 : Int32)), (0, .ref (ad 0)), (1, .int a0), (2, .int x2), (4, .int x4)]) hx hb dX12_at_21 rfl hl (by decide) rfl (fun ls hl => ?_)
        obtain ⟨r7, hq2, hf⟩ := bd_some hf
        have K2 : ∀ (H : Heap) (locs : List Loc), sInv D (mT cI cJ cD) (mW ad cI cJ cD) A s H locs (G, E, Dd) → ∀ (ls : Array Slot), lv_has ls 5 [(0, .ref (ad 0)), (1, .int a0), (2, .int x2), (3, .int r7), (4, .int x4)] → W p l e R s m args below meth c H locs 0 0 Q (F0 m 51 ls []) := by
          intro H locs I ls hl
          refine lv_iload_n hx hb dX12_at_51 rfl (lv_at hl 2 rfl) ?_
          refine lv_iconst (v := (1 : Int32)) hx hb dX12_at_52 (by decide) ?_
          refine lv_iload_n hx hb dX12_at_53 rfl (lv_at hl 3 rfl) ?_
          refine lv_ishl hx hb dX12_at_54 ?_
          refine lv_iconst (v := (-1 : Int32)) hx hb dX12_at_55 (by decide) ?_
          refine lv_ixor hx hb dX12_at_56 ?_
          refine lv_iand hx hb dX12_at_57 ?_
          refine lv_topi (fun x8 ex8 => ?_)
          replace hf := nm_some ex8 hf
          refine lv_istore_n (lv' := [(2, .int x8), (0, .ref (ad 0)), (1, .int a0), (3, .int r7), (4, .int x4)]) hx hb dX12_at_58 rfl hl (by decide) rfl (fun ls hl => ?_)
          obtain ⟨x9, ex9⟩ : ∃ y : Int32, y = x4 + (1 : Int32) := ⟨_, rfl⟩
          replace hf := nm_some ex9 hf
          refine lv_iinc (v := x9) (lv' := [(4, .int x9), (2, .int x8), (0, .ref (ad 0)), (1, .int a0), (3, .int r7)]) hx hb dX12_at_59 hl (k := 4) rfl (by rw [ex9]; rfl) (by decide) rfl (fun ls hl => ?_)
          refine lv_goto (tgt := 14) hx hb dX12_at_62 (by decide) ?_
          cases hf
          exact ih1 _ _ _ hK1 H locs I ls (lv_sub hl [2, 3, 1, 4, 0] rfl)
        have L2 : ∀ (n : Nat) (x6 : Int32), lp (fun q => M_at_s2 x2 G q) n x6 = some r7 → ∀ (H : Heap) (locs : List Loc), sInv D (mT cI cJ cD) (mW ad cI cJ cD) A s H locs (G, E, Dd) → ∀ (ls : Array Slot), lv_has ls 5 [(0, .ref (ad 0)), (1, .int a0), (2, .int x2), (3, .int x6), (4, .int x4)] → W p l e R s m args below meth c H locs 0 0 Q (F0 m 22 ls []) := by
          intro n
          induction n with
          | zero => intro x6 hq; exact (lp_0 hq).elim
          | succ n ih2 =>
            intro x6 hq H locs I ls hl
            obtain ⟨y2, hf, hK2⟩ := lp_go hq
            replace hf : M_at_s2 x2 G x6 = some y2 := hf
            unfold M_at_s2 at hf
            refine lv_iload_n hx hb dX12_at_22 rfl (lv_at hl 2 rfl) ?_
            refine lv_iload_n hx hb dX12_at_23 rfl (lv_at hl 3 rfl) ?_
            refine lv_ishr hx hb dX12_at_24 ?_
            refine lv_iconst (v := (1 : Int32)) hx hb dX12_at_25 (by decide) ?_
            refine lv_iand hx hb dX12_at_26 ?_
            refine lv_if_eq (tgt := 45) hx hb dX12_at_27 (by decide) (fun c16 => ?_) (fun c16 => ?_)
            · replace hf := (if_pos c16).symm.trans hf
              obtain ⟨x10, ex10⟩ : ∃ y : Int32, y = x6 + (1 : Int32) := ⟨_, rfl⟩
              replace hf := nm_some ex10 hf
              refine lv_iinc (v := x10) (lv' := [(3, .int x10), (0, .ref (ad 0)), (1, .int a0), (2, .int x2), (4, .int x4)]) hx hb dX12_at_45 hl (k := 3) rfl (by rw [ex10]; rfl) (by decide) rfl (fun ls hl => ?_)
              refine lv_goto (tgt := 22) hx hb dX12_at_48 (by decide) ?_
              cases hf
              exact ih2 _ hK2 H locs I ls (lv_sub hl [1, 2, 3, 0, 4] rfl)
            · replace hf := (if_neg c16).symm.trans hf
              refine lv_aload_n hx hb dX12_at_30 rfl (lv_at hl 0 rfl) ?_
              refine lv_iload_n hx hb dX12_at_31 rfl (lv_at hl 3 rfl) ?_
              refine lv_iload_n hx hb dX12_at_32 rfl (lv_at hl 2 rfl) ?_
              obtain ⟨r11, h12, hf⟩ := bd_some hf
              refine s_callVi (As := [.int x6, .int x2]) (rest := []) F I (cM_costBy G E Dd x6 x2 r11 h12) kX12_266 ⟨rfl, rfl⟩ ⟨Nat.le_trans (Nat.le_of_ble_eq_true rfl) hRf, Nat.le_trans (Nat.le_of_ble_eq_true rfl) hRl⟩ 0 12 rfl rfl rfl rfl rfl hl.1 (Nat.le_of_ble_eq_true rfl) ⟨Nat.zero_le _, Nat.zero_le _⟩ dX12_at_33 ?_
              intro H locs I
              refine lv_aload_n hx hb dX12_at_36 rfl (lv_at hl 0 rfl) ?_
              refine mgtX12_59_0 F I dX12_at_37 ?_
              refine lv_iload_n hx hb dX12_at_40 rfl (lv_at hl 2 rfl) ?_
              obtain ⟨g13, hf⟩ := ri_some hf
              refine mal16 F I g13 dX12_at_41 ?_
              refine lv_icmp_eq (tgt := 51) hx hb dX12_at_42 (by decide) (fun c15 => ?_) (fun c15 => ?_)
              · replace hf := (if_pos c15).symm.trans hf
                cases hf
                cases (show x6 = r7 from hK2)
                exact K2 H locs I ls (lv_sub hl [0, 1, 2, 3, 4] rfl)
              · replace hf := (if_neg c15).symm.trans hf
                obtain ⟨x14, ex14⟩ : ∃ y : Int32, y = x6 + (1 : Int32) := ⟨_, rfl⟩
                replace hf := nm_some ex14 hf
                refine lv_iinc (v := x14) (lv' := [(3, .int x14), (0, .ref (ad 0)), (1, .int a0), (2, .int x2), (4, .int x4)]) hx hb dX12_at_45 hl (k := 3) rfl (by rw [ex14]; rfl) (by decide) rfl (fun ls hl => ?_)
                refine lv_goto (tgt := 22) hx hb dX12_at_48 (by decide) ?_
                cases hf
                exact ih2 _ hK2 H locs I ls (lv_sub hl [1, 2, 3, 0, 4] rfl)
        exact L2 FU _ hq2 H locs I ls (lv_sub hl [1, 2, 3, 0, 4] rfl)
  exact L1 FU _ _ _ hq1 H locs I ls (lv_sub hl [3, 4, 2, 1, 0] rfl)
def M_placeOf_s1 (a0 : Int32) (G : Nat → Nat → Int32) (x1 : Int32) : Option ((Int32) ⊕ (Int32)) :=
bd (M_at G x1) fun r3 =>
if r3 = a0 then
(some (.inr x1))
else
(nm (x1 + (1 : Int32) : Int32) fun x5 =>
some (.inl x5))
def M_placeOf (G : Nat → Nat → Int32) (a0 : Int32) : Option (Int32) :=
bd (lp (fun q => M_placeOf_s1 a0 G q) FU (0 : Int32)) fun r2 =>
some r2
set_option maxRecDepth 100000 in
set_option maxHeartbeats 4000000 in
theorem cM_placeOf (G : Nat → Nat → Int32) (E : Nat → Nat → Int64) (Dd : Nat → Nat → UInt64) (a0 : Int32) (rv : Int32)  (hf : M_placeOf G a0 = some rv) : sMi D (mT cI cJ cD) (mW ad cI cJ cD) l yX12_placeOf (ws1 yX12_placeOf cX12_placeOf 3 (some .int)) ({ frames := 4, cells := 0, slots := 0, locals := 92 }) [.ref (ad 0), .int a0] (G, E, Dd) (rv, (G, E, Dd)) := by
  unfold M_placeOf at hf
  refine sMi_of (by decide) (Nat.le_of_ble_eq_true rfl) ?_
  intro p e R s m args below meth c A Q ls H locs F hRf hRl I hl ret
  obtain ⟨hx, hb, hml, hown, hG⟩ := id F
  replace hl : lv_has ls 3 [(0, .ref (ad 0)), (1, .int a0)] := hl
  refine lv_iconst (v := (0 : Int32)) hx hb dX12_placeOf_0 (by decide) ?_
  refine lv_istore_n (lv' := [(2, .int (0 : Int32)), (0, .ref (ad 0)), (1, .int a0)]) hx hb dX12_placeOf_1 rfl hl (by decide) rfl (fun ls hl => ?_)
  obtain ⟨r2, hq1, hf⟩ := bd_some hf
  have K1 : ∀ (H : Heap) (locs : List Loc), sInv D (mT cI cJ cD) (mW ad cI cJ cD) A s H locs (G, E, Dd) → ∀ (ls : Array Slot), lv_has ls 3 [(2, .int r2)] → W p l e R s m args below meth c H locs 0 0 Q (F0 m 17 ls []) := by
    intro H locs I ls hl
    refine lv_iload_n hx hb dX12_placeOf_17 rfl (lv_at hl 0 rfl) ?_
    cases hf
    exact ret H locs _ ls I dX12_placeOf_18
  have L1 : ∀ (n : Nat) (x1 : Int32), lp (fun q => M_placeOf_s1 a0 G q) n x1 = some r2 → ∀ (H : Heap) (locs : List Loc), sInv D (mT cI cJ cD) (mW ad cI cJ cD) A s H locs (G, E, Dd) → ∀ (ls : Array Slot), lv_has ls 3 [(0, .ref (ad 0)), (1, .int a0), (2, .int x1)] → W p l e R s m args below meth c H locs 0 0 Q (F0 m 2 ls []) := by
    intro n
    induction n with
    | zero => intro x1 hq; exact (lp_0 hq).elim
    | succ n ih1 =>
      intro x1 hq H locs I ls hl
      obtain ⟨y1, hf, hK1⟩ := lp_go hq
      replace hf : M_placeOf_s1 a0 G x1 = some y1 := hf
      unfold M_placeOf_s1 at hf
      refine lv_aload_n hx hb dX12_placeOf_2 rfl (lv_at hl 0 rfl) ?_
      refine lv_iload_n hx hb dX12_placeOf_3 rfl (lv_at hl 2 rfl) ?_
      obtain ⟨r3, h4, hf⟩ := bd_some hf
      refine s_callVi (As := [.int x1]) (rest := []) F I (cM_at G E Dd x1 r3 h4) kX12_269 ⟨rfl, rfl⟩ ⟨Nat.le_trans (Nat.le_of_ble_eq_true rfl) hRf, Nat.le_trans (Nat.le_of_ble_eq_true rfl) hRl⟩ 0 12 rfl rfl rfl rfl rfl hl.1 (Nat.le_of_ble_eq_true rfl) ⟨Nat.zero_le _, Nat.zero_le _⟩ dX12_placeOf_4 ?_
      intro H locs I
      refine lv_iload_n hx hb dX12_placeOf_7 rfl (lv_at hl 1 rfl) ?_
      refine lv_icmp_eq (tgt := 17) hx hb dX12_placeOf_8 (by decide) (fun c6 => ?_) (fun c6 => ?_)
      · replace hf := (if_pos c6).symm.trans hf
        cases hf
        cases (show x1 = r2 from hK1)
        exact K1 H locs I ls (lv_sub hl [2] rfl)
      · replace hf := (if_neg c6).symm.trans hf
        obtain ⟨x5, ex5⟩ : ∃ y : Int32, y = x1 + (1 : Int32) := ⟨_, rfl⟩
        replace hf := nm_some ex5 hf
        refine lv_iinc (v := x5) (lv' := [(2, .int x5), (0, .ref (ad 0)), (1, .int a0)]) hx hb dX12_placeOf_11 hl (k := 2) rfl (by rw [ex5]; rfl) (by decide) rfl (fun ls hl => ?_)
        refine lv_goto (tgt := 2) hx hb dX12_placeOf_14 (by decide) ?_
        cases hf
        exact ih1 _ hK1 H locs I ls (lv_sub hl [1, 2, 0] rfl)
  exact L1 FU _ hq1 H locs I ls (lv_sub hl [1, 2, 0] rfl)
def M_sampleNow (G : Nat → Nat → Int32) (a0 : Int32) (a1 : Int32) : Option (Int32 × (Nat → Nat → Int32)) :=
bd (M_layMargins G) fun G1 =>
bd (M_layOrders G1) fun G3 =>
if a1 = (0 : Int32) then
(bd (M_pointsWithout G3 a0 (-1 : Int32)) fun r6 =>
some (r6, G3))
else if a1 = (1 : Int32) then
(bd (M_rankWithout G3 a0 (-1 : Int32)) fun r9 =>
some (r9, G3))
else if a1 = (2 : Int32) then
(bd (M_isStable G3 a0) fun r12 =>
if r12 = 0 then
(some ((0 : Int32), G3))
else
(some ((1 : Int32), G3)))
else if a1 = (3 : Int32) then
(bd (M_dominance G3 a0) fun r16 =>
some (r16, G3))
else if a1 = (4 : Int32) then
(bd (M_layerOf G3 a0) fun r19 =>
some (r19, G3))
else (bd (M_placeOf G3 a0) fun r21 =>
some (r21, G3))
set_option maxRecDepth 100000 in
set_option maxHeartbeats 4000000 in
theorem cM_sampleNow (G : Nat → Nat → Int32) (E : Nat → Nat → Int64) (Dd : Nat → Nat → UInt64) (a0 : Int32) (a1 : Int32) (rv : Int32) (newG : Nat → Nat → Int32) (hf : M_sampleNow G a0 a1 = some (rv, newG)) : sMi D (mT cI cJ cD) (mW ad cI cJ cD) l yX12_sampleNow (ws1 yX12_sampleNow cX12_sampleNow 3 (some .int)) ({ frames := 5, cells := 0, slots := 0, locals := 114 }) [.ref (ad 0), .int a0, .int a1] (G, E, Dd) (rv, (newG, E, Dd)) := by
  unfold M_sampleNow at hf
  refine sMi_of (by decide) (Nat.le_of_ble_eq_true rfl) ?_
  intro p e R s m args below meth c A Q ls H locs F hRf hRl I hl ret
  obtain ⟨hx, hb, hml, hown, hG⟩ := id F
  replace hl : lv_has ls 3 [(0, .ref (ad 0)), (1, .int a0), (2, .int a1)] := hl
  refine lv_aload_n hx hb dX12_sampleNow_0 rfl (lv_at hl 0 rfl) ?_
  obtain ⟨G1, h2, hf⟩ := bd_some hf
  refine s_callVv (As := []) (rest := []) F I (cM_layMargins G E Dd G1 h2) kX12_272 ⟨rfl, rfl⟩ ⟨Nat.le_trans (Nat.le_of_ble_eq_true rfl) hRf, Nat.le_trans (Nat.le_of_ble_eq_true rfl) hRl⟩ 0 12 rfl rfl rfl rfl rfl hl.1 (Nat.le_of_ble_eq_true rfl) ⟨Nat.zero_le _, Nat.zero_le _⟩ dX12_sampleNow_1 ?_
  intro H locs I
  refine lv_aload_n hx hb dX12_sampleNow_4 rfl (lv_at hl 0 rfl) ?_
  obtain ⟨G3, h4, hf⟩ := bd_some hf
  refine s_callVv (As := []) (rest := []) F I (cM_layOrders G1 E Dd G3 h4) kX12_275 ⟨rfl, rfl⟩ ⟨Nat.le_trans (Nat.le_of_ble_eq_true rfl) hRf, Nat.le_trans (Nat.le_of_ble_eq_true rfl) hRl⟩ 0 12 rfl rfl rfl rfl rfl hl.1 (Nat.le_of_ble_eq_true rfl) ⟨Nat.zero_le _, Nat.zero_le _⟩ dX12_sampleNow_5 ?_
  intro H locs I
  refine lv_iload_n hx hb dX12_sampleNow_8 rfl (lv_at hl 2 rfl) ?_
  by_cases c5 : a1 = (0 : Int32)
  · replace hf := (if_pos c5).symm.trans hf
    refine lv_tableIn (off := 35) (tgt := 44) hx hb dX12_sampleNow_9 (by rw [c5]; decide) (by rw [c5]; decide) (by rw [c5]; rfl) (by decide) ?_
    refine lv_aload_n hx hb dX12_sampleNow_44 rfl (lv_at hl 0 rfl) ?_
    refine lv_iload_n hx hb dX12_sampleNow_45 rfl (lv_at hl 1 rfl) ?_
    refine lv_iconst (v := (-1 : Int32)) hx hb dX12_sampleNow_46 (by decide) ?_
    obtain ⟨r6, h7, hf⟩ := bd_some hf
    refine s_callVi (As := [.int a0, .int (-1 : Int32)]) (rest := []) F I (cM_pointsWithout G3 E Dd a0 (-1 : Int32) r6 h7) kX12_243 ⟨rfl, rfl⟩ ⟨Nat.le_trans (Nat.le_of_ble_eq_true rfl) hRf, Nat.le_trans (Nat.le_of_ble_eq_true rfl) hRl⟩ 0 12 rfl rfl rfl rfl rfl hl.1 (Nat.le_of_ble_eq_true rfl) ⟨Nat.zero_le _, Nat.zero_le _⟩ dX12_sampleNow_47 ?_
    intro H locs I
    cases hf
    exact ret H locs _ ls I dX12_sampleNow_50
  replace hf := (if_neg c5).symm.trans hf
  by_cases c8 : a1 = (1 : Int32)
  · replace hf := (if_pos c8).symm.trans hf
    refine lv_tableIn (off := 42) (tgt := 51) hx hb dX12_sampleNow_9 (by rw [c8]; decide) (by rw [c8]; decide) (by rw [c8]; rfl) (by decide) ?_
    refine lv_aload_n hx hb dX12_sampleNow_51 rfl (lv_at hl 0 rfl) ?_
    refine lv_iload_n hx hb dX12_sampleNow_52 rfl (lv_at hl 1 rfl) ?_
    refine lv_iconst (v := (-1 : Int32)) hx hb dX12_sampleNow_53 (by decide) ?_
    obtain ⟨r9, h10, hf⟩ := bd_some hf
    refine s_callVi (As := [.int a0, .int (-1 : Int32)]) (rest := []) F I (cM_rankWithout G3 E Dd a0 (-1 : Int32) r9 h10) kX12_246 ⟨rfl, rfl⟩ ⟨Nat.le_trans (Nat.le_of_ble_eq_true rfl) hRf, Nat.le_trans (Nat.le_of_ble_eq_true rfl) hRl⟩ 0 12 rfl rfl rfl rfl rfl hl.1 (Nat.le_of_ble_eq_true rfl) ⟨Nat.zero_le _, Nat.zero_le _⟩ dX12_sampleNow_54 ?_
    intro H locs I
    cases hf
    exact ret H locs _ ls I dX12_sampleNow_57
  replace hf := (if_neg c8).symm.trans hf
  by_cases c11 : a1 = (2 : Int32)
  · replace hf := (if_pos c11).symm.trans hf
    refine lv_tableIn (off := 49) (tgt := 58) hx hb dX12_sampleNow_9 (by rw [c11]; decide) (by rw [c11]; decide) (by rw [c11]; rfl) (by decide) ?_
    refine lv_aload_n hx hb dX12_sampleNow_58 rfl (lv_at hl 0 rfl) ?_
    refine lv_iload_n hx hb dX12_sampleNow_59 rfl (lv_at hl 1 rfl) ?_
    obtain ⟨r12, h13, hf⟩ := bd_some hf
    refine s_callVi (As := [.int a0]) (rest := []) F I (cM_isStable G3 E Dd a0 r12 h13) kX12_278 ⟨rfl, rfl⟩ ⟨Nat.le_trans (Nat.le_of_ble_eq_true rfl) hRf, Nat.le_trans (Nat.le_of_ble_eq_true rfl) hRl⟩ 0 12 rfl rfl rfl rfl rfl hl.1 (Nat.le_of_ble_eq_true rfl) ⟨Nat.zero_le _, Nat.zero_le _⟩ dX12_sampleNow_60 ?_
    intro H locs I
    refine lv_if_eq (tgt := 70) hx hb dX12_sampleNow_63 (by decide) (fun c14 => ?_) (fun c14 => ?_)
    · replace hf := (if_pos c14).symm.trans hf
      refine lv_iconst (v := (0 : Int32)) hx hb dX12_sampleNow_70 (by decide) ?_
      cases hf
      exact ret H locs _ ls I dX12_sampleNow_71
    · replace hf := (if_neg c14).symm.trans hf
      refine lv_iconst (v := (1 : Int32)) hx hb dX12_sampleNow_66 (by decide) ?_
      refine lv_goto (tgt := 71) hx hb dX12_sampleNow_67 (by decide) ?_
      cases hf
      exact ret H locs _ ls I dX12_sampleNow_71
  replace hf := (if_neg c11).symm.trans hf
  by_cases c15 : a1 = (3 : Int32)
  · replace hf := (if_pos c15).symm.trans hf
    refine lv_tableIn (off := 63) (tgt := 72) hx hb dX12_sampleNow_9 (by rw [c15]; decide) (by rw [c15]; decide) (by rw [c15]; rfl) (by decide) ?_
    refine lv_aload_n hx hb dX12_sampleNow_72 rfl (lv_at hl 0 rfl) ?_
    refine lv_iload_n hx hb dX12_sampleNow_73 rfl (lv_at hl 1 rfl) ?_
    obtain ⟨r16, h17, hf⟩ := bd_some hf
    refine s_callVi (As := [.int a0]) (rest := []) F I (cM_dominance G3 E Dd a0 r16 h17) kX12_281 ⟨rfl, rfl⟩ ⟨Nat.le_trans (Nat.le_of_ble_eq_true rfl) hRf, Nat.le_trans (Nat.le_of_ble_eq_true rfl) hRl⟩ 0 12 rfl rfl rfl rfl rfl hl.1 (Nat.le_of_ble_eq_true rfl) ⟨Nat.zero_le _, Nat.zero_le _⟩ dX12_sampleNow_74 ?_
    intro H locs I
    cases hf
    exact ret H locs _ ls I dX12_sampleNow_77
  replace hf := (if_neg c15).symm.trans hf
  by_cases c18 : a1 = (4 : Int32)
  · replace hf := (if_pos c18).symm.trans hf
    refine lv_tableIn (off := 69) (tgt := 78) hx hb dX12_sampleNow_9 (by rw [c18]; decide) (by rw [c18]; decide) (by rw [c18]; rfl) (by decide) ?_
    refine lv_aload_n hx hb dX12_sampleNow_78 rfl (lv_at hl 0 rfl) ?_
    refine lv_iload_n hx hb dX12_sampleNow_79 rfl (lv_at hl 1 rfl) ?_
    obtain ⟨r19, h20, hf⟩ := bd_some hf
    refine s_callVi (As := [.int a0]) (rest := []) F I (cM_layerOf G3 E Dd a0 r19 h20) kX12_284 ⟨rfl, rfl⟩ ⟨Nat.le_trans (Nat.le_of_ble_eq_true rfl) hRf, Nat.le_trans (Nat.le_of_ble_eq_true rfl) hRl⟩ 0 12 rfl rfl rfl rfl rfl hl.1 (Nat.le_of_ble_eq_true rfl) ⟨Nat.zero_le _, Nat.zero_le _⟩ dX12_sampleNow_80 ?_
    intro H locs I
    cases hf
    exact ret H locs _ ls I dX12_sampleNow_83
  replace hf := (if_neg c18).symm.trans hf
  refine lv_tableOut (tgt := 84) hx hb dX12_sampleNow_9 (tsw4 c5 c8 c11 c15 c18) (by decide) ?_
  refine lv_aload_n hx hb dX12_sampleNow_84 rfl (lv_at hl 0 rfl) ?_
  refine lv_iload_n hx hb dX12_sampleNow_85 rfl (lv_at hl 1 rfl) ?_
  obtain ⟨r21, h22, hf⟩ := bd_some hf
  refine s_callVi (As := [.int a0]) (rest := []) F I (cM_placeOf G3 E Dd a0 r21 h22) kX12_287 ⟨rfl, rfl⟩ ⟨Nat.le_trans (Nat.le_of_ble_eq_true rfl) hRf, Nat.le_trans (Nat.le_of_ble_eq_true rfl) hRl⟩ 0 12 rfl rfl rfl rfl rfl hl.1 (Nat.le_of_ble_eq_true rfl) ⟨Nat.zero_le _, Nat.zero_le _⟩ dX12_sampleNow_86 ?_
  intro H locs I
  cases hf
  exact ret H locs _ ls I dX12_sampleNow_89
def M_sample (G : Nat → Nat → Int32) (a0 : Int32) (a1 : Int32) : Option (Int32 × (Nat → Nat → Int32)) :=
bd (M_isSample G a0) fun r1 =>
bd (if r1 = 0 then
(some (1 : Int32))
else
(bd (M_within a1 (0 : Int32) (5 : Int32)) fun r11 =>
if r11 = 0 then
(some (2 : Int32))
else
(some (0 : Int32)))) fun x4 =>
nm (wf G 0 x4) fun G5 =>
if G5 0 0 ≤ 0 then
(bd2 (M_sampleNow G5 a0 a1) fun r6 G7 =>
some (r6, G7))
else
(some ((0 : Int32), G5))
set_option maxRecDepth 100000 in
set_option maxHeartbeats 4000000 in
theorem cM_sample (G : Nat → Nat → Int32) (E : Nat → Nat → Int64) (Dd : Nat → Nat → UInt64) (a0 : Int32) (a1 : Int32) (rv : Int32) (newG : Nat → Nat → Int32) (hf : M_sample G a0 a1 = some (rv, newG)) : sMi D (mT cI cJ cD) (mW ad cI cJ cD) l yX12_sample (ws1 yX12_sample cX12_sample 3 (some .int)) ({ frames := 6, cells := 0, slots := 0, locals := 136 }) [.ref (ad 0), .int a0, .int a1] (G, E, Dd) (rv, (newG, E, Dd)) := by
  unfold M_sample at hf
  refine sMi_of (by decide) (Nat.le_of_ble_eq_true rfl) ?_
  intro p e R s m args below meth c A Q ls H locs F hRf hRl I hl ret
  obtain ⟨hx, hb, hml, hown, hG⟩ := id F
  replace hl : lv_has ls 3 [(0, .ref (ad 0)), (1, .int a0), (2, .int a1)] := hl
  refine lv_aload_n hx hb dX12_sample_0 rfl (lv_at hl 0 rfl) ?_
  refine lv_aload_n hx hb dX12_sample_1 rfl (lv_at hl 0 rfl) ?_
  refine lv_iload_n hx hb dX12_sample_2 rfl (lv_at hl 1 rfl) ?_
  obtain ⟨r1, h2, hf⟩ := bd_some hf
  refine s_callVi (As := [.int a0]) (rest := [.ref (ad 0)]) F I (cM_isSample G E Dd a0 r1 h2) kX12_151 ⟨rfl, rfl⟩ ⟨Nat.le_trans (Nat.le_of_ble_eq_true rfl) hRf, Nat.le_trans (Nat.le_of_ble_eq_true rfl) hRl⟩ 0 12 rfl rfl rfl rfl rfl hl.1 (Nat.le_of_ble_eq_true rfl) ⟨Nat.zero_le _, Nat.zero_le _⟩ dX12_sample_3 ?_
  intro H locs I
  obtain ⟨x4, hv10, hf⟩ := bd_some hf
  have J3 : ∀ (H : Heap) (locs : List Loc), sInv D (mT cI cJ cD) (mW ad cI cJ cD) A s H locs (G, E, Dd) → ∀ (ls : Array Slot), lv_has ls 3 [(0, .ref (ad 0)), (1, .int a0), (2, .int a1)] → W p l e R s m args below meth c H locs 0 0 Q (F0 m 27 ls [.int x4, .ref (ad 0)]) := by
    intro H locs I ls hl
    refine mptX12_89_0 F I dX12_sample_27 ?_
    intro H locs G5 eG5 I
    replace hf := nm_some eG5 hf
    refine lv_aload_n hx hb dX12_sample_30 rfl (lv_at hl 0 rfl) ?_
    refine mgtX12_89_0 F I dX12_sample_31 ?_
    refine lv_if_le (tgt := 41) hx hb dX12_sample_34 (by decide) (fun c9 => ?_) (fun c9 => ?_)
    · replace hf := (if_pos c9).symm.trans hf
      refine lv_aload_n hx hb dX12_sample_41 rfl (lv_at hl 0 rfl) ?_
      refine lv_iload_n hx hb dX12_sample_42 rfl (lv_at hl 1 rfl) ?_
      refine lv_iload_n hx hb dX12_sample_43 rfl (lv_at hl 2 rfl) ?_
      obtain ⟨r6, G7, h8, hf⟩ := bd2_some hf
      refine s_callVi (As := [.int a0, .int a1]) (rest := []) F I (cM_sampleNow G5 E Dd a0 a1 r6 G7 h8) kX12_290 ⟨rfl, rfl⟩ ⟨Nat.le_trans (Nat.le_of_ble_eq_true rfl) hRf, Nat.le_trans (Nat.le_of_ble_eq_true rfl) hRl⟩ 0 12 rfl rfl rfl rfl rfl hl.1 (Nat.le_of_ble_eq_true rfl) ⟨Nat.zero_le _, Nat.zero_le _⟩ dX12_sample_44 ?_
      intro H locs I
      cases hf
      exact ret H locs _ ls I dX12_sample_47
    · replace hf := (if_neg c9).symm.trans hf
      refine lv_iconst (v := (0 : Int32)) hx hb dX12_sample_37 (by decide) ?_
      refine lv_goto (tgt := 47) hx hb dX12_sample_38 (by decide) ?_
      cases hf
      exact ret H locs _ ls I dX12_sample_47
  replace hf := hv10
  refine lv_if_ne (tgt := 13) hx hb dX12_sample_6 (by decide) (fun c14 => ?_) (fun c14 => ?_)
  · replace hf := (if_neg c14).symm.trans hf
    refine lv_iload_n hx hb dX12_sample_13 rfl (lv_at hl 2 rfl) ?_
    refine lv_iconst (v := (0 : Int32)) hx hb dX12_sample_14 (by decide) ?_
    refine lv_iconst (v := (5 : Int32)) hx hb dX12_sample_15 (by decide) ?_
    obtain ⟨r11, h12, hf⟩ := bd_some hf
    refine s_callSi (As := [.int a1, .int (0 : Int32), .int (5 : Int32)]) (rest := [.ref (ad 0)]) F I (cM_within G E Dd a1 (0 : Int32) (5 : Int32) r11 h12) kX12_95 ⟨rfl, rfl⟩ ⟨Nat.le_trans (Nat.le_of_ble_eq_true rfl) hRf, Nat.le_trans (Nat.le_of_ble_eq_true rfl) hRl⟩ rfl rfl hl.1 (Nat.le_of_ble_eq_true rfl) ⟨Nat.zero_le _, Nat.zero_le _⟩ dX12_sample_16 ?_
    intro H locs I
    refine lv_if_eq (tgt := 26) hx hb dX12_sample_19 (by decide) (fun c13 => ?_) (fun c13 => ?_)
    · replace hf := (if_pos c13).symm.trans hf
      refine lv_iconst (v := (2 : Int32)) hx hb dX12_sample_26 (by decide) ?_
      cases hf
      exact J3 H locs I ls (lv_sub hl [0, 1, 2] rfl)
    · replace hf := (if_neg c13).symm.trans hf
      refine lv_iconst (v := (0 : Int32)) hx hb dX12_sample_22 (by decide) ?_
      refine lv_goto (tgt := 27) hx hb dX12_sample_23 (by decide) ?_
      cases hf
      exact J3 H locs I ls (lv_sub hl [0, 1, 2] rfl)
  · replace hf := (if_pos c14).symm.trans hf
    refine lv_iconst (v := (1 : Int32)) hx hb dX12_sample_9 (by decide) ?_
    refine lv_goto (tgt := 27) hx hb dX12_sample_10 (by decide) ?_
    cases hf
    exact J3 H locs I ls (lv_sub hl [0, 1, 2] rfl)
def M_order (G : Nat → Nat → Int32) (a0 : Int32) : Option (Int32 × (Nat → Nat → Int32)) :=
bd (M_isSample G a0) fun r1 =>
bd (if r1 = 0 then
(some (1 : Int32))
else
(some (0 : Int32))) fun x4 =>
nm (wf G 0 x4) fun G5 =>
if G5 0 0 ≤ 0 then
(bd (M_layMargins G5) fun G6 =>
bd (M_layOrders G6) fun G8 =>
bd (M_at G8 a0) fun r10 =>
some (r10, G8))
else
(some ((0 : Int32), G5))
set_option maxRecDepth 100000 in
set_option maxHeartbeats 4000000 in
theorem cM_order (G : Nat → Nat → Int32) (E : Nat → Nat → Int64) (Dd : Nat → Nat → UInt64) (a0 : Int32) (rv : Int32) (newG : Nat → Nat → Int32) (hf : M_order G a0 = some (rv, newG)) : sMi D (mT cI cJ cD) (mW ad cI cJ cD) l yX12_order (ws1 yX12_order cX12_order 2 (some .int)) ({ frames := 4, cells := 0, slots := 0, locals := 95 }) [.ref (ad 0), .int a0] (G, E, Dd) (rv, (newG, E, Dd)) := by
  unfold M_order at hf
  refine sMi_of (by decide) (Nat.le_of_ble_eq_true rfl) ?_
  intro p e R s m args below meth c A Q ls H locs F hRf hRl I hl ret
  obtain ⟨hx, hb, hml, hown, hG⟩ := id F
  replace hl : lv_has ls 2 [(0, .ref (ad 0)), (1, .int a0)] := hl
  refine lv_aload_n hx hb dX12_order_0 rfl (lv_at hl 0 rfl) ?_
  refine lv_aload_n hx hb dX12_order_1 rfl (lv_at hl 0 rfl) ?_
  refine lv_iload_n hx hb dX12_order_2 rfl (lv_at hl 1 rfl) ?_
  obtain ⟨r1, h2, hf⟩ := bd_some hf
  refine s_callVi (As := [.int a0]) (rest := [.ref (ad 0)]) F I (cM_isSample G E Dd a0 r1 h2) kX12_151 ⟨rfl, rfl⟩ ⟨Nat.le_trans (Nat.le_of_ble_eq_true rfl) hRf, Nat.le_trans (Nat.le_of_ble_eq_true rfl) hRl⟩ 0 12 rfl rfl rfl rfl rfl hl.1 (Nat.le_of_ble_eq_true rfl) ⟨Nat.zero_le _, Nat.zero_le _⟩ dX12_order_3 ?_
  intro H locs I
  obtain ⟨x4, hv13, hf⟩ := bd_some hf
  have J3 : ∀ (H : Heap) (locs : List Loc), sInv D (mT cI cJ cD) (mW ad cI cJ cD) A s H locs (G, E, Dd) → ∀ (ls : Array Slot), lv_has ls 2 [(0, .ref (ad 0)), (1, .int a0)] → W p l e R s m args below meth c H locs 0 0 Q (F0 m 14 ls [.int x4, .ref (ad 0)]) := by
    intro H locs I ls hl
    refine mptX12_89_0 F I dX12_order_14 ?_
    intro H locs G5 eG5 I
    replace hf := nm_some eG5 hf
    refine lv_aload_n hx hb dX12_order_17 rfl (lv_at hl 0 rfl) ?_
    refine mgtX12_89_0 F I dX12_order_18 ?_
    refine lv_if_le (tgt := 26) hx hb dX12_order_21 (by decide) (fun c12 => ?_) (fun c12 => ?_)
    · replace hf := (if_pos c12).symm.trans hf
      refine lv_aload_n hx hb dX12_order_26 rfl (lv_at hl 0 rfl) ?_
      obtain ⟨G6, h7, hf⟩ := bd_some hf
      refine s_callVv (As := []) (rest := []) F I (cM_layMargins G5 E Dd G6 h7) kX12_272 ⟨rfl, rfl⟩ ⟨Nat.le_trans (Nat.le_of_ble_eq_true rfl) hRf, Nat.le_trans (Nat.le_of_ble_eq_true rfl) hRl⟩ 0 12 rfl rfl rfl rfl rfl hl.1 (Nat.le_of_ble_eq_true rfl) ⟨Nat.zero_le _, Nat.zero_le _⟩ dX12_order_27 ?_
      intro H locs I
      refine lv_aload_n hx hb dX12_order_30 rfl (lv_at hl 0 rfl) ?_
      obtain ⟨G8, h9, hf⟩ := bd_some hf
      refine s_callVv (As := []) (rest := []) F I (cM_layOrders G6 E Dd G8 h9) kX12_275 ⟨rfl, rfl⟩ ⟨Nat.le_trans (Nat.le_of_ble_eq_true rfl) hRf, Nat.le_trans (Nat.le_of_ble_eq_true rfl) hRl⟩ 0 12 rfl rfl rfl rfl rfl hl.1 (Nat.le_of_ble_eq_true rfl) ⟨Nat.zero_le _, Nat.zero_le _⟩ dX12_order_31 ?_
      intro H locs I
      refine lv_aload_n hx hb dX12_order_34 rfl (lv_at hl 0 rfl) ?_
      refine lv_iload_n hx hb dX12_order_35 rfl (lv_at hl 1 rfl) ?_
      obtain ⟨r10, h11, hf⟩ := bd_some hf
      refine s_callVi (As := [.int a0]) (rest := []) F I (cM_at G8 E Dd a0 r10 h11) kX12_269 ⟨rfl, rfl⟩ ⟨Nat.le_trans (Nat.le_of_ble_eq_true rfl) hRf, Nat.le_trans (Nat.le_of_ble_eq_true rfl) hRl⟩ 0 12 rfl rfl rfl rfl rfl hl.1 (Nat.le_of_ble_eq_true rfl) ⟨Nat.zero_le _, Nat.zero_le _⟩ dX12_order_36 ?_
      intro H locs I
      cases hf
      exact ret H locs _ ls I dX12_order_39
    · replace hf := (if_neg c12).symm.trans hf
      refine lv_iconst (v := (0 : Int32)) hx hb dX12_order_24 (by decide) ?_
      cases hf
      exact ret H locs _ ls I dX12_order_25
  replace hf := hv13
  refine lv_if_eq (tgt := 13) hx hb dX12_order_6 (by decide) (fun c14 => ?_) (fun c14 => ?_)
  · replace hf := (if_pos c14).symm.trans hf
    refine lv_iconst (v := (1 : Int32)) hx hb dX12_order_13 (by decide) ?_
    cases hf
    exact J3 H locs I ls (lv_sub hl [0, 1] rfl)
  · replace hf := (if_neg c14).symm.trans hf
    refine lv_iconst (v := (0 : Int32)) hx hb dX12_order_9 (by decide) ?_
    refine lv_goto (tgt := 14) hx hb dX12_order_10 (by decide) ?_
    cases hf
    exact J3 H locs I ls (lv_sub hl [0, 1] rfl)
def M_goesAhead (G : Nat → Nat → Int32) (a0 : Int32) (a1 : Int32) (a2 : Int32) : Option (Int32) :=
if a0 = (-1 : Int32) then
(bd (M_beats G a1 a2) fun r4 =>
gd (r4 = 0 ∨ r4 = 1) <|
some r4)
else
(bd (M_prefers G a0 a1 a2) fun r1 =>
gd (r1 = 0 ∨ r1 = 1) <|
some r1)
set_option maxRecDepth 100000 in
set_option maxHeartbeats 4000000 in
theorem cM_goesAhead (G : Nat → Nat → Int32) (E : Nat → Nat → Int64) (Dd : Nat → Nat → UInt64) (a0 : Int32) (a1 : Int32) (a2 : Int32) (rv : Int32)  (hf : M_goesAhead G a0 a1 a2 = some rv) : sMi D (mT cI cJ cD) (mW ad cI cJ cD) l yX12_goesAhead (ws1 yX12_goesAhead cX12_goesAhead 4 (some .boolean)) ({ frames := 3, cells := 0, slots := 0, locals := 73 }) [.ref (ad 0), .int a0, .int a1, .int a2] (G, E, Dd) (rv, (G, E, Dd)) := by
  unfold M_goesAhead at hf
  refine sMz_of (by decide) (Nat.le_of_ble_eq_true rfl) ?_
  intro p e R s m args below meth c A Q ls H locs F hRf hRl I hl ret
  obtain ⟨hx, hb, hml, hown, hG⟩ := id F
  replace hl : lv_has ls 4 [(0, .ref (ad 0)), (1, .int a0), (2, .int a1), (3, .int a2)] := hl
  refine lv_iload_n hx hb dX12_goesAhead_0 rfl (lv_at hl 1 rfl) ?_
  refine lv_iconst (v := (-1 : Int32)) hx hb dX12_goesAhead_1 (by decide) ?_
  refine lv_icmp_ne (tgt := 14) hx hb dX12_goesAhead_2 (by decide) (fun c7 => ?_) (fun c7 => ?_)
  · replace hf := (if_neg c7).symm.trans hf
    refine lv_aload_n hx hb dX12_goesAhead_14 rfl (lv_at hl 0 rfl) ?_
    refine lv_iload_n hx hb dX12_goesAhead_15 rfl (lv_at hl 1 rfl) ?_
    refine lv_iload_n hx hb dX12_goesAhead_16 rfl (lv_at hl 2 rfl) ?_
    refine lv_iload_n hx hb dX12_goesAhead_17 rfl (lv_at hl 3 rfl) ?_
    obtain ⟨r1, h2, hf⟩ := bd_some hf
    refine s_callVi (As := [.int a0, .int a1, .int a2]) (rest := []) F I (cM_prefers G E Dd a0 a1 a2 r1 h2) kX12_224 ⟨rfl, rfl⟩ ⟨Nat.le_trans (Nat.le_of_ble_eq_true rfl) hRf, Nat.le_trans (Nat.le_of_ble_eq_true rfl) hRl⟩ 0 12 rfl rfl rfl rfl rfl hl.1 (Nat.le_of_ble_eq_true rfl) ⟨Nat.zero_le _, Nat.zero_le _⟩ dX12_goesAhead_18 ?_
    intro H locs I
    obtain ⟨g3, hf⟩ := gd_some hf
    cases hf
    exact ret H locs _ ls I g3 dX12_goesAhead_21
  · replace hf := (if_pos c7).symm.trans hf
    refine lv_aload_n hx hb dX12_goesAhead_5 rfl (lv_at hl 0 rfl) ?_
    refine lv_iload_n hx hb dX12_goesAhead_6 rfl (lv_at hl 2 rfl) ?_
    refine lv_iload_n hx hb dX12_goesAhead_7 rfl (lv_at hl 3 rfl) ?_
    obtain ⟨r4, h5, hf⟩ := bd_some hf
    refine s_callVi (As := [.int a1, .int a2]) (rest := []) F I (cM_beats G E Dd a1 a2 r4 h5) kX12_249 ⟨rfl, rfl⟩ ⟨Nat.le_trans (Nat.le_of_ble_eq_true rfl) hRf, Nat.le_trans (Nat.le_of_ble_eq_true rfl) hRl⟩ 0 12 rfl rfl rfl rfl rfl hl.1 (Nat.le_of_ble_eq_true rfl) ⟨Nat.zero_le _, Nat.zero_le _⟩ dX12_goesAhead_8 ?_
    intro H locs I
    refine lv_goto (tgt := 21) hx hb dX12_goesAhead_11 (by decide) ?_
    obtain ⟨g6, hf⟩ := gd_some hf
    cases hf
    exact ret H locs _ ls I g6 dX12_goesAhead_21
def M_isRound (G : Nat → Nat → Int32) (a0 : Int32) (a1 : Int32) (a2 : Int32) (a3 : Int32) : Option (Int32) :=
bd (M_goesAhead G a0 a1 a2) fun r1 =>
if r1 = 0 then
(some (0 : Int32))
else
(bd (M_goesAhead G a0 a2 a3) fun r3 =>
if r3 = 0 then
(some (0 : Int32))
else
(bd (M_goesAhead G a0 a3 a1) fun r5 =>
if r5 = 0 then
(some (0 : Int32))
else
(some (1 : Int32))))
set_option maxRecDepth 100000 in
set_option maxHeartbeats 4000000 in
theorem cM_isRound (G : Nat → Nat → Int32) (E : Nat → Nat → Int64) (Dd : Nat → Nat → UInt64) (a0 : Int32) (a1 : Int32) (a2 : Int32) (a3 : Int32) (rv : Int32)  (hf : M_isRound G a0 a1 a2 a3 = some rv) : sMi D (mT cI cJ cD) (mW ad cI cJ cD) l yX12_isRound (ws1 yX12_isRound cX12_isRound 5 (some .boolean)) ({ frames := 4, cells := 0, slots := 0, locals := 96 }) [.ref (ad 0), .int a0, .int a1, .int a2, .int a3] (G, E, Dd) (rv, (G, E, Dd)) := by
  unfold M_isRound at hf
  refine sMz_of (by decide) (Nat.le_of_ble_eq_true rfl) ?_
  intro p e R s m args below meth c A Q ls H locs F hRf hRl I hl ret
  obtain ⟨hx, hb, hml, hown, hG⟩ := id F
  replace hl : lv_has ls 5 [(0, .ref (ad 0)), (1, .int a0), (2, .int a1), (3, .int a2), (4, .int a3)] := hl
  refine lv_aload_n hx hb dX12_isRound_0 rfl (lv_at hl 0 rfl) ?_
  refine lv_iload_n hx hb dX12_isRound_1 rfl (lv_at hl 1 rfl) ?_
  refine lv_iload_n hx hb dX12_isRound_2 rfl (lv_at hl 2 rfl) ?_
  refine lv_iload_n hx hb dX12_isRound_3 rfl (lv_at hl 3 rfl) ?_
  obtain ⟨r1, h2, hf⟩ := bd_some hf
  refine s_callVi (As := [.int a0, .int a1, .int a2]) (rest := []) F I (cM_goesAhead G E Dd a0 a1 a2 r1 h2) kX12_293 ⟨rfl, rfl⟩ ⟨Nat.le_trans (Nat.le_of_ble_eq_true rfl) hRf, Nat.le_trans (Nat.le_of_ble_eq_true rfl) hRl⟩ 0 12 rfl rfl rfl rfl rfl hl.1 (Nat.le_of_ble_eq_true rfl) ⟨Nat.zero_le _, Nat.zero_le _⟩ dX12_isRound_4 ?_
  intro H locs I
  refine lv_if_eq (tgt := 36) hx hb dX12_isRound_7 (by decide) (fun c9 => ?_) (fun c9 => ?_)
  · replace hf := (if_pos c9).symm.trans hf
    refine lv_iconst (v := (0 : Int32)) hx hb dX12_isRound_36 (by decide) ?_
    cases hf
    exact ret H locs _ ls I (Or.inl rfl) dX12_isRound_37
  · replace hf := (if_neg c9).symm.trans hf
    refine lv_aload_n hx hb dX12_isRound_10 rfl (lv_at hl 0 rfl) ?_
    refine lv_iload_n hx hb dX12_isRound_11 rfl (lv_at hl 1 rfl) ?_
    refine lv_iload_n hx hb dX12_isRound_12 rfl (lv_at hl 3 rfl) ?_
    refine lv_iload hx hb dX12_isRound_13 (lv_at hl 4 rfl) ?_
    obtain ⟨r3, h4, hf⟩ := bd_some hf
    refine s_callVi (As := [.int a0, .int a2, .int a3]) (rest := []) F I (cM_goesAhead G E Dd a0 a2 a3 r3 h4) kX12_293 ⟨rfl, rfl⟩ ⟨Nat.le_trans (Nat.le_of_ble_eq_true rfl) hRf, Nat.le_trans (Nat.le_of_ble_eq_true rfl) hRl⟩ 0 12 rfl rfl rfl rfl rfl hl.1 (Nat.le_of_ble_eq_true rfl) ⟨Nat.zero_le _, Nat.zero_le _⟩ dX12_isRound_15 ?_
    intro H locs I
    refine lv_if_eq (tgt := 36) hx hb dX12_isRound_18 (by decide) (fun c8 => ?_) (fun c8 => ?_)
    · replace hf := (if_pos c8).symm.trans hf
      refine lv_iconst (v := (0 : Int32)) hx hb dX12_isRound_36 (by decide) ?_
      cases hf
      exact ret H locs _ ls I (Or.inl rfl) dX12_isRound_37
    · replace hf := (if_neg c8).symm.trans hf
      refine lv_aload_n hx hb dX12_isRound_21 rfl (lv_at hl 0 rfl) ?_
      refine lv_iload_n hx hb dX12_isRound_22 rfl (lv_at hl 1 rfl) ?_
      refine lv_iload hx hb dX12_isRound_23 (lv_at hl 4 rfl) ?_
      refine lv_iload_n hx hb dX12_isRound_25 rfl (lv_at hl 2 rfl) ?_
      obtain ⟨r5, h6, hf⟩ := bd_some hf
      refine s_callVi (As := [.int a0, .int a3, .int a1]) (rest := []) F I (cM_goesAhead G E Dd a0 a3 a1 r5 h6) kX12_293 ⟨rfl, rfl⟩ ⟨Nat.le_trans (Nat.le_of_ble_eq_true rfl) hRf, Nat.le_trans (Nat.le_of_ble_eq_true rfl) hRl⟩ 0 12 rfl rfl rfl rfl rfl hl.1 (Nat.le_of_ble_eq_true rfl) ⟨Nat.zero_le _, Nat.zero_le _⟩ dX12_isRound_26 ?_
      intro H locs I
      refine lv_if_eq (tgt := 36) hx hb dX12_isRound_29 (by decide) (fun c7 => ?_) (fun c7 => ?_)
      · replace hf := (if_pos c7).symm.trans hf
        refine lv_iconst (v := (0 : Int32)) hx hb dX12_isRound_36 (by decide) ?_
        cases hf
        exact ret H locs _ ls I (Or.inl rfl) dX12_isRound_37
      · replace hf := (if_neg c7).symm.trans hf
        refine lv_iconst (v := (1 : Int32)) hx hb dX12_isRound_32 (by decide) ?_
        refine lv_goto (tgt := 37) hx hb dX12_isRound_33 (by decide) ?_
        cases hf
        exact ret H locs _ ls I (Or.inr rfl) dX12_isRound_37
def M_ringsOf_s3 (a0 : Int32) (x2 : Int32) (x6 : Int32) (G : Nat → Nat → Int32) (x10 : Int32) (x11 : Int32) : Option ((Int32 × Int32) ⊕ (Int32)) :=
if G 1 0 ≤ x11 then
(some (.inr x10))
else
(bd (M_isRound G a0 x2 x6 x11) fun r14 =>
bd (if r14 = 0 then
(bd (M_isRound G a0 x11 x6 x2) fun r21 =>
if r21 = 0 then
(some (0 : Int32))
else
(some (1 : Int32)))
else
(some (1 : Int32))) fun x17 =>
nm (x10 + x17 : Int32) fun x18 =>
nm (x11 + (1 : Int32) : Int32) fun x19 =>
some (.inl (x18, x19)))
def M_ringsOf_s2 (a0 : Int32) (x2 : Int32) (G : Nat → Nat → Int32) (x5 : Int32) (x6 : Int32) : Option ((Int32 × Int32) ⊕ (Int32)) :=
if G 1 0 ≤ x6 then
(some (.inr x5))
else
(nm (x6 + (1 : Int32) : Int32) fun x9 =>
bd (lp (fun q => M_ringsOf_s3 a0 x2 x6 G q.1 q.2) FU (x5, x9)) fun r12 =>
nm (x6 + (1 : Int32) : Int32) fun x13 =>
some (.inl (r12, x13)))
def M_ringsOf_s1 (a0 : Int32) (G : Nat → Nat → Int32) (x1 : Int32) (x2 : Int32) : Option ((Int32 × Int32) ⊕ (Int32)) :=
if G 1 0 ≤ x2 then
(some (.inr x1))
else
(nm (x2 + (1 : Int32) : Int32) fun x4 =>
bd (lp (fun q => M_ringsOf_s2 a0 x2 G q.1 q.2) FU (x1, x4)) fun r7 =>
nm (x2 + (1 : Int32) : Int32) fun x8 =>
some (.inl (r7, x8)))
def M_ringsOf (G : Nat → Nat → Int32) (a0 : Int32) : Option (Int32) :=
bd (lp (fun q => M_ringsOf_s1 a0 G q.1 q.2) FU ((0 : Int32), (0 : Int32))) fun r3 =>
some r3
set_option maxRecDepth 100000 in
set_option maxHeartbeats 4000000 in
theorem cM_ringsOf (G : Nat → Nat → Int32) (E : Nat → Nat → Int64) (Dd : Nat → Nat → UInt64) (a0 : Int32) (rv : Int32)  (hf : M_ringsOf G a0 = some rv) : sMi D (mT cI cJ cD) (mW ad cI cJ cD) l yX12_ringsOf (ws1 yX12_ringsOf cX12_ringsOf 6 (some .int)) ({ frames := 5, cells := 0, slots := 0, locals := 120 }) [.ref (ad 0), .int a0] (G, E, Dd) (rv, (G, E, Dd)) := by
  unfold M_ringsOf at hf
  refine sMi_of (by decide) (Nat.le_of_ble_eq_true rfl) ?_
  intro p e R s m args below meth c A Q ls H locs F hRf hRl I hl ret
  obtain ⟨hx, hb, hml, hown, hG⟩ := id F
  replace hl : lv_has ls 6 [(0, .ref (ad 0)), (1, .int a0)] := hl
  refine lv_iconst (v := (0 : Int32)) hx hb dX12_ringsOf_0 (by decide) ?_
  refine lv_istore_n (lv' := [(2, .int (0 : Int32)), (0, .ref (ad 0)), (1, .int a0)]) hx hb dX12_ringsOf_1 rfl hl (by decide) rfl (fun ls hl => ?_)
  refine lv_iconst (v := (0 : Int32)) hx hb dX12_ringsOf_2 (by decide) ?_
  refine lv_istore_n (lv' := [(3, .int (0 : Int32)), (2, .int (0 : Int32)), (0, .ref (ad 0)), (1, .int a0)]) hx hb dX12_ringsOf_3 rfl hl (by decide) rfl (fun ls hl => ?_)
  obtain ⟨r3, hq1, hf⟩ := bd_some hf
  have K1 : ∀ (H : Heap) (locs : List Loc), sInv D (mT cI cJ cD) (mW ad cI cJ cD) A s H locs (G, E, Dd) → ∀ (ls : Array Slot), lv_has ls 6 [(2, .int r3)] → W p l e R s m args below meth c H locs 0 0 Q (F0 m 93 ls []) := by
    intro H locs I ls hl
    refine lv_iload_n hx hb dX12_ringsOf_93 rfl (lv_at hl 0 rfl) ?_
    cases hf
    exact ret H locs _ ls I dX12_ringsOf_94
  have L1 : ∀ (n : Nat) (x1 : Int32) (x2 : Int32), lp (fun q => M_ringsOf_s1 a0 G q.1 q.2) n (x1, x2) = some r3 → ∀ (H : Heap) (locs : List Loc), sInv D (mT cI cJ cD) (mW ad cI cJ cD) A s H locs (G, E, Dd) → ∀ (ls : Array Slot), lv_has ls 6 [(0, .ref (ad 0)), (1, .int a0), (2, .int x1), (3, .int x2)] → W p l e R s m args below meth c H locs 0 0 Q (F0 m 4 ls []) := by
    intro n
    induction n with
    | zero => intro x1 x2 hq; exact (lp_0 hq).elim
    | succ n ih1 =>
      intro x1 x2 hq H locs I ls hl
      obtain ⟨y1, hf, hK1⟩ := lp_go hq
      replace hf : M_ringsOf_s1 a0 G x1 x2 = some y1 := hf
      unfold M_ringsOf_s1 at hf
      refine lv_iload_n hx hb dX12_ringsOf_4 rfl (lv_at hl 3 rfl) ?_
      refine lv_aload_n hx hb dX12_ringsOf_5 rfl (lv_at hl 0 rfl) ?_
      refine mgtX12_92_0 F I dX12_ringsOf_6 ?_
      refine lv_icmp_ge (tgt := 93) hx hb dX12_ringsOf_9 (by decide) (fun c27 => ?_) (fun c27 => ?_)
      · replace hf := (if_pos c27).symm.trans hf
        cases hf
        cases (show x1 = r3 from hK1)
        exact K1 H locs I ls (lv_sub hl [2] rfl)
      · replace hf := (if_neg c27).symm.trans hf
        refine lv_iload_n hx hb dX12_ringsOf_12 rfl (lv_at hl 3 rfl) ?_
        refine lv_iconst (v := (1 : Int32)) hx hb dX12_ringsOf_13 (by decide) ?_
        refine lv_iadd hx hb dX12_ringsOf_14 ?_
        refine lv_topi (fun x4 ex4 => ?_)
        replace hf := nm_some ex4 hf
        refine lv_istore (lv' := [(4, .int x4), (0, .ref (ad 0)), (1, .int a0), (2, .int x1), (3, .int x2)]) hx hb dX12_ringsOf_15 hl (by decide) rfl (fun ls hl => ?_)
        obtain ⟨r7, hq2, hf⟩ := bd_some hf
        have K2 : ∀ (H : Heap) (locs : List Loc), sInv D (mT cI cJ cD) (mW ad cI cJ cD) A s H locs (G, E, Dd) → ∀ (ls : Array Slot), lv_has ls 6 [(0, .ref (ad 0)), (1, .int a0), (2, .int r7), (3, .int x2)] → W p l e R s m args below meth c H locs 0 0 Q (F0 m 87 ls []) := by
          intro H locs I ls hl
          obtain ⟨x8, ex8⟩ : ∃ y : Int32, y = x2 + (1 : Int32) := ⟨_, rfl⟩
          replace hf := nm_some ex8 hf
          refine lv_iinc (v := x8) (lv' := [(3, .int x8), (0, .ref (ad 0)), (1, .int a0), (2, .int r7)]) hx hb dX12_ringsOf_87 hl (k := 3) rfl (by rw [ex8]; rfl) (by decide) rfl (fun ls hl => ?_)
          refine lv_goto (tgt := 4) hx hb dX12_ringsOf_90 (by decide) ?_
          cases hf
          exact ih1 _ _ hK1 H locs I ls (lv_sub hl [1, 2, 3, 0] rfl)
        have L2 : ∀ (n : Nat) (x5 : Int32) (x6 : Int32), lp (fun q => M_ringsOf_s2 a0 x2 G q.1 q.2) n (x5, x6) = some r7 → ∀ (H : Heap) (locs : List Loc), sInv D (mT cI cJ cD) (mW ad cI cJ cD) A s H locs (G, E, Dd) → ∀ (ls : Array Slot), lv_has ls 6 [(0, .ref (ad 0)), (1, .int a0), (2, .int x5), (3, .int x2), (4, .int x6)] → W p l e R s m args below meth c H locs 0 0 Q (F0 m 17 ls []) := by
          intro n
          induction n with
          | zero => intro x5 x6 hq; exact (lp_0 hq).elim
          | succ n ih2 =>
            intro x5 x6 hq H locs I ls hl
            obtain ⟨y2, hf, hK2⟩ := lp_go hq
            replace hf : M_ringsOf_s2 a0 x2 G x5 x6 = some y2 := hf
            unfold M_ringsOf_s2 at hf
            refine lv_iload hx hb dX12_ringsOf_17 (lv_at hl 4 rfl) ?_
            refine lv_aload_n hx hb dX12_ringsOf_19 rfl (lv_at hl 0 rfl) ?_
            refine mgtX12_92_0 F I dX12_ringsOf_20 ?_
            refine lv_icmp_ge (tgt := 87) hx hb dX12_ringsOf_23 (by decide) (fun c26 => ?_) (fun c26 => ?_)
            · replace hf := (if_pos c26).symm.trans hf
              cases hf
              cases (show x5 = r7 from hK2)
              exact K2 H locs I ls (lv_sub hl [0, 1, 2, 3] rfl)
            · replace hf := (if_neg c26).symm.trans hf
              refine lv_iload hx hb dX12_ringsOf_26 (lv_at hl 4 rfl) ?_
              refine lv_iconst (v := (1 : Int32)) hx hb dX12_ringsOf_28 (by decide) ?_
              refine lv_iadd hx hb dX12_ringsOf_29 ?_
              refine lv_topi (fun x9 ex9 => ?_)
              replace hf := nm_some ex9 hf
              refine lv_istore (lv' := [(5, .int x9), (0, .ref (ad 0)), (1, .int a0), (2, .int x5), (3, .int x2), (4, .int x6)]) hx hb dX12_ringsOf_30 hl (by decide) rfl (fun ls hl => ?_)
              obtain ⟨r12, hq3, hf⟩ := bd_some hf
              have K3 : ∀ (H : Heap) (locs : List Loc), sInv D (mT cI cJ cD) (mW ad cI cJ cD) A s H locs (G, E, Dd) → ∀ (ls : Array Slot), lv_has ls 6 [(0, .ref (ad 0)), (1, .int a0), (2, .int r12), (3, .int x2), (4, .int x6)] → W p l e R s m args below meth c H locs 0 0 Q (F0 m 81 ls []) := by
                intro H locs I ls hl
                obtain ⟨x13, ex13⟩ : ∃ y : Int32, y = x6 + (1 : Int32) := ⟨_, rfl⟩
                replace hf := nm_some ex13 hf
                refine lv_iinc (v := x13) (lv' := [(4, .int x13), (0, .ref (ad 0)), (1, .int a0), (2, .int r12), (3, .int x2)]) hx hb dX12_ringsOf_81 hl (k := 4) rfl (by rw [ex13]; rfl) (by decide) rfl (fun ls hl => ?_)
                refine lv_goto (tgt := 17) hx hb dX12_ringsOf_84 (by decide) ?_
                cases hf
                exact ih2 _ _ hK2 H locs I ls (lv_sub hl [1, 2, 3, 4, 0] rfl)
              have L3 : ∀ (n : Nat) (x10 : Int32) (x11 : Int32), lp (fun q => M_ringsOf_s3 a0 x2 x6 G q.1 q.2) n (x10, x11) = some r12 → ∀ (H : Heap) (locs : List Loc), sInv D (mT cI cJ cD) (mW ad cI cJ cD) A s H locs (G, E, Dd) → ∀ (ls : Array Slot), lv_has ls 6 [(0, .ref (ad 0)), (1, .int a0), (2, .int x10), (3, .int x2), (4, .int x6), (5, .int x11)] → W p l e R s m args below meth c H locs 0 0 Q (F0 m 32 ls []) := by
                intro n
                induction n with
                | zero => intro x10 x11 hq; exact (lp_0 hq).elim
                | succ n ih3 =>
                  intro x10 x11 hq H locs I ls hl
                  obtain ⟨y3, hf, hK3⟩ := lp_go hq
                  replace hf : M_ringsOf_s3 a0 x2 x6 G x10 x11 = some y3 := hf
                  unfold M_ringsOf_s3 at hf
                  refine lv_iload hx hb dX12_ringsOf_32 (lv_at hl 5 rfl) ?_
                  refine lv_aload_n hx hb dX12_ringsOf_34 rfl (lv_at hl 0 rfl) ?_
                  refine mgtX12_92_0 F I dX12_ringsOf_35 ?_
                  refine lv_icmp_ge (tgt := 81) hx hb dX12_ringsOf_38 (by decide) (fun c25 => ?_) (fun c25 => ?_)
                  · replace hf := (if_pos c25).symm.trans hf
                    cases hf
                    cases (show x10 = r12 from hK3)
                    exact K3 H locs I ls (lv_sub hl [0, 1, 2, 3, 4] rfl)
                  · replace hf := (if_neg c25).symm.trans hf
                    refine lv_iload_n hx hb dX12_ringsOf_41 rfl (lv_at hl 2 rfl) ?_
                    refine lv_aload_n hx hb dX12_ringsOf_42 rfl (lv_at hl 0 rfl) ?_
                    refine lv_iload_n hx hb dX12_ringsOf_43 rfl (lv_at hl 1 rfl) ?_
                    refine lv_iload_n hx hb dX12_ringsOf_44 rfl (lv_at hl 3 rfl) ?_
                    refine lv_iload hx hb dX12_ringsOf_45 (lv_at hl 4 rfl) ?_
                    refine lv_iload hx hb dX12_ringsOf_47 (lv_at hl 5 rfl) ?_
                    obtain ⟨r14, h15, hf⟩ := bd_some hf
                    refine s_callVi (As := [.int a0, .int x2, .int x6, .int x11]) (rest := [.int x10]) F I (cM_isRound G E Dd a0 x2 x6 x11 r14 h15) kX12_296 ⟨rfl, rfl⟩ ⟨Nat.le_trans (Nat.le_of_ble_eq_true rfl) hRf, Nat.le_trans (Nat.le_of_ble_eq_true rfl) hRl⟩ 0 12 rfl rfl rfl rfl rfl hl.1 (Nat.le_of_ble_eq_true rfl) ⟨Nat.zero_le _, Nat.zero_le _⟩ dX12_ringsOf_49 ?_
                    intro H locs I
                    obtain ⟨x17, hv20, hf⟩ := bd_some hf
                    have J16 : ∀ (H : Heap) (locs : List Loc), sInv D (mT cI cJ cD) (mW ad cI cJ cD) A s H locs (G, E, Dd) → ∀ (ls : Array Slot), lv_has ls 6 [(0, .ref (ad 0)), (1, .int a0), (3, .int x2), (4, .int x6), (5, .int x11)] → W p l e R s m args below meth c H locs 0 0 Q (F0 m 73 ls [.int x17, .int x10]) := by
                      intro H locs I ls hl
                      refine lv_iadd hx hb dX12_ringsOf_73 ?_
                      refine lv_topi (fun x18 ex18 => ?_)
                      replace hf := nm_some ex18 hf
                      refine lv_istore_n (lv' := [(2, .int x18), (0, .ref (ad 0)), (1, .int a0), (3, .int x2), (4, .int x6), (5, .int x11)]) hx hb dX12_ringsOf_74 rfl hl (by decide) rfl (fun ls hl => ?_)
                      obtain ⟨x19, ex19⟩ : ∃ y : Int32, y = x11 + (1 : Int32) := ⟨_, rfl⟩
                      replace hf := nm_some ex19 hf
                      refine lv_iinc (v := x19) (lv' := [(5, .int x19), (2, .int x18), (0, .ref (ad 0)), (1, .int a0), (3, .int x2), (4, .int x6)]) hx hb dX12_ringsOf_75 hl (k := 5) rfl (by rw [ex19]; rfl) (by decide) rfl (fun ls hl => ?_)
                      refine lv_goto (tgt := 32) hx hb dX12_ringsOf_78 (by decide) ?_
                      cases hf
                      exact ih3 _ _ hK3 H locs I ls (lv_sub hl [2, 3, 1, 4, 5, 0] rfl)
                    replace hf := hv20
                    refine lv_if_ne (tgt := 68) hx hb dX12_ringsOf_52 (by decide) (fun c24 => ?_) (fun c24 => ?_)
                    · replace hf := (if_neg c24).symm.trans hf
                      refine lv_iconst (v := (1 : Int32)) hx hb dX12_ringsOf_68 (by decide) ?_
                      refine lv_goto (tgt := 73) hx hb dX12_ringsOf_69 (by decide) ?_
                      cases hf
                      exact J16 H locs I ls (lv_sub hl [0, 1, 3, 4, 5] rfl)
                    · replace hf := (if_pos c24).symm.trans hf
                      refine lv_aload_n hx hb dX12_ringsOf_55 rfl (lv_at hl 0 rfl) ?_
                      refine lv_iload_n hx hb dX12_ringsOf_56 rfl (lv_at hl 1 rfl) ?_
                      refine lv_iload hx hb dX12_ringsOf_57 (lv_at hl 5 rfl) ?_
                      refine lv_iload hx hb dX12_ringsOf_59 (lv_at hl 4 rfl) ?_
                      refine lv_iload_n hx hb dX12_ringsOf_61 rfl (lv_at hl 3 rfl) ?_
                      obtain ⟨r21, h22, hf⟩ := bd_some hf
                      refine s_callVi (As := [.int a0, .int x11, .int x6, .int x2]) (rest := [.int x10]) F I (cM_isRound G E Dd a0 x11 x6 x2 r21 h22) kX12_296 ⟨rfl, rfl⟩ ⟨Nat.le_trans (Nat.le_of_ble_eq_true rfl) hRf, Nat.le_trans (Nat.le_of_ble_eq_true rfl) hRl⟩ 0 12 rfl rfl rfl rfl rfl hl.1 (Nat.le_of_ble_eq_true rfl) ⟨Nat.zero_le _, Nat.zero_le _⟩ dX12_ringsOf_62 ?_
                      intro H locs I
                      refine lv_if_eq (tgt := 72) hx hb dX12_ringsOf_65 (by decide) (fun c23 => ?_) (fun c23 => ?_)
                      · replace hf := (if_pos c23).symm.trans hf
                        refine lv_iconst (v := (0 : Int32)) hx hb dX12_ringsOf_72 (by decide) ?_
                        cases hf
                        exact J16 H locs I ls (lv_sub hl [0, 1, 3, 4, 5] rfl)
                      · replace hf := (if_neg c23).symm.trans hf
                        refine lv_iconst (v := (1 : Int32)) hx hb dX12_ringsOf_68 (by decide) ?_
                        refine lv_goto (tgt := 73) hx hb dX12_ringsOf_69 (by decide) ?_
                        cases hf
                        exact J16 H locs I ls (lv_sub hl [0, 1, 3, 4, 5] rfl)
              exact L3 FU _ _ hq3 H locs I ls (lv_sub hl [1, 2, 3, 4, 5, 0] rfl)
        exact L2 FU _ _ hq2 H locs I ls (lv_sub hl [1, 2, 3, 4, 0] rfl)
  exact L1 FU _ _ hq1 H locs I ls (lv_sub hl [2, 3, 1, 0] rfl)
def M_stables_s1 (G : Nat → Nat → Int32) (x1 : Int32) (x2 : Int32) : Option ((Int32 × Int32) ⊕ (Int32)) :=
if G 1 0 ≤ x2 then
(some (.inr x1))
else
(bd (M_isStable G x2) fun r4 =>
bd (if r4 = 0 then
(some (0 : Int32))
else
(some (1 : Int32))) fun x7 =>
nm (x1 + x7 : Int32) fun x8 =>
nm (x2 + (1 : Int32) : Int32) fun x9 =>
some (.inl (x8, x9)))
def M_stables (G : Nat → Nat → Int32) : Option (Int32) :=
bd (lp (fun q => M_stables_s1 G q.1 q.2) FU ((0 : Int32), (0 : Int32))) fun r3 =>
some r3
set_option maxRecDepth 100000 in
set_option maxHeartbeats 4000000 in
theorem cM_stables (G : Nat → Nat → Int32) (E : Nat → Nat → Int64) (Dd : Nat → Nat → UInt64)  (rv : Int32)  (hf : M_stables G = some rv) : sMi D (mT cI cJ cD) (mW ad cI cJ cD) l yX12_stables (ws1 yX12_stables cX12_stables 3 (some .int)) ({ frames := 4, cells := 0, slots := 0, locals := 96 }) [.ref (ad 0)] (G, E, Dd) (rv, (G, E, Dd)) := by
  unfold M_stables at hf
  refine sMi_of (by decide) (Nat.le_of_ble_eq_true rfl) ?_
  intro p e R s m args below meth c A Q ls H locs F hRf hRl I hl ret
  obtain ⟨hx, hb, hml, hown, hG⟩ := id F
  replace hl : lv_has ls 3 [(0, .ref (ad 0))] := hl
  refine lv_iconst (v := (0 : Int32)) hx hb dX12_stables_0 (by decide) ?_
  refine lv_istore_n (lv' := [(1, .int (0 : Int32)), (0, .ref (ad 0))]) hx hb dX12_stables_1 rfl hl (by decide) rfl (fun ls hl => ?_)
  refine lv_iconst (v := (0 : Int32)) hx hb dX12_stables_2 (by decide) ?_
  refine lv_istore_n (lv' := [(2, .int (0 : Int32)), (1, .int (0 : Int32)), (0, .ref (ad 0))]) hx hb dX12_stables_3 rfl hl (by decide) rfl (fun ls hl => ?_)
  obtain ⟨r3, hq1, hf⟩ := bd_some hf
  have K1 : ∀ (H : Heap) (locs : List Loc), sInv D (mT cI cJ cD) (mW ad cI cJ cD) A s H locs (G, E, Dd) → ∀ (ls : Array Slot), lv_has ls 3 [(1, .int r3)] → W p l e R s m args below meth c H locs 0 0 Q (F0 m 34 ls []) := by
    intro H locs I ls hl
    refine lv_iload_n hx hb dX12_stables_34 rfl (lv_at hl 0 rfl) ?_
    cases hf
    exact ret H locs _ ls I dX12_stables_35
  have L1 : ∀ (n : Nat) (x1 : Int32) (x2 : Int32), lp (fun q => M_stables_s1 G q.1 q.2) n (x1, x2) = some r3 → ∀ (H : Heap) (locs : List Loc), sInv D (mT cI cJ cD) (mW ad cI cJ cD) A s H locs (G, E, Dd) → ∀ (ls : Array Slot), lv_has ls 3 [(0, .ref (ad 0)), (1, .int x1), (2, .int x2)] → W p l e R s m args below meth c H locs 0 0 Q (F0 m 4 ls []) := by
    intro n
    induction n with
    | zero => intro x1 x2 hq; exact (lp_0 hq).elim
    | succ n ih1 =>
      intro x1 x2 hq H locs I ls hl
      obtain ⟨y1, hf, hK1⟩ := lp_go hq
      replace hf : M_stables_s1 G x1 x2 = some y1 := hf
      unfold M_stables_s1 at hf
      refine lv_iload_n hx hb dX12_stables_4 rfl (lv_at hl 2 rfl) ?_
      refine lv_aload_n hx hb dX12_stables_5 rfl (lv_at hl 0 rfl) ?_
      refine mgtX12_92_0 F I dX12_stables_6 ?_
      refine lv_icmp_ge (tgt := 34) hx hb dX12_stables_9 (by decide) (fun c12 => ?_) (fun c12 => ?_)
      · replace hf := (if_pos c12).symm.trans hf
        cases hf
        cases (show x1 = r3 from hK1)
        exact K1 H locs I ls (lv_sub hl [1] rfl)
      · replace hf := (if_neg c12).symm.trans hf
        refine lv_iload_n hx hb dX12_stables_12 rfl (lv_at hl 1 rfl) ?_
        refine lv_aload_n hx hb dX12_stables_13 rfl (lv_at hl 0 rfl) ?_
        refine lv_iload_n hx hb dX12_stables_14 rfl (lv_at hl 2 rfl) ?_
        obtain ⟨r4, h5, hf⟩ := bd_some hf
        refine s_callVi (As := [.int x2]) (rest := [.int x1]) F I (cM_isStable G E Dd x2 r4 h5) kX12_278 ⟨rfl, rfl⟩ ⟨Nat.le_trans (Nat.le_of_ble_eq_true rfl) hRf, Nat.le_trans (Nat.le_of_ble_eq_true rfl) hRl⟩ 0 12 rfl rfl rfl rfl rfl hl.1 (Nat.le_of_ble_eq_true rfl) ⟨Nat.zero_le _, Nat.zero_le _⟩ dX12_stables_15 ?_
        intro H locs I
        obtain ⟨x7, hv10, hf⟩ := bd_some hf
        have J6 : ∀ (H : Heap) (locs : List Loc), sInv D (mT cI cJ cD) (mW ad cI cJ cD) A s H locs (G, E, Dd) → ∀ (ls : Array Slot), lv_has ls 3 [(0, .ref (ad 0)), (2, .int x2)] → W p l e R s m args below meth c H locs 0 0 Q (F0 m 26 ls [.int x7, .int x1]) := by
          intro H locs I ls hl
          refine lv_iadd hx hb dX12_stables_26 ?_
          refine lv_topi (fun x8 ex8 => ?_)
          replace hf := nm_some ex8 hf
          refine lv_istore_n (lv' := [(1, .int x8), (0, .ref (ad 0)), (2, .int x2)]) hx hb dX12_stables_27 rfl hl (by decide) rfl (fun ls hl => ?_)
          obtain ⟨x9, ex9⟩ : ∃ y : Int32, y = x2 + (1 : Int32) := ⟨_, rfl⟩
          replace hf := nm_some ex9 hf
          refine lv_iinc (v := x9) (lv' := [(2, .int x9), (1, .int x8), (0, .ref (ad 0))]) hx hb dX12_stables_28 hl (k := 2) rfl (by rw [ex9]; rfl) (by decide) rfl (fun ls hl => ?_)
          refine lv_goto (tgt := 4) hx hb dX12_stables_31 (by decide) ?_
          cases hf
          exact ih1 _ _ hK1 H locs I ls (lv_sub hl [2, 1, 0] rfl)
        replace hf := hv10
        refine lv_if_eq (tgt := 25) hx hb dX12_stables_18 (by decide) (fun c11 => ?_) (fun c11 => ?_)
        · replace hf := (if_pos c11).symm.trans hf
          refine lv_iconst (v := (0 : Int32)) hx hb dX12_stables_25 (by decide) ?_
          cases hf
          exact J6 H locs I ls (lv_sub hl [0, 2] rfl)
        · replace hf := (if_neg c11).symm.trans hf
          refine lv_iconst (v := (1 : Int32)) hx hb dX12_stables_21 (by decide) ?_
          refine lv_goto (tgt := 26) hx hb dX12_stables_22 (by decide) ?_
          cases hf
          exact J6 H locs I ls (lv_sub hl [0, 2] rfl)
  exact L1 FU _ _ hq1 H locs I ls (lv_sub hl [2, 1, 0] rfl)
def M_summaryNow (G : Nat → Nat → Int32) (a0 : Int32) : Option (Int32 × (Nat → Nat → Int32)) :=
bd (M_layMargins G) fun G1 =>
bd (M_layOrders G1) fun G3 =>
if a0 = (0 : Int32) then
(ri 256 (((1 : Int32) <<< ((G3 1 0) &&& 31)) - (1 : Int32)) <|
some (G3 30 (((1 : Int32) <<< ((G3 1 0) &&& 31)) - (1 : Int32)).toNatClampNeg, G3))
else if a0 = (1 : Int32) then
(ri 256 (((1 : Int32) <<< ((G3 1 0) &&& 31)) - (1 : Int32)) <|
some (G3 31 (((1 : Int32) <<< ((G3 1 0) &&& 31)) - (1 : Int32)).toNatClampNeg, G3))
else if a0 = (2 : Int32) then
(bd (M_layerOf G3 (-1 : Int32)) fun r10 =>
some (r10, G3))
else if a0 = (3 : Int32) then
(bd (M_topOf G3 (((1 : Int32) <<< ((G3 1 0) &&& 31)) - (1 : Int32))) fun r13 =>
some (r13, G3))
else if a0 = (4 : Int32) then
(bd (M_ringsOf G3 (-1 : Int32)) fun r16 =>
some (r16, G3))
else (bd (M_stables G3) fun r18 =>
some (r18, G3))
set_option maxRecDepth 100000 in
set_option maxHeartbeats 4000000 in
theorem cM_summaryNow (G : Nat → Nat → Int32) (E : Nat → Nat → Int64) (Dd : Nat → Nat → UInt64) (a0 : Int32) (rv : Int32) (newG : Nat → Nat → Int32) (hf : M_summaryNow G a0 = some (rv, newG)) : sMi D (mT cI cJ cD) (mW ad cI cJ cD) l yX12_summaryNow (ws1 yX12_summaryNow cX12_summaryNow 2 (some .int)) ({ frames := 6, cells := 0, slots := 0, locals := 145 }) [.ref (ad 0), .int a0] (G, E, Dd) (rv, (newG, E, Dd)) := by
  unfold M_summaryNow at hf
  refine sMi_of (by decide) (Nat.le_of_ble_eq_true rfl) ?_
  intro p e R s m args below meth c A Q ls H locs F hRf hRl I hl ret
  obtain ⟨hx, hb, hml, hown, hG⟩ := id F
  replace hl : lv_has ls 2 [(0, .ref (ad 0)), (1, .int a0)] := hl
  refine lv_aload_n hx hb dX12_summaryNow_0 rfl (lv_at hl 0 rfl) ?_
  obtain ⟨G1, h2, hf⟩ := bd_some hf
  refine s_callVv (As := []) (rest := []) F I (cM_layMargins G E Dd G1 h2) kX12_272 ⟨rfl, rfl⟩ ⟨Nat.le_trans (Nat.le_of_ble_eq_true rfl) hRf, Nat.le_trans (Nat.le_of_ble_eq_true rfl) hRl⟩ 0 12 rfl rfl rfl rfl rfl hl.1 (Nat.le_of_ble_eq_true rfl) ⟨Nat.zero_le _, Nat.zero_le _⟩ dX12_summaryNow_1 ?_
  intro H locs I
  refine lv_aload_n hx hb dX12_summaryNow_4 rfl (lv_at hl 0 rfl) ?_
  obtain ⟨G3, h4, hf⟩ := bd_some hf
  refine s_callVv (As := []) (rest := []) F I (cM_layOrders G1 E Dd G3 h4) kX12_275 ⟨rfl, rfl⟩ ⟨Nat.le_trans (Nat.le_of_ble_eq_true rfl) hRf, Nat.le_trans (Nat.le_of_ble_eq_true rfl) hRl⟩ 0 12 rfl rfl rfl rfl rfl hl.1 (Nat.le_of_ble_eq_true rfl) ⟨Nat.zero_le _, Nat.zero_le _⟩ dX12_summaryNow_5 ?_
  intro H locs I
  refine lv_iload_n hx hb dX12_summaryNow_8 rfl (lv_at hl 1 rfl) ?_
  by_cases c5 : a0 = (0 : Int32)
  · replace hf := (if_pos c5).symm.trans hf
    refine lv_tableIn (off := 35) (tgt := 44) hx hb dX12_summaryNow_9 (by rw [c5]; decide) (by rw [c5]; decide) (by rw [c5]; rfl) (by decide) ?_
    refine lv_aload_n hx hb dX12_summaryNow_44 rfl (lv_at hl 0 rfl) ?_
    refine mgtX12_59_0 F I dX12_summaryNow_45 ?_
    refine lv_iconst (v := (1 : Int32)) hx hb dX12_summaryNow_48 (by decide) ?_
    refine lv_aload_n hx hb dX12_summaryNow_49 rfl (lv_at hl 0 rfl) ?_
    refine mgtX12_92_0 F I dX12_summaryNow_50 ?_
    refine lv_ishl hx hb dX12_summaryNow_53 ?_
    refine lv_iconst (v := (1 : Int32)) hx hb dX12_summaryNow_54 (by decide) ?_
    refine lv_isub hx hb dX12_summaryNow_55 ?_
    obtain ⟨g6, hf⟩ := ri_some hf
    refine mal16 F I g6 dX12_summaryNow_56 ?_
    cases hf
    exact ret H locs _ ls I dX12_summaryNow_57
  replace hf := (if_neg c5).symm.trans hf
  by_cases c7 : a0 = (1 : Int32)
  · replace hf := (if_pos c7).symm.trans hf
    refine lv_tableIn (off := 49) (tgt := 58) hx hb dX12_summaryNow_9 (by rw [c7]; decide) (by rw [c7]; decide) (by rw [c7]; rfl) (by decide) ?_
    refine lv_aload_n hx hb dX12_summaryNow_58 rfl (lv_at hl 0 rfl) ?_
    refine mgtX12_62_0 F I dX12_summaryNow_59 ?_
    refine lv_iconst (v := (1 : Int32)) hx hb dX12_summaryNow_62 (by decide) ?_
    refine lv_aload_n hx hb dX12_summaryNow_63 rfl (lv_at hl 0 rfl) ?_
    refine mgtX12_92_0 F I dX12_summaryNow_64 ?_
    refine lv_ishl hx hb dX12_summaryNow_67 ?_
    refine lv_iconst (v := (1 : Int32)) hx hb dX12_summaryNow_68 (by decide) ?_
    refine lv_isub hx hb dX12_summaryNow_69 ?_
    obtain ⟨g8, hf⟩ := ri_some hf
    refine mal17 F I g8 dX12_summaryNow_70 ?_
    cases hf
    exact ret H locs _ ls I dX12_summaryNow_71
  replace hf := (if_neg c7).symm.trans hf
  by_cases c9 : a0 = (2 : Int32)
  · replace hf := (if_pos c9).symm.trans hf
    refine lv_tableIn (off := 63) (tgt := 72) hx hb dX12_summaryNow_9 (by rw [c9]; decide) (by rw [c9]; decide) (by rw [c9]; rfl) (by decide) ?_
    refine lv_aload_n hx hb dX12_summaryNow_72 rfl (lv_at hl 0 rfl) ?_
    refine lv_iconst (v := (-1 : Int32)) hx hb dX12_summaryNow_73 (by decide) ?_
    obtain ⟨r10, h11, hf⟩ := bd_some hf
    refine s_callVi (As := [.int (-1 : Int32)]) (rest := []) F I (cM_layerOf G3 E Dd (-1 : Int32) r10 h11) kX12_284 ⟨rfl, rfl⟩ ⟨Nat.le_trans (Nat.le_of_ble_eq_true rfl) hRf, Nat.le_trans (Nat.le_of_ble_eq_true rfl) hRl⟩ 0 12 rfl rfl rfl rfl rfl hl.1 (Nat.le_of_ble_eq_true rfl) ⟨Nat.zero_le _, Nat.zero_le _⟩ dX12_summaryNow_74 ?_
    intro H locs I
    cases hf
    exact ret H locs _ ls I dX12_summaryNow_77
  replace hf := (if_neg c9).symm.trans hf
  by_cases c12 : a0 = (3 : Int32)
  · replace hf := (if_pos c12).symm.trans hf
    refine lv_tableIn (off := 69) (tgt := 78) hx hb dX12_summaryNow_9 (by rw [c12]; decide) (by rw [c12]; decide) (by rw [c12]; rfl) (by decide) ?_
    refine lv_aload_n hx hb dX12_summaryNow_78 rfl (lv_at hl 0 rfl) ?_
    refine lv_iconst (v := (1 : Int32)) hx hb dX12_summaryNow_79 (by decide) ?_
    refine lv_aload_n hx hb dX12_summaryNow_80 rfl (lv_at hl 0 rfl) ?_
    refine mgtX12_92_0 F I dX12_summaryNow_81 ?_
    refine lv_ishl hx hb dX12_summaryNow_84 ?_
    refine lv_iconst (v := (1 : Int32)) hx hb dX12_summaryNow_85 (by decide) ?_
    refine lv_isub hx hb dX12_summaryNow_86 ?_
    obtain ⟨r13, h14, hf⟩ := bd_some hf
    refine s_callVi (As := [.int (((1 : Int32) <<< ((G3 1 0) &&& 31)) - (1 : Int32))]) (rest := []) F I (cM_topOf G3 E Dd (((1 : Int32) <<< ((G3 1 0) &&& 31)) - (1 : Int32)) r13 h14) kX12_259 ⟨rfl, rfl⟩ ⟨Nat.le_trans (Nat.le_of_ble_eq_true rfl) hRf, Nat.le_trans (Nat.le_of_ble_eq_true rfl) hRl⟩ 0 12 rfl rfl rfl rfl rfl hl.1 (Nat.le_of_ble_eq_true rfl) ⟨Nat.zero_le _, Nat.zero_le _⟩ dX12_summaryNow_87 ?_
    intro H locs I
    cases hf
    exact ret H locs _ ls I dX12_summaryNow_90
  replace hf := (if_neg c12).symm.trans hf
  by_cases c15 : a0 = (4 : Int32)
  · replace hf := (if_pos c15).symm.trans hf
    refine lv_tableIn (off := 82) (tgt := 91) hx hb dX12_summaryNow_9 (by rw [c15]; decide) (by rw [c15]; decide) (by rw [c15]; rfl) (by decide) ?_
    refine lv_aload_n hx hb dX12_summaryNow_91 rfl (lv_at hl 0 rfl) ?_
    refine lv_iconst (v := (-1 : Int32)) hx hb dX12_summaryNow_92 (by decide) ?_
    obtain ⟨r16, h17, hf⟩ := bd_some hf
    refine s_callVi (As := [.int (-1 : Int32)]) (rest := []) F I (cM_ringsOf G3 E Dd (-1 : Int32) r16 h17) kX12_300 ⟨rfl, rfl⟩ ⟨Nat.le_trans (Nat.le_of_ble_eq_true rfl) hRf, Nat.le_trans (Nat.le_of_ble_eq_true rfl) hRl⟩ 0 12 rfl rfl rfl rfl rfl hl.1 (Nat.le_of_ble_eq_true rfl) ⟨Nat.zero_le _, Nat.zero_le _⟩ dX12_summaryNow_93 ?_
    intro H locs I
    cases hf
    exact ret H locs _ ls I dX12_summaryNow_96
  replace hf := (if_neg c15).symm.trans hf
  refine lv_tableOut (tgt := 97) hx hb dX12_summaryNow_9 (tsw4 c5 c7 c9 c12 c15) (by decide) ?_
  refine lv_aload_n hx hb dX12_summaryNow_97 rfl (lv_at hl 0 rfl) ?_
  obtain ⟨r18, h19, hf⟩ := bd_some hf
  refine s_callVi (As := []) (rest := []) F I (cM_stables G3 E Dd r18 h19) kX12_303 ⟨rfl, rfl⟩ ⟨Nat.le_trans (Nat.le_of_ble_eq_true rfl) hRf, Nat.le_trans (Nat.le_of_ble_eq_true rfl) hRl⟩ 0 12 rfl rfl rfl rfl rfl hl.1 (Nat.le_of_ble_eq_true rfl) ⟨Nat.zero_le _, Nat.zero_le _⟩ dX12_summaryNow_98 ?_
  intro H locs I
  cases hf
  exact ret H locs _ ls I dX12_summaryNow_101
def M_summary (G : Nat → Nat → Int32) (a0 : Int32) : Option (Int32 × (Nat → Nat → Int32)) :=
bd (M_within a0 (0 : Int32) (5 : Int32)) fun r1 =>
bd (if r1 = 0 then
(some (1 : Int32))
else
(some (0 : Int32))) fun x4 =>
nm (wf G 0 x4) fun G5 =>
if G5 0 0 ≤ 0 then
(bd2 (M_summaryNow G5 a0) fun r6 G7 =>
some (r6, G7))
else
(some ((0 : Int32), G5))
set_option maxRecDepth 100000 in
set_option maxHeartbeats 4000000 in
theorem cM_summary (G : Nat → Nat → Int32) (E : Nat → Nat → Int64) (Dd : Nat → Nat → UInt64) (a0 : Int32) (rv : Int32) (newG : Nat → Nat → Int32) (hf : M_summary G a0 = some (rv, newG)) : sMi D (mT cI cJ cD) (mW ad cI cJ cD) l yX12_summary (ws1 yX12_summary cX12_summary 2 (some .int)) ({ frames := 7, cells := 0, slots := 0, locals := 166 }) [.ref (ad 0), .int a0] (G, E, Dd) (rv, (newG, E, Dd)) := by
  unfold M_summary at hf
  refine sMi_of (by decide) (Nat.le_of_ble_eq_true rfl) ?_
  intro p e R s m args below meth c A Q ls H locs F hRf hRl I hl ret
  obtain ⟨hx, hb, hml, hown, hG⟩ := id F
  replace hl : lv_has ls 2 [(0, .ref (ad 0)), (1, .int a0)] := hl
  refine lv_aload_n hx hb dX12_summary_0 rfl (lv_at hl 0 rfl) ?_
  refine lv_iload_n hx hb dX12_summary_1 rfl (lv_at hl 1 rfl) ?_
  refine lv_iconst (v := (0 : Int32)) hx hb dX12_summary_2 (by decide) ?_
  refine lv_iconst (v := (5 : Int32)) hx hb dX12_summary_3 (by decide) ?_
  obtain ⟨r1, h2, hf⟩ := bd_some hf
  refine s_callSi (As := [.int a0, .int (0 : Int32), .int (5 : Int32)]) (rest := [.ref (ad 0)]) F I (cM_within G E Dd a0 (0 : Int32) (5 : Int32) r1 h2) kX12_95 ⟨rfl, rfl⟩ ⟨Nat.le_trans (Nat.le_of_ble_eq_true rfl) hRf, Nat.le_trans (Nat.le_of_ble_eq_true rfl) hRl⟩ rfl rfl hl.1 (Nat.le_of_ble_eq_true rfl) ⟨Nat.zero_le _, Nat.zero_le _⟩ dX12_summary_4 ?_
  intro H locs I
  obtain ⟨x4, hv10, hf⟩ := bd_some hf
  have J3 : ∀ (H : Heap) (locs : List Loc), sInv D (mT cI cJ cD) (mW ad cI cJ cD) A s H locs (G, E, Dd) → ∀ (ls : Array Slot), lv_has ls 2 [(0, .ref (ad 0)), (1, .int a0)] → W p l e R s m args below meth c H locs 0 0 Q (F0 m 15 ls [.int x4, .ref (ad 0)]) := by
    intro H locs I ls hl
    refine mptX12_89_0 F I dX12_summary_15 ?_
    intro H locs G5 eG5 I
    replace hf := nm_some eG5 hf
    refine lv_aload_n hx hb dX12_summary_18 rfl (lv_at hl 0 rfl) ?_
    refine mgtX12_89_0 F I dX12_summary_19 ?_
    refine lv_if_le (tgt := 29) hx hb dX12_summary_22 (by decide) (fun c9 => ?_) (fun c9 => ?_)
    · replace hf := (if_pos c9).symm.trans hf
      refine lv_aload_n hx hb dX12_summary_29 rfl (lv_at hl 0 rfl) ?_
      refine lv_iload_n hx hb dX12_summary_30 rfl (lv_at hl 1 rfl) ?_
      obtain ⟨r6, G7, h8, hf⟩ := bd2_some hf
      refine s_callVi (As := [.int a0]) (rest := []) F I (cM_summaryNow G5 E Dd a0 r6 G7 h8) kX12_306 ⟨rfl, rfl⟩ ⟨Nat.le_trans (Nat.le_of_ble_eq_true rfl) hRf, Nat.le_trans (Nat.le_of_ble_eq_true rfl) hRl⟩ 0 12 rfl rfl rfl rfl rfl hl.1 (Nat.le_of_ble_eq_true rfl) ⟨Nat.zero_le _, Nat.zero_le _⟩ dX12_summary_31 ?_
      intro H locs I
      cases hf
      exact ret H locs _ ls I dX12_summary_34
    · replace hf := (if_neg c9).symm.trans hf
      refine lv_iconst (v := (0 : Int32)) hx hb dX12_summary_25 (by decide) ?_
      refine lv_goto (tgt := 34) hx hb dX12_summary_26 (by decide) ?_
      cases hf
      exact ret H locs _ ls I dX12_summary_34
  replace hf := hv10
  refine lv_if_eq (tgt := 14) hx hb dX12_summary_7 (by decide) (fun c11 => ?_) (fun c11 => ?_)
  · replace hf := (if_pos c11).symm.trans hf
    refine lv_iconst (v := (1 : Int32)) hx hb dX12_summary_14 (by decide) ?_
    cases hf
    exact J3 H locs I ls (lv_sub hl [0, 1] rfl)
  · replace hf := (if_neg c11).symm.trans hf
    refine lv_iconst (v := (0 : Int32)) hx hb dX12_summary_10 (by decide) ?_
    refine lv_goto (tgt := 15) hx hb dX12_summary_11 (by decide) ?_
    cases hf
    exact J3 H locs I ls (lv_sub hl [0, 1] rfl)
def M_without (G : Nat → Nat → Int32) (a0 : Int32) (a1 : Int32) (a2 : Int32) : Option (Int32 × (Nat → Nat → Int32)) :=
bd (M_isListener G a0) fun r1 =>
bd (if r1 = 0 then
(some (1 : Int32))
else
(if a1 = (-1 : Int32) then
(bd (M_within a2 (0 : Int32) (5 : Int32)) fun r25 =>
if r25 = 0 then
(some (2 : Int32))
else
(some (0 : Int32)))
else
(bd (M_isSample G a1) fun r28 =>
if r28 = 0 then
(some (1 : Int32))
else
(bd (M_within a2 (0 : Int32) (5 : Int32)) fun r30 =>
if r30 = 0 then
(some (2 : Int32))
else
(some (0 : Int32)))))) fun x4 =>
nm (wf G 0 x4) fun G5 =>
if G5 0 0 ≤ 0 then
(ri 8 a0 <|
nm (G5 3 a0.toNatClampNeg : Int32) fun x7 =>
ri 8 a0 <|
nm (wr G5 3 a0 (0 : Int32)) fun G9 =>
bd2 (if a1 = (-1 : Int32) then
(bd2 (M_summaryNow G9 a2) fun r19 G20 =>
some (r19, G20))
else
(bd2 (M_sampleNow G9 a1 a2) fun r16 G17 =>
some (r16, G17))) fun x11 G12 =>
ri 8 a0 <|
nm (wr G12 3 a0 x7) fun G14 =>
some (x11, G14))
else
(some ((0 : Int32), G5))
set_option maxRecDepth 100000 in
set_option maxHeartbeats 4000000 in
theorem cM_without (G : Nat → Nat → Int32) (E : Nat → Nat → Int64) (Dd : Nat → Nat → UInt64) (a0 : Int32) (a1 : Int32) (a2 : Int32) (rv : Int32) (newG : Nat → Nat → Int32) (hf : M_without G a0 a1 a2 = some (rv, newG)) : sMi D (mT cI cJ cD) (mW ad cI cJ cD) l yX12_without (ws1 yX12_without cX12_without 6 (some .int)) ({ frames := 7, cells := 0, slots := 0, locals := 166 }) [.ref (ad 0), .int a0, .int a1, .int a2] (G, E, Dd) (rv, (newG, E, Dd)) := by
  unfold M_without at hf
  refine sMi_of (by decide) (Nat.le_of_ble_eq_true rfl) ?_
  intro p e R s m args below meth c A Q ls H locs F hRf hRl I hl ret
  obtain ⟨hx, hb, hml, hown, hG⟩ := id F
  replace hl : lv_has ls 6 [(0, .ref (ad 0)), (1, .int a0), (2, .int a1), (3, .int a2)] := hl
  refine lv_aload_n hx hb dX12_without_0 rfl (lv_at hl 0 rfl) ?_
  refine lv_aload_n hx hb dX12_without_1 rfl (lv_at hl 0 rfl) ?_
  refine lv_iload_n hx hb dX12_without_2 rfl (lv_at hl 1 rfl) ?_
  obtain ⟨r1, h2, hf⟩ := bd_some hf
  refine s_callVi (As := [.int a0]) (rest := [.ref (ad 0)]) F I (cM_isListener G E Dd a0 r1 h2) kX12_114 ⟨rfl, rfl⟩ ⟨Nat.le_trans (Nat.le_of_ble_eq_true rfl) hRf, Nat.le_trans (Nat.le_of_ble_eq_true rfl) hRl⟩ 0 12 rfl rfl rfl rfl rfl hl.1 (Nat.le_of_ble_eq_true rfl) ⟨Nat.zero_le _, Nat.zero_le _⟩ dX12_without_3 ?_
  intro H locs I
  obtain ⟨x4, hv24, hf⟩ := bd_some hf
  have J3 : ∀ (H : Heap) (locs : List Loc), sInv D (mT cI cJ cD) (mW ad cI cJ cD) A s H locs (G, E, Dd) → ∀ (ls : Array Slot), lv_has ls 6 [(0, .ref (ad 0)), (1, .int a0), (2, .int a1), (3, .int a2)] → W p l e R s m args below meth c H locs 0 0 Q (F0 m 40 ls [.int x4, .ref (ad 0)]) := by
    intro H locs I ls hl
    refine mptX12_89_0 F I dX12_without_40 ?_
    intro H locs G5 eG5 I
    replace hf := nm_some eG5 hf
    refine lv_aload_n hx hb dX12_without_43 rfl (lv_at hl 0 rfl) ?_
    refine mgtX12_89_0 F I dX12_without_44 ?_
    refine lv_if_le (tgt := 52) hx hb dX12_without_47 (by decide) (fun c23 => ?_) (fun c23 => ?_)
    · replace hf := (if_pos c23).symm.trans hf
      refine lv_aload_n hx hb dX12_without_52 rfl (lv_at hl 0 rfl) ?_
      refine mgtX12_7_0 F I dX12_without_53 ?_
      refine lv_iload_n hx hb dX12_without_56 rfl (lv_at hl 1 rfl) ?_
      obtain ⟨g6, hf⟩ := ri_some hf
      refine mal1 F I g6 dX12_without_57 ?_
      refine lv_topi (fun x7 ex7 => ?_)
      replace hf := nm_some ex7 hf
      refine lv_istore (lv' := [(4, .int x7), (0, .ref (ad 0)), (1, .int a0), (2, .int a1), (3, .int a2)]) hx hb dX12_without_58 hl (by decide) rfl (fun ls hl => ?_)
      refine lv_aload_n hx hb dX12_without_60 rfl (lv_at hl 1 rfl) ?_
      refine mgtX12_7_0 F I dX12_without_61 ?_
      refine lv_iload_n hx hb dX12_without_64 rfl (lv_at hl 2 rfl) ?_
      refine lv_iconst (v := (0 : Int32)) hx hb dX12_without_65 (by decide) ?_
      obtain ⟨g8, hf⟩ := ri_some hf
      refine mas1 F I g8 dX12_without_66 ?_
      intro H locs G9 eG9 I
      replace hf := nm_some eG9 hf
      refine lv_iload_n hx hb dX12_without_67 rfl (lv_at hl 3 rfl) ?_
      refine lv_iconst (v := (-1 : Int32)) hx hb dX12_without_68 (by decide) ?_
      obtain ⟨x11, G12, hv15, hf⟩ := bd2_some hf
      have J10 : ∀ (H : Heap) (locs : List Loc), sInv D (mT cI cJ cD) (mW ad cI cJ cD) A s H locs (G12, E, Dd) → ∀ (ls : Array Slot), lv_has ls 6 [(0, .ref (ad 0)), (1, .int a0), (4, .int x7)] → W p l e R s m args below meth c H locs 0 0 Q (F0 m 86 ls [.int x11]) := by
        intro H locs I ls hl
        refine lv_istore (lv' := [(5, .int x11), (0, .ref (ad 0)), (1, .int a0), (4, .int x7)]) hx hb dX12_without_86 hl (by decide) rfl (fun ls hl => ?_)
        refine lv_aload_n hx hb dX12_without_88 rfl (lv_at hl 1 rfl) ?_
        refine mgtX12_7_0 F I dX12_without_89 ?_
        refine lv_iload_n hx hb dX12_without_92 rfl (lv_at hl 2 rfl) ?_
        refine lv_iload hx hb dX12_without_93 (lv_at hl 3 rfl) ?_
        obtain ⟨g13, hf⟩ := ri_some hf
        refine mas1 F I g13 dX12_without_95 ?_
        intro H locs G14 eG14 I
        replace hf := nm_some eG14 hf
        refine lv_iload hx hb dX12_without_96 (lv_at hl 0 rfl) ?_
        cases hf
        exact ret H locs _ ls I dX12_without_98
      replace hf := hv15
      refine lv_icmp_ne (tgt := 80) hx hb dX12_without_69 (by decide) (fun c22 => ?_) (fun c22 => ?_)
      · replace hf := (if_neg c22).symm.trans hf
        refine lv_aload_n hx hb dX12_without_80 rfl (lv_at hl 1 rfl) ?_
        refine lv_iload_n hx hb dX12_without_81 rfl (lv_at hl 3 rfl) ?_
        refine lv_iload_n hx hb dX12_without_82 rfl (lv_at hl 4 rfl) ?_
        obtain ⟨r16, G17, h18, hf⟩ := bd2_some hf
        refine s_callVi (As := [.int a1, .int a2]) (rest := []) F I (cM_sampleNow G9 E Dd a1 a2 r16 G17 h18) kX12_290 ⟨rfl, rfl⟩ ⟨Nat.le_trans (Nat.le_of_ble_eq_true rfl) hRf, Nat.le_trans (Nat.le_of_ble_eq_true rfl) hRl⟩ 0 12 rfl rfl rfl rfl rfl hl.1 (Nat.le_of_ble_eq_true rfl) ⟨Nat.zero_le _, Nat.zero_le _⟩ dX12_without_83 ?_
        intro H locs I
        cases hf
        exact J10 H locs I ls (lv_sub hl [1, 2, 0] rfl)
      · replace hf := (if_pos c22).symm.trans hf
        refine lv_aload_n hx hb dX12_without_72 rfl (lv_at hl 1 rfl) ?_
        refine lv_iload_n hx hb dX12_without_73 rfl (lv_at hl 4 rfl) ?_
        obtain ⟨r19, G20, h21, hf⟩ := bd2_some hf
        refine s_callVi (As := [.int a2]) (rest := []) F I (cM_summaryNow G9 E Dd a2 r19 G20 h21) kX12_306 ⟨rfl, rfl⟩ ⟨Nat.le_trans (Nat.le_of_ble_eq_true rfl) hRf, Nat.le_trans (Nat.le_of_ble_eq_true rfl) hRl⟩ 0 12 rfl rfl rfl rfl rfl hl.1 (Nat.le_of_ble_eq_true rfl) ⟨Nat.zero_le _, Nat.zero_le _⟩ dX12_without_74 ?_
        intro H locs I
        refine lv_goto (tgt := 86) hx hb dX12_without_77 (by decide) ?_
        cases hf
        exact J10 H locs I ls (lv_sub hl [1, 2, 0] rfl)
    · replace hf := (if_neg c23).symm.trans hf
      refine lv_iconst (v := (0 : Int32)) hx hb dX12_without_50 (by decide) ?_
      cases hf
      exact ret H locs _ ls I dX12_without_51
  replace hf := hv24
  refine lv_if_eq (tgt := 22) hx hb dX12_without_6 (by decide) (fun c35 => ?_) (fun c35 => ?_)
  · replace hf := (if_pos c35).symm.trans hf
    refine lv_iconst (v := (1 : Int32)) hx hb dX12_without_22 (by decide) ?_
    refine lv_goto (tgt := 40) hx hb dX12_without_23 (by decide) ?_
    cases hf
    exact J3 H locs I ls (lv_sub hl [0, 1, 2, 3] rfl)
  · replace hf := (if_neg c35).symm.trans hf
    refine lv_iload_n hx hb dX12_without_9 rfl (lv_at hl 2 rfl) ?_
    refine lv_iconst (v := (-1 : Int32)) hx hb dX12_without_10 (by decide) ?_
    refine lv_icmp_eq (tgt := 26) hx hb dX12_without_11 (by decide) (fun c34 => ?_) (fun c34 => ?_)
    · replace hf := (if_pos c34).symm.trans hf
      refine lv_iload_n hx hb dX12_without_26 rfl (lv_at hl 3 rfl) ?_
      refine lv_iconst (v := (0 : Int32)) hx hb dX12_without_27 (by decide) ?_
      refine lv_iconst (v := (5 : Int32)) hx hb dX12_without_28 (by decide) ?_
      obtain ⟨r25, h26, hf⟩ := bd_some hf
      refine s_callSi (As := [.int a2, .int (0 : Int32), .int (5 : Int32)]) (rest := [.ref (ad 0)]) F I (cM_within G E Dd a2 (0 : Int32) (5 : Int32) r25 h26) kX12_95 ⟨rfl, rfl⟩ ⟨Nat.le_trans (Nat.le_of_ble_eq_true rfl) hRf, Nat.le_trans (Nat.le_of_ble_eq_true rfl) hRl⟩ rfl rfl hl.1 (Nat.le_of_ble_eq_true rfl) ⟨Nat.zero_le _, Nat.zero_le _⟩ dX12_without_29 ?_
      intro H locs I
      refine lv_if_eq (tgt := 39) hx hb dX12_without_32 (by decide) (fun c27 => ?_) (fun c27 => ?_)
      · replace hf := (if_pos c27).symm.trans hf
        refine lv_iconst (v := (2 : Int32)) hx hb dX12_without_39 (by decide) ?_
        cases hf
        exact J3 H locs I ls (lv_sub hl [0, 1, 2, 3] rfl)
      · replace hf := (if_neg c27).symm.trans hf
        refine lv_iconst (v := (0 : Int32)) hx hb dX12_without_35 (by decide) ?_
        refine lv_goto (tgt := 40) hx hb dX12_without_36 (by decide) ?_
        cases hf
        exact J3 H locs I ls (lv_sub hl [0, 1, 2, 3] rfl)
    · replace hf := (if_neg c34).symm.trans hf
      refine lv_aload_n hx hb dX12_without_14 rfl (lv_at hl 0 rfl) ?_
      refine lv_iload_n hx hb dX12_without_15 rfl (lv_at hl 2 rfl) ?_
      obtain ⟨r28, h29, hf⟩ := bd_some hf
      refine s_callVi (As := [.int a1]) (rest := [.ref (ad 0)]) F I (cM_isSample G E Dd a1 r28 h29) kX12_151 ⟨rfl, rfl⟩ ⟨Nat.le_trans (Nat.le_of_ble_eq_true rfl) hRf, Nat.le_trans (Nat.le_of_ble_eq_true rfl) hRl⟩ 0 12 rfl rfl rfl rfl rfl hl.1 (Nat.le_of_ble_eq_true rfl) ⟨Nat.zero_le _, Nat.zero_le _⟩ dX12_without_16 ?_
      intro H locs I
      refine lv_if_ne (tgt := 26) hx hb dX12_without_19 (by decide) (fun c33 => ?_) (fun c33 => ?_)
      · replace hf := (if_neg c33).symm.trans hf
        refine lv_iload_n hx hb dX12_without_26 rfl (lv_at hl 3 rfl) ?_
        refine lv_iconst (v := (0 : Int32)) hx hb dX12_without_27 (by decide) ?_
        refine lv_iconst (v := (5 : Int32)) hx hb dX12_without_28 (by decide) ?_
        obtain ⟨r30, h31, hf⟩ := bd_some hf
        refine s_callSi (As := [.int a2, .int (0 : Int32), .int (5 : Int32)]) (rest := [.ref (ad 0)]) F I (cM_within G E Dd a2 (0 : Int32) (5 : Int32) r30 h31) kX12_95 ⟨rfl, rfl⟩ ⟨Nat.le_trans (Nat.le_of_ble_eq_true rfl) hRf, Nat.le_trans (Nat.le_of_ble_eq_true rfl) hRl⟩ rfl rfl hl.1 (Nat.le_of_ble_eq_true rfl) ⟨Nat.zero_le _, Nat.zero_le _⟩ dX12_without_29 ?_
        intro H locs I
        refine lv_if_eq (tgt := 39) hx hb dX12_without_32 (by decide) (fun c32 => ?_) (fun c32 => ?_)
        · replace hf := (if_pos c32).symm.trans hf
          refine lv_iconst (v := (2 : Int32)) hx hb dX12_without_39 (by decide) ?_
          cases hf
          exact J3 H locs I ls (lv_sub hl [0, 1, 2, 3] rfl)
        · replace hf := (if_neg c32).symm.trans hf
          refine lv_iconst (v := (0 : Int32)) hx hb dX12_without_35 (by decide) ?_
          refine lv_goto (tgt := 40) hx hb dX12_without_36 (by decide) ?_
          cases hf
          exact J3 H locs I ls (lv_sub hl [0, 1, 2, 3] rfl)
      · replace hf := (if_pos c33).symm.trans hf
        refine lv_iconst (v := (1 : Int32)) hx hb dX12_without_22 (by decide) ?_
        refine lv_goto (tgt := 40) hx hb dX12_without_23 (by decide) ?_
        cases hf
        exact J3 H locs I ls (lv_sub hl [0, 1, 2, 3] rfl)
def M_rings (G : Nat → Nat → Int32) (a0 : Int32) : Option (Int32 × (Nat → Nat → Int32)) :=
bd (M_isListener G a0) fun r1 =>
bd (if r1 = 0 then
(some (1 : Int32))
else
(some (0 : Int32))) fun x4 =>
nm (wf G 0 x4) fun G5 =>
if G5 0 0 ≤ 0 then
(bd (M_ringsOf G5 a0) fun r6 =>
some (r6, G5))
else
(some ((0 : Int32), G5))
set_option maxRecDepth 100000 in
set_option maxHeartbeats 4000000 in
theorem cM_rings (G : Nat → Nat → Int32) (E : Nat → Nat → Int64) (Dd : Nat → Nat → UInt64) (a0 : Int32) (rv : Int32) (newG : Nat → Nat → Int32) (hf : M_rings G a0 = some (rv, newG)) : sMi D (mT cI cJ cD) (mW ad cI cJ cD) l yX12_rings (ws1 yX12_rings cX12_rings 2 (some .int)) ({ frames := 6, cells := 0, slots := 0, locals := 145 }) [.ref (ad 0), .int a0] (G, E, Dd) (rv, (newG, E, Dd)) := by
  unfold M_rings at hf
  refine sMi_of (by decide) (Nat.le_of_ble_eq_true rfl) ?_
  intro p e R s m args below meth c A Q ls H locs F hRf hRl I hl ret
  obtain ⟨hx, hb, hml, hown, hG⟩ := id F
  replace hl : lv_has ls 2 [(0, .ref (ad 0)), (1, .int a0)] := hl
  refine lv_aload_n hx hb dX12_rings_0 rfl (lv_at hl 0 rfl) ?_
  refine lv_aload_n hx hb dX12_rings_1 rfl (lv_at hl 0 rfl) ?_
  refine lv_iload_n hx hb dX12_rings_2 rfl (lv_at hl 1 rfl) ?_
  obtain ⟨r1, h2, hf⟩ := bd_some hf
  refine s_callVi (As := [.int a0]) (rest := [.ref (ad 0)]) F I (cM_isListener G E Dd a0 r1 h2) kX12_114 ⟨rfl, rfl⟩ ⟨Nat.le_trans (Nat.le_of_ble_eq_true rfl) hRf, Nat.le_trans (Nat.le_of_ble_eq_true rfl) hRl⟩ 0 12 rfl rfl rfl rfl rfl hl.1 (Nat.le_of_ble_eq_true rfl) ⟨Nat.zero_le _, Nat.zero_le _⟩ dX12_rings_3 ?_
  intro H locs I
  obtain ⟨x4, hv9, hf⟩ := bd_some hf
  have J3 : ∀ (H : Heap) (locs : List Loc), sInv D (mT cI cJ cD) (mW ad cI cJ cD) A s H locs (G, E, Dd) → ∀ (ls : Array Slot), lv_has ls 2 [(0, .ref (ad 0)), (1, .int a0)] → W p l e R s m args below meth c H locs 0 0 Q (F0 m 14 ls [.int x4, .ref (ad 0)]) := by
    intro H locs I ls hl
    refine mptX12_89_0 F I dX12_rings_14 ?_
    intro H locs G5 eG5 I
    replace hf := nm_some eG5 hf
    refine lv_aload_n hx hb dX12_rings_17 rfl (lv_at hl 0 rfl) ?_
    refine mgtX12_89_0 F I dX12_rings_18 ?_
    refine lv_if_le (tgt := 28) hx hb dX12_rings_21 (by decide) (fun c8 => ?_) (fun c8 => ?_)
    · replace hf := (if_pos c8).symm.trans hf
      refine lv_aload_n hx hb dX12_rings_28 rfl (lv_at hl 0 rfl) ?_
      refine lv_iload_n hx hb dX12_rings_29 rfl (lv_at hl 1 rfl) ?_
      obtain ⟨r6, h7, hf⟩ := bd_some hf
      refine s_callVi (As := [.int a0]) (rest := []) F I (cM_ringsOf G5 E Dd a0 r6 h7) kX12_300 ⟨rfl, rfl⟩ ⟨Nat.le_trans (Nat.le_of_ble_eq_true rfl) hRf, Nat.le_trans (Nat.le_of_ble_eq_true rfl) hRl⟩ 0 12 rfl rfl rfl rfl rfl hl.1 (Nat.le_of_ble_eq_true rfl) ⟨Nat.zero_le _, Nat.zero_le _⟩ dX12_rings_30 ?_
      intro H locs I
      cases hf
      exact ret H locs _ ls I dX12_rings_33
    · replace hf := (if_neg c8).symm.trans hf
      refine lv_iconst (v := (0 : Int32)) hx hb dX12_rings_24 (by decide) ?_
      refine lv_goto (tgt := 33) hx hb dX12_rings_25 (by decide) ?_
      cases hf
      exact ret H locs _ ls I dX12_rings_33
  replace hf := hv9
  refine lv_if_eq (tgt := 13) hx hb dX12_rings_6 (by decide) (fun c10 => ?_) (fun c10 => ?_)
  · replace hf := (if_pos c10).symm.trans hf
    refine lv_iconst (v := (1 : Int32)) hx hb dX12_rings_13 (by decide) ?_
    cases hf
    exact J3 H locs I ls (lv_sub hl [0, 1] rfl)
  · replace hf := (if_neg c10).symm.trans hf
    refine lv_iconst (v := (0 : Int32)) hx hb dX12_rings_9 (by decide) ?_
    refine lv_goto (tgt := 14) hx hb dX12_rings_10 (by decide) ?_
    cases hf
    exact J3 H locs I ls (lv_sub hl [0, 1] rfl)
def M_isComplete_s2 (a0 : Int32) (x2 : Int32) (G : Nat → Nat → Int32) (x6 : Int32) (x7 : Int32) : Option ((Int32 × Int32) ⊕ (Int32)) :=
if G 1 0 ≤ x7 then
(some (.inr x6))
else
(bd (if x6 = 0 then
(some (0 : Int32))
else
(bd (M_prefers G a0 x2 x7) fun r14 =>
if r14 = 0 then
(bd (M_prefers G a0 x7 x2) fun r16 =>
if r16 = 0 then
(some (0 : Int32))
else
(some (1 : Int32)))
else
(some (1 : Int32)))) fun x11 =>
nm (x7 + (1 : Int32) : Int32) fun x12 =>
some (.inl (x11, x12)))
def M_isComplete_s1 (a0 : Int32) (G : Nat → Nat → Int32) (x1 : Int32) (x2 : Int32) : Option ((Int32 × Int32) ⊕ (Int32)) :=
if G 1 0 ≤ x2 then
(some (.inr x1))
else
(nm (x2 + (1 : Int32) : Int32) fun x5 =>
bd (lp (fun q => M_isComplete_s2 a0 x2 G q.1 q.2) FU (x1, x5)) fun r8 =>
nm (x2 + (1 : Int32) : Int32) fun x9 =>
some (.inl (r8, x9)))
def M_isComplete (G : Nat → Nat → Int32) (a0 : Int32) : Option (Int32) :=
bd (lp (fun q => M_isComplete_s1 a0 G q.1 q.2) FU ((1 : Int32), (0 : Int32))) fun r3 =>
gd (r3 = 0 ∨ r3 = 1) <|
some r3
set_option maxRecDepth 100000 in
set_option maxHeartbeats 4000000 in
theorem cM_isComplete (G : Nat → Nat → Int32) (E : Nat → Nat → Int64) (Dd : Nat → Nat → UInt64) (a0 : Int32) (rv : Int32)  (hf : M_isComplete G a0 = some rv) : sMi D (mT cI cJ cD) (mW ad cI cJ cD) l yX12_isComplete (ws1 yX12_isComplete cX12_isComplete 5 (some .boolean)) ({ frames := 3, cells := 0, slots := 0, locals := 73 }) [.ref (ad 0), .int a0] (G, E, Dd) (rv, (G, E, Dd)) := by
  unfold M_isComplete at hf
  refine sMz_of (by decide) (Nat.le_of_ble_eq_true rfl) ?_
  intro p e R s m args below meth c A Q ls H locs F hRf hRl I hl ret
  obtain ⟨hx, hb, hml, hown, hG⟩ := id F
  replace hl : lv_has ls 5 [(0, .ref (ad 0)), (1, .int a0)] := hl
  refine lv_iconst (v := (1 : Int32)) hx hb dX12_isComplete_0 (by decide) ?_
  refine lv_istore_n (lv' := [(2, .int (1 : Int32)), (0, .ref (ad 0)), (1, .int a0)]) hx hb dX12_isComplete_1 rfl hl (by decide) rfl (fun ls hl => ?_)
  refine lv_iconst (v := (0 : Int32)) hx hb dX12_isComplete_2 (by decide) ?_
  refine lv_istore_n (lv' := [(3, .int (0 : Int32)), (2, .int (1 : Int32)), (0, .ref (ad 0)), (1, .int a0)]) hx hb dX12_isComplete_3 rfl hl (by decide) rfl (fun ls hl => ?_)
  obtain ⟨r3, hq1, hf⟩ := bd_some hf
  have K1 : ∀ (H : Heap) (locs : List Loc), sInv D (mT cI cJ cD) (mW ad cI cJ cD) A s H locs (G, E, Dd) → ∀ (ls : Array Slot), lv_has ls 5 [(2, .int r3)] → W p l e R s m args below meth c H locs 0 0 Q (F0 m 70 ls []) := by
    intro H locs I ls hl
    refine lv_iload_n hx hb dX12_isComplete_70 rfl (lv_at hl 0 rfl) ?_
    obtain ⟨g4, hf⟩ := gd_some hf
    cases hf
    exact ret H locs _ ls I g4 dX12_isComplete_71
  have L1 : ∀ (n : Nat) (x1 : Int32) (x2 : Int32), lp (fun q => M_isComplete_s1 a0 G q.1 q.2) n (x1, x2) = some r3 → ∀ (H : Heap) (locs : List Loc), sInv D (mT cI cJ cD) (mW ad cI cJ cD) A s H locs (G, E, Dd) → ∀ (ls : Array Slot), lv_has ls 5 [(0, .ref (ad 0)), (1, .int a0), (2, .int x1), (3, .int x2)] → W p l e R s m args below meth c H locs 0 0 Q (F0 m 4 ls []) := by
    intro n
    induction n with
    | zero => intro x1 x2 hq; exact (lp_0 hq).elim
    | succ n ih1 =>
      intro x1 x2 hq H locs I ls hl
      obtain ⟨y1, hf, hK1⟩ := lp_go hq
      replace hf : M_isComplete_s1 a0 G x1 x2 = some y1 := hf
      unfold M_isComplete_s1 at hf
      refine lv_iload_n hx hb dX12_isComplete_4 rfl (lv_at hl 3 rfl) ?_
      refine lv_aload_n hx hb dX12_isComplete_5 rfl (lv_at hl 0 rfl) ?_
      refine mgtX12_92_0 F I dX12_isComplete_6 ?_
      refine lv_icmp_ge (tgt := 70) hx hb dX12_isComplete_9 (by decide) (fun c22 => ?_) (fun c22 => ?_)
      · replace hf := (if_pos c22).symm.trans hf
        cases hf
        cases (show x1 = r3 from hK1)
        exact K1 H locs I ls (lv_sub hl [2] rfl)
      · replace hf := (if_neg c22).symm.trans hf
        refine lv_iload_n hx hb dX12_isComplete_12 rfl (lv_at hl 3 rfl) ?_
        refine lv_iconst (v := (1 : Int32)) hx hb dX12_isComplete_13 (by decide) ?_
        refine lv_iadd hx hb dX12_isComplete_14 ?_
        refine lv_topi (fun x5 ex5 => ?_)
        replace hf := nm_some ex5 hf
        refine lv_istore (lv' := [(4, .int x5), (0, .ref (ad 0)), (1, .int a0), (2, .int x1), (3, .int x2)]) hx hb dX12_isComplete_15 hl (by decide) rfl (fun ls hl => ?_)
        obtain ⟨r8, hq2, hf⟩ := bd_some hf
        have K2 : ∀ (H : Heap) (locs : List Loc), sInv D (mT cI cJ cD) (mW ad cI cJ cD) A s H locs (G, E, Dd) → ∀ (ls : Array Slot), lv_has ls 5 [(0, .ref (ad 0)), (1, .int a0), (2, .int r8), (3, .int x2)] → W p l e R s m args below meth c H locs 0 0 Q (F0 m 64 ls []) := by
          intro H locs I ls hl
          obtain ⟨x9, ex9⟩ : ∃ y : Int32, y = x2 + (1 : Int32) := ⟨_, rfl⟩
          replace hf := nm_some ex9 hf
          refine lv_iinc (v := x9) (lv' := [(3, .int x9), (0, .ref (ad 0)), (1, .int a0), (2, .int r8)]) hx hb dX12_isComplete_64 hl (k := 3) rfl (by rw [ex9]; rfl) (by decide) rfl (fun ls hl => ?_)
          refine lv_goto (tgt := 4) hx hb dX12_isComplete_67 (by decide) ?_
          cases hf
          exact ih1 _ _ hK1 H locs I ls (lv_sub hl [1, 2, 3, 0] rfl)
        have L2 : ∀ (n : Nat) (x6 : Int32) (x7 : Int32), lp (fun q => M_isComplete_s2 a0 x2 G q.1 q.2) n (x6, x7) = some r8 → ∀ (H : Heap) (locs : List Loc), sInv D (mT cI cJ cD) (mW ad cI cJ cD) A s H locs (G, E, Dd) → ∀ (ls : Array Slot), lv_has ls 5 [(0, .ref (ad 0)), (1, .int a0), (2, .int x6), (3, .int x2), (4, .int x7)] → W p l e R s m args below meth c H locs 0 0 Q (F0 m 17 ls []) := by
          intro n
          induction n with
          | zero => intro x6 x7 hq; exact (lp_0 hq).elim
          | succ n ih2 =>
            intro x6 x7 hq H locs I ls hl
            obtain ⟨y2, hf, hK2⟩ := lp_go hq
            replace hf : M_isComplete_s2 a0 x2 G x6 x7 = some y2 := hf
            unfold M_isComplete_s2 at hf
            refine lv_iload hx hb dX12_isComplete_17 (lv_at hl 4 rfl) ?_
            refine lv_aload_n hx hb dX12_isComplete_19 rfl (lv_at hl 0 rfl) ?_
            refine mgtX12_92_0 F I dX12_isComplete_20 ?_
            refine lv_icmp_ge (tgt := 64) hx hb dX12_isComplete_23 (by decide) (fun c21 => ?_) (fun c21 => ?_)
            · replace hf := (if_pos c21).symm.trans hf
              cases hf
              cases (show x6 = r8 from hK2)
              exact K2 H locs I ls (lv_sub hl [0, 1, 2, 3] rfl)
            · replace hf := (if_neg c21).symm.trans hf
              refine lv_iload_n hx hb dX12_isComplete_26 rfl (lv_at hl 2 rfl) ?_
              obtain ⟨x11, hv13, hf⟩ := bd_some hf
              have J10 : ∀ (H : Heap) (locs : List Loc), sInv D (mT cI cJ cD) (mW ad cI cJ cD) A s H locs (G, E, Dd) → ∀ (ls : Array Slot), lv_has ls 5 [(0, .ref (ad 0)), (1, .int a0), (3, .int x2), (4, .int x7)] → W p l e R s m args below meth c H locs 0 0 Q (F0 m 57 ls [.int x11]) := by
                intro H locs I ls hl
                refine lv_istore_n (lv' := [(2, .int x11), (0, .ref (ad 0)), (1, .int a0), (3, .int x2), (4, .int x7)]) hx hb dX12_isComplete_57 rfl hl (by decide) rfl (fun ls hl => ?_)
                obtain ⟨x12, ex12⟩ : ∃ y : Int32, y = x7 + (1 : Int32) := ⟨_, rfl⟩
                replace hf := nm_some ex12 hf
                refine lv_iinc (v := x12) (lv' := [(4, .int x12), (2, .int x11), (0, .ref (ad 0)), (1, .int a0), (3, .int x2)]) hx hb dX12_isComplete_58 hl (k := 4) rfl (by rw [ex12]; rfl) (by decide) rfl (fun ls hl => ?_)
                refine lv_goto (tgt := 17) hx hb dX12_isComplete_61 (by decide) ?_
                cases hf
                exact ih2 _ _ hK2 H locs I ls (lv_sub hl [2, 3, 1, 4, 0] rfl)
              replace hf := hv13
              refine lv_if_eq (tgt := 56) hx hb dX12_isComplete_27 (by decide) (fun c20 => ?_) (fun c20 => ?_)
              · replace hf := (if_pos c20).symm.trans hf
                refine lv_iconst (v := (0 : Int32)) hx hb dX12_isComplete_56 (by decide) ?_
                cases hf
                exact J10 H locs I ls (lv_sub hl [0, 1, 3, 4] rfl)
              · replace hf := (if_neg c20).symm.trans hf
                refine lv_aload_n hx hb dX12_isComplete_30 rfl (lv_at hl 0 rfl) ?_
                refine lv_iload_n hx hb dX12_isComplete_31 rfl (lv_at hl 1 rfl) ?_
                refine lv_iload_n hx hb dX12_isComplete_32 rfl (lv_at hl 3 rfl) ?_
                refine lv_iload hx hb dX12_isComplete_33 (lv_at hl 4 rfl) ?_
                obtain ⟨r14, h15, hf⟩ := bd_some hf
                refine s_callVi (As := [.int a0, .int x2, .int x7]) (rest := []) F I (cM_prefers G E Dd a0 x2 x7 r14 h15) kX12_224 ⟨rfl, rfl⟩ ⟨Nat.le_trans (Nat.le_of_ble_eq_true rfl) hRf, Nat.le_trans (Nat.le_of_ble_eq_true rfl) hRl⟩ 0 12 rfl rfl rfl rfl rfl hl.1 (Nat.le_of_ble_eq_true rfl) ⟨Nat.zero_le _, Nat.zero_le _⟩ dX12_isComplete_35 ?_
                intro H locs I
                refine lv_if_ne (tgt := 52) hx hb dX12_isComplete_38 (by decide) (fun c19 => ?_) (fun c19 => ?_)
                · replace hf := (if_neg c19).symm.trans hf
                  refine lv_iconst (v := (1 : Int32)) hx hb dX12_isComplete_52 (by decide) ?_
                  refine lv_goto (tgt := 57) hx hb dX12_isComplete_53 (by decide) ?_
                  cases hf
                  exact J10 H locs I ls (lv_sub hl [0, 1, 3, 4] rfl)
                · replace hf := (if_pos c19).symm.trans hf
                  refine lv_aload_n hx hb dX12_isComplete_41 rfl (lv_at hl 0 rfl) ?_
                  refine lv_iload_n hx hb dX12_isComplete_42 rfl (lv_at hl 1 rfl) ?_
                  refine lv_iload hx hb dX12_isComplete_43 (lv_at hl 4 rfl) ?_
                  refine lv_iload_n hx hb dX12_isComplete_45 rfl (lv_at hl 3 rfl) ?_
                  obtain ⟨r16, h17, hf⟩ := bd_some hf
                  refine s_callVi (As := [.int a0, .int x7, .int x2]) (rest := []) F I (cM_prefers G E Dd a0 x7 x2 r16 h17) kX12_224 ⟨rfl, rfl⟩ ⟨Nat.le_trans (Nat.le_of_ble_eq_true rfl) hRf, Nat.le_trans (Nat.le_of_ble_eq_true rfl) hRl⟩ 0 12 rfl rfl rfl rfl rfl hl.1 (Nat.le_of_ble_eq_true rfl) ⟨Nat.zero_le _, Nat.zero_le _⟩ dX12_isComplete_46 ?_
                  intro H locs I
                  refine lv_if_eq (tgt := 56) hx hb dX12_isComplete_49 (by decide) (fun c18 => ?_) (fun c18 => ?_)
                  · replace hf := (if_pos c18).symm.trans hf
                    refine lv_iconst (v := (0 : Int32)) hx hb dX12_isComplete_56 (by decide) ?_
                    cases hf
                    exact J10 H locs I ls (lv_sub hl [0, 1, 3, 4] rfl)
                  · replace hf := (if_neg c18).symm.trans hf
                    refine lv_iconst (v := (1 : Int32)) hx hb dX12_isComplete_52 (by decide) ?_
                    refine lv_goto (tgt := 57) hx hb dX12_isComplete_53 (by decide) ?_
                    cases hf
                    exact J10 H locs I ls (lv_sub hl [0, 1, 3, 4] rfl)
        exact L2 FU _ _ hq2 H locs I ls (lv_sub hl [1, 2, 3, 4, 0] rfl)
  exact L1 FU _ _ hq1 H locs I ls (lv_sub hl [2, 3, 1, 0] rfl)
def M_mostRings (G : Nat → Nat → Int32) : Option (Int32) :=
nm (((G 1 0) * (G 1 0)) * (G 1 0) : Int32) fun x1 =>
if (G 1 0) - (G 1 0) / (2 : Int32) * (2 : Int32) = (1 : Int32) then
(some ((x1 - (G 1 0)) / (24 : Int32)))
else
(some ((x1 - ((4 : Int32) * (G 1 0))) / (24 : Int32)))
set_option maxRecDepth 100000 in
set_option maxHeartbeats 4000000 in
theorem cM_mostRings (G : Nat → Nat → Int32) (E : Nat → Nat → Int64) (Dd : Nat → Nat → UInt64)  (rv : Int32)  (hf : M_mostRings G = some rv) : sMi D (mT cI cJ cD) (mW ad cI cJ cD) l yX12_mostRings (ws1 yX12_mostRings cX12_mostRings 2 (some .int)) ({ frames := 0, cells := 0, slots := 0, locals := 0 }) [.ref (ad 0)] (G, E, Dd) (rv, (G, E, Dd)) := by
  unfold M_mostRings at hf
  refine sMi_of (by decide) (Nat.le_of_ble_eq_true rfl) ?_
  intro p e R s m args below meth c A Q ls H locs F hRf hRl I hl ret
  obtain ⟨hx, hb, hml, hown, hG⟩ := id F
  replace hl : lv_has ls 2 [(0, .ref (ad 0))] := hl
  refine lv_aload_n hx hb dX12_mostRings_0 rfl (lv_at hl 0 rfl) ?_
  refine mgtX12_92_0 F I dX12_mostRings_1 ?_
  refine lv_aload_n hx hb dX12_mostRings_4 rfl (lv_at hl 0 rfl) ?_
  refine mgtX12_92_0 F I dX12_mostRings_5 ?_
  refine lv_imul hx hb dX12_mostRings_8 ?_
  refine lv_aload_n hx hb dX12_mostRings_9 rfl (lv_at hl 0 rfl) ?_
  refine mgtX12_92_0 F I dX12_mostRings_10 ?_
  refine lv_imul hx hb dX12_mostRings_13 ?_
  refine lv_topi (fun x1 ex1 => ?_)
  replace hf := nm_some ex1 hf
  refine lv_istore_n (lv' := [(1, .int x1), (0, .ref (ad 0))]) hx hb dX12_mostRings_14 rfl hl (by decide) rfl (fun ls hl => ?_)
  refine lv_iload_n hx hb dX12_mostRings_15 rfl (lv_at hl 0 rfl) ?_
  refine lv_aload_n hx hb dX12_mostRings_16 rfl (lv_at hl 1 rfl) ?_
  refine mgtX12_92_0 F I dX12_mostRings_17 ?_
  refine lv_iconst (v := (2 : Int32)) hx hb dX12_mostRings_20 (by decide) ?_
  refine lv_irem hx hb dX12_mostRings_21 (by decide) ?_
  refine lv_iconst (v := (1 : Int32)) hx hb dX12_mostRings_22 (by decide) ?_
  refine lv_icmp_ne (tgt := 33) hx hb dX12_mostRings_23 (by decide) (fun c2 => ?_) (fun c2 => ?_)
  · replace hf := (if_neg c2).symm.trans hf
    refine lv_iconst (v := (4 : Int32)) hx hb dX12_mostRings_33 (by decide) ?_
    refine lv_aload_n hx hb dX12_mostRings_34 rfl (lv_at hl 1 rfl) ?_
    refine mgtX12_92_0 F I dX12_mostRings_35 ?_
    refine lv_imul hx hb dX12_mostRings_38 ?_
    refine lv_isub hx hb dX12_mostRings_39 ?_
    refine lv_bipush (v := (24 : Int32)) hx hb dX12_mostRings_40 (by decide) ?_
    refine lv_idiv hx hb dX12_mostRings_42 (by decide) ?_
    cases hf
    exact ret H locs _ ls I dX12_mostRings_43
  · replace hf := (if_pos c2).symm.trans hf
    refine lv_aload_n hx hb dX12_mostRings_26 rfl (lv_at hl 1 rfl) ?_
    refine mgtX12_92_0 F I dX12_mostRings_27 ?_
    refine lv_goto (tgt := 39) hx hb dX12_mostRings_30 (by decide) ?_
    refine lv_isub hx hb dX12_mostRings_39 ?_
    refine lv_bipush (v := (24 : Int32)) hx hb dX12_mostRings_40 (by decide) ?_
    refine lv_idiv hx hb dX12_mostRings_42 (by decide) ?_
    cases hf
    exact ret H locs _ ls I dX12_mostRings_43
def M_agrees (G : Nat → Nat → Int32) (a0 : Int32) (a1 : Int32) (a2 : Int32) (a3 : Int32) : Option (Int32) :=
bd (M_prefers G a0 a2 a3) fun r1 =>
bd (if r1 = 0 then
(bd (M_prefers G a0 a3 a2) fun r12 =>
if r12 = 0 then
(some (0 : Int32))
else
(some (-1 : Int32)))
else
(some (1 : Int32))) fun x4 =>
bd (M_prefers G a1 a2 a3) fun r5 =>
if r5 = 0 then
(bd (M_prefers G a1 a3 a2) fun r7 =>
if r7 = 0 then
(some (x4 * (0 : Int32)))
else
(some (x4 * (-1 : Int32))))
else
(some (x4 * (1 : Int32)))
set_option maxRecDepth 100000 in
set_option maxHeartbeats 4000000 in
theorem cM_agrees (G : Nat → Nat → Int32) (E : Nat → Nat → Int64) (Dd : Nat → Nat → UInt64) (a0 : Int32) (a1 : Int32) (a2 : Int32) (a3 : Int32) (rv : Int32)  (hf : M_agrees G a0 a1 a2 a3 = some rv) : sMi D (mT cI cJ cD) (mW ad cI cJ cD) l yX12_agrees (ws1 yX12_agrees cX12_agrees 7 (some .int)) ({ frames := 3, cells := 0, slots := 0, locals := 73 }) [.ref (ad 0), .int a0, .int a1, .int a2, .int a3] (G, E, Dd) (rv, (G, E, Dd)) := by
  unfold M_agrees at hf
  refine sMi_of (by decide) (Nat.le_of_ble_eq_true rfl) ?_
  intro p e R s m args below meth c A Q ls H locs F hRf hRl I hl ret
  obtain ⟨hx, hb, hml, hown, hG⟩ := id F
  replace hl : lv_has ls 7 [(0, .ref (ad 0)), (1, .int a0), (2, .int a1), (3, .int a2), (4, .int a3)] := hl
  refine lv_aload_n hx hb dX12_agrees_0 rfl (lv_at hl 0 rfl) ?_
  refine lv_iload_n hx hb dX12_agrees_1 rfl (lv_at hl 1 rfl) ?_
  refine lv_iload_n hx hb dX12_agrees_2 rfl (lv_at hl 3 rfl) ?_
  refine lv_iload hx hb dX12_agrees_3 (lv_at hl 4 rfl) ?_
  obtain ⟨r1, h2, hf⟩ := bd_some hf
  refine s_callVi (As := [.int a0, .int a2, .int a3]) (rest := []) F I (cM_prefers G E Dd a0 a2 a3 r1 h2) kX12_224 ⟨rfl, rfl⟩ ⟨Nat.le_trans (Nat.le_of_ble_eq_true rfl) hRf, Nat.le_trans (Nat.le_of_ble_eq_true rfl) hRl⟩ 0 12 rfl rfl rfl rfl rfl hl.1 (Nat.le_of_ble_eq_true rfl) ⟨Nat.zero_le _, Nat.zero_le _⟩ dX12_agrees_5 ?_
  intro H locs I
  obtain ⟨x4, hv11, hf⟩ := bd_some hf
  have J3 : ∀ (H : Heap) (locs : List Loc), sInv D (mT cI cJ cD) (mW ad cI cJ cD) A s H locs (G, E, Dd) → ∀ (ls : Array Slot), lv_has ls 7 [(0, .ref (ad 0)), (2, .int a1), (3, .int a2), (4, .int a3)] → W p l e R s m args below meth c H locs 0 0 Q (F0 m 31 ls [.int x4]) := by
    intro H locs I ls hl
    refine lv_istore (lv' := [(5, .int x4), (0, .ref (ad 0)), (2, .int a1), (3, .int a2), (4, .int a3)]) hx hb dX12_agrees_31 hl (by decide) rfl (fun ls hl => ?_)
    refine lv_aload_n hx hb dX12_agrees_33 rfl (lv_at hl 1 rfl) ?_
    refine lv_iload_n hx hb dX12_agrees_34 rfl (lv_at hl 2 rfl) ?_
    refine lv_iload_n hx hb dX12_agrees_35 rfl (lv_at hl 3 rfl) ?_
    refine lv_iload hx hb dX12_agrees_36 (lv_at hl 4 rfl) ?_
    obtain ⟨r5, h6, hf⟩ := bd_some hf
    refine s_callVi (As := [.int a1, .int a2, .int a3]) (rest := []) F I (cM_prefers G E Dd a1 a2 a3 r5 h6) kX12_224 ⟨rfl, rfl⟩ ⟨Nat.le_trans (Nat.le_of_ble_eq_true rfl) hRf, Nat.le_trans (Nat.le_of_ble_eq_true rfl) hRl⟩ 0 12 rfl rfl rfl rfl rfl hl.1 (Nat.le_of_ble_eq_true rfl) ⟨Nat.zero_le _, Nat.zero_le _⟩ dX12_agrees_38 ?_
    intro H locs I
    refine lv_if_eq (tgt := 48) hx hb dX12_agrees_41 (by decide) (fun c10 => ?_) (fun c10 => ?_)
    · replace hf := (if_pos c10).symm.trans hf
      refine lv_aload_n hx hb dX12_agrees_48 rfl (lv_at hl 1 rfl) ?_
      refine lv_iload_n hx hb dX12_agrees_49 rfl (lv_at hl 2 rfl) ?_
      refine lv_iload hx hb dX12_agrees_50 (lv_at hl 4 rfl) ?_
      refine lv_iload_n hx hb dX12_agrees_52 rfl (lv_at hl 3 rfl) ?_
      obtain ⟨r7, h8, hf⟩ := bd_some hf
      refine s_callVi (As := [.int a1, .int a3, .int a2]) (rest := []) F I (cM_prefers G E Dd a1 a3 a2 r7 h8) kX12_224 ⟨rfl, rfl⟩ ⟨Nat.le_trans (Nat.le_of_ble_eq_true rfl) hRf, Nat.le_trans (Nat.le_of_ble_eq_true rfl) hRl⟩ 0 12 rfl rfl rfl rfl rfl hl.1 (Nat.le_of_ble_eq_true rfl) ⟨Nat.zero_le _, Nat.zero_le _⟩ dX12_agrees_53 ?_
      intro H locs I
      refine lv_if_eq (tgt := 63) hx hb dX12_agrees_56 (by decide) (fun c9 => ?_) (fun c9 => ?_)
      · replace hf := (if_pos c9).symm.trans hf
        refine lv_iconst (v := (0 : Int32)) hx hb dX12_agrees_63 (by decide) ?_
        refine lv_istore (lv' := [(6, .int (0 : Int32)), (5, .int x4), (0, .ref (ad 0)), (2, .int a1), (3, .int a2), (4, .int a3)]) hx hb dX12_agrees_64 hl (by decide) rfl (fun ls hl => ?_)
        refine lv_iload hx hb dX12_agrees_66 (lv_at hl 1 rfl) ?_
        refine lv_iload hx hb dX12_agrees_68 (lv_at hl 0 rfl) ?_
        refine lv_imul hx hb dX12_agrees_70 ?_
        cases hf
        exact ret H locs _ ls I dX12_agrees_71
      · replace hf := (if_neg c9).symm.trans hf
        refine lv_iconst (v := (-1 : Int32)) hx hb dX12_agrees_59 (by decide) ?_
        refine lv_goto (tgt := 64) hx hb dX12_agrees_60 (by decide) ?_
        refine lv_istore (lv' := [(6, .int (-1 : Int32)), (5, .int x4), (0, .ref (ad 0)), (2, .int a1), (3, .int a2), (4, .int a3)]) hx hb dX12_agrees_64 hl (by decide) rfl (fun ls hl => ?_)
        refine lv_iload hx hb dX12_agrees_66 (lv_at hl 1 rfl) ?_
        refine lv_iload hx hb dX12_agrees_68 (lv_at hl 0 rfl) ?_
        refine lv_imul hx hb dX12_agrees_70 ?_
        cases hf
        exact ret H locs _ ls I dX12_agrees_71
    · replace hf := (if_neg c10).symm.trans hf
      refine lv_iconst (v := (1 : Int32)) hx hb dX12_agrees_44 (by decide) ?_
      refine lv_goto (tgt := 64) hx hb dX12_agrees_45 (by decide) ?_
      refine lv_istore (lv' := [(6, .int (1 : Int32)), (5, .int x4), (0, .ref (ad 0)), (2, .int a1), (3, .int a2), (4, .int a3)]) hx hb dX12_agrees_64 hl (by decide) rfl (fun ls hl => ?_)
      refine lv_iload hx hb dX12_agrees_66 (lv_at hl 1 rfl) ?_
      refine lv_iload hx hb dX12_agrees_68 (lv_at hl 0 rfl) ?_
      refine lv_imul hx hb dX12_agrees_70 ?_
      cases hf
      exact ret H locs _ ls I dX12_agrees_71
  replace hf := hv11
  refine lv_if_eq (tgt := 15) hx hb dX12_agrees_8 (by decide) (fun c15 => ?_) (fun c15 => ?_)
  · replace hf := (if_pos c15).symm.trans hf
    refine lv_aload_n hx hb dX12_agrees_15 rfl (lv_at hl 0 rfl) ?_
    refine lv_iload_n hx hb dX12_agrees_16 rfl (lv_at hl 1 rfl) ?_
    refine lv_iload hx hb dX12_agrees_17 (lv_at hl 4 rfl) ?_
    refine lv_iload_n hx hb dX12_agrees_19 rfl (lv_at hl 3 rfl) ?_
    obtain ⟨r12, h13, hf⟩ := bd_some hf
    refine s_callVi (As := [.int a0, .int a3, .int a2]) (rest := []) F I (cM_prefers G E Dd a0 a3 a2 r12 h13) kX12_224 ⟨rfl, rfl⟩ ⟨Nat.le_trans (Nat.le_of_ble_eq_true rfl) hRf, Nat.le_trans (Nat.le_of_ble_eq_true rfl) hRl⟩ 0 12 rfl rfl rfl rfl rfl hl.1 (Nat.le_of_ble_eq_true rfl) ⟨Nat.zero_le _, Nat.zero_le _⟩ dX12_agrees_20 ?_
    intro H locs I
    refine lv_if_eq (tgt := 30) hx hb dX12_agrees_23 (by decide) (fun c14 => ?_) (fun c14 => ?_)
    · replace hf := (if_pos c14).symm.trans hf
      refine lv_iconst (v := (0 : Int32)) hx hb dX12_agrees_30 (by decide) ?_
      cases hf
      exact J3 H locs I ls (lv_sub hl [0, 2, 3, 4] rfl)
    · replace hf := (if_neg c14).symm.trans hf
      refine lv_iconst (v := (-1 : Int32)) hx hb dX12_agrees_26 (by decide) ?_
      refine lv_goto (tgt := 31) hx hb dX12_agrees_27 (by decide) ?_
      cases hf
      exact J3 H locs I ls (lv_sub hl [0, 2, 3, 4] rfl)
  · replace hf := (if_neg c15).symm.trans hf
    refine lv_iconst (v := (1 : Int32)) hx hb dX12_agrees_11 (by decide) ?_
    refine lv_goto (tgt := 31) hx hb dX12_agrees_12 (by decide) ?_
    cases hf
    exact J3 H locs I ls (lv_sub hl [0, 2, 3, 4] rfl)
def M_chanceOf_s1 (x2 : Int32) (x3 : Int32) (x4 : Int64) (x5 : Int64) (x6 : Int32) : Option ((Int64 × Int64 × Int32) ⊕ (Int64)) :=
if x3 < x6 then
(some (.inr x4))
else
(bd (if x6 < x2 then
(some (0 : Int64))
else
(some x5)) fun x11 =>
nm (x4 + x11 : Int64) fun x12 =>
gd (¬ (x6 + (1 : Int32)).toInt64 = 0) <|
nm ((x5 * ((x3 - x6).toInt64)) / ((x6 + (1 : Int32)).toInt64) : Int64) fun x14 =>
nm (x6 + (1 : Int32) : Int32) fun x15 =>
some (.inl (x12, x14, x15)))
def M_chanceOf (a0 : Int32) (a1 : Int32) : Option (Int64) :=
bd (if a0 ≤ a1 then
(some a1)
else
(some a0)) fun x2 =>
nm (a0 + a1 : Int32) fun x3 =>
if x3 = 0 then
(some (281474976710656 : Int64))
else
(bd (lp (fun q => M_chanceOf_s1 x2 x3 q.1 q.2.1 q.2.2) FU ((0 : Int64), (1 : Int64), (0 : Int32))) fun r7 =>
nm (((2 : Int64) * r7) <<< (((48 : Int32) - x3).toInt64 &&& 63) : Int64) fun x8 =>
if lg_cmp x8 (281474976710656 : Int64) ≤ 0 then
(some x8)
else
(some (281474976710656 : Int64)))
set_option maxRecDepth 100000 in
set_option maxHeartbeats 4000000 in
theorem cM_chanceOf (G : Nat → Nat → Int32) (E : Nat → Nat → Int64) (Dd : Nat → Nat → UInt64) (a0 : Int32) (a1 : Int32) (rv : Int64)  (hf : M_chanceOf a0 a1 = some rv) : sMl D (mT cI cJ cD) (mW ad cI cJ cD) l yX12_chanceOf (ws1 yX12_chanceOf cX12_chanceOf 10 (some .long)) ({ frames := 0, cells := 0, slots := 0, locals := 0 }) [.int a0, .int a1] (G, E, Dd) (rv, (G, E, Dd)) := by
  unfold M_chanceOf at hf
  refine sMl_of (by decide) (Nat.le_of_ble_eq_true rfl) ?_
  intro p e R s m args below meth c A Q ls H locs F hRf hRl I hl ret
  obtain ⟨hx, hb, hml, hown, hG⟩ := id F
  replace hl : lv_has ls 10 [(0, .int a0), (1, .int a1)] := hl
  refine lv_iload_n hx hb dX12_chanceOf_0 rfl (lv_at hl 0 rfl) ?_
  refine lv_iload_n hx hb dX12_chanceOf_1 rfl (lv_at hl 1 rfl) ?_
  obtain ⟨x2, hv20, hf⟩ := bd_some hf
  have J1 : ∀ (H : Heap) (locs : List Loc), sInv D (mT cI cJ cD) (mW ad cI cJ cD) A s H locs (G, E, Dd) → ∀ (ls : Array Slot), lv_has ls 10 [(0, .int a0), (1, .int a1)] → W p l e R s m args below meth c H locs 0 0 Q (F0 m 10 ls [.int x2]) := by
    intro H locs I ls hl
    refine lv_istore_n (lv' := [(2, .int x2), (0, .int a0), (1, .int a1)]) hx hb dX12_chanceOf_10 rfl hl (by decide) rfl (fun ls hl => ?_)
    refine lv_iload_n hx hb dX12_chanceOf_11 rfl (lv_at hl 1 rfl) ?_
    refine lv_iload_n hx hb dX12_chanceOf_12 rfl (lv_at hl 2 rfl) ?_
    refine lv_iadd hx hb dX12_chanceOf_13 ?_
    refine lv_topi (fun x3 ex3 => ?_)
    replace hf := nm_some ex3 hf
    refine lv_istore_n (lv' := [(3, .int x3), (2, .int x2), (0, .int a0), (1, .int a1)]) hx hb dX12_chanceOf_14 rfl hl (by decide) rfl (fun ls hl => ?_)
    refine lv_iload_n hx hb dX12_chanceOf_15 rfl (lv_at hl 0 rfl) ?_
    refine lv_if_ne (tgt := 23) hx hb dX12_chanceOf_16 (by decide) (fun c19 => ?_) (fun c19 => ?_)
    · replace hf := (if_neg c19).symm.trans hf
      refine lv_lconst (v := (0 : Int64)) hx hb dX12_chanceOf_23 (by decide) ?_
      refine lv_lstore (lv' := [(4, .long (0 : Int64)), (3, .int x3), (2, .int x2), (0, .int a0), (1, .int a1)]) hx hb dX12_chanceOf_24 hl (by decide) rfl (fun ls hl => ?_)
      refine lv_lconst (v := (1 : Int64)) hx hb dX12_chanceOf_26 (by decide) ?_
      refine lv_lstore (lv' := [(6, .long (1 : Int64)), (4, .long (0 : Int64)), (3, .int x3), (2, .int x2), (0, .int a0), (1, .int a1)]) hx hb dX12_chanceOf_27 hl (by decide) rfl (fun ls hl => ?_)
      refine lv_iconst (v := (0 : Int32)) hx hb dX12_chanceOf_29 (by decide) ?_
      refine lv_istore (lv' := [(8, .int (0 : Int32)), (6, .long (1 : Int64)), (4, .long (0 : Int64)), (3, .int x3), (2, .int x2), (0, .int a0), (1, .int a1)]) hx hb dX12_chanceOf_30 hl (by decide) rfl (fun ls hl => ?_)
      obtain ⟨r7, hq1, hf⟩ := bd_some hf
      have K1 : ∀ (H : Heap) (locs : List Loc), sInv D (mT cI cJ cD) (mW ad cI cJ cD) A s H locs (G, E, Dd) → ∀ (ls : Array Slot), lv_has ls 10 [(3, .int x3), (4, .long r7)] → W p l e R s m args below meth c H locs 0 0 Q (F0 m 77 ls []) := by
        intro H locs I ls hl
        refine lv_ldc2 (v := (2 : Int64)) hx hb hown (hG _ q1654) dX12_chanceOf_77 ?_
        refine lv_lload hx hb dX12_chanceOf_80 (lv_at hl 1 rfl) ?_
        refine lv_lmul hx hb dX12_chanceOf_82 ?_
        refine lv_bipush (v := (48 : Int32)) hx hb dX12_chanceOf_83 (by decide) ?_
        refine lv_iload_n hx hb dX12_chanceOf_85 rfl (lv_at hl 0 rfl) ?_
        refine lv_isub hx hb dX12_chanceOf_86 ?_
        refine lv_lshl hx hb dX12_chanceOf_87 rfl ?_
        refine lv_topl (fun x8 ex8 => ?_)
        replace hf := nm_some ex8 hf
        refine lv_lstore (lv' := [(8, .long x8), (3, .int x3), (4, .long r7)]) hx hb dX12_chanceOf_88 hl (by decide) rfl (fun ls hl => ?_)
        refine lv_lload hx hb dX12_chanceOf_90 (lv_at hl 0 rfl) ?_
        refine lv_ldc2 (v := (281474976710656 : Int64)) hx hb hown (hG _ q1653) dX12_chanceOf_92 ?_
        refine W.lcmp hx hb dX12_chanceOf_95 ?_
        refine lv_if_le (tgt := 105) hx hb dX12_chanceOf_96 (by decide) (fun c9 => ?_) (fun c9 => ?_)
        · replace hf := (if_pos c9).symm.trans hf
          refine lv_lload hx hb dX12_chanceOf_105 (lv_at hl 0 rfl) ?_
          cases hf
          exact ret H locs _ ls I dX12_chanceOf_107
        · replace hf := (if_neg c9).symm.trans hf
          refine lv_ldc2 (v := (281474976710656 : Int64)) hx hb hown (hG _ q1653) dX12_chanceOf_99 ?_
          refine lv_goto (tgt := 107) hx hb dX12_chanceOf_102 (by decide) ?_
          cases hf
          exact ret H locs _ ls I dX12_chanceOf_107
      have L1 : ∀ (n : Nat) (x4 : Int64) (x5 : Int64) (x6 : Int32), lp (fun q => M_chanceOf_s1 x2 x3 q.1 q.2.1 q.2.2) n (x4, x5, x6) = some r7 → ∀ (H : Heap) (locs : List Loc), sInv D (mT cI cJ cD) (mW ad cI cJ cD) A s H locs (G, E, Dd) → ∀ (ls : Array Slot), lv_has ls 10 [(2, .int x2), (3, .int x3), (4, .long x4), (6, .long x5), (8, .int x6)] → W p l e R s m args below meth c H locs 0 0 Q (F0 m 32 ls []) := by
        intro n
        induction n with
        | zero => intro x4 x5 x6 hq; exact (lp_0 hq).elim
        | succ n ih1 =>
          intro x4 x5 x6 hq H locs I ls hl
          obtain ⟨y1, hf, hK1⟩ := lp_go hq
          replace hf : M_chanceOf_s1 x2 x3 x4 x5 x6 = some y1 := hf
          unfold M_chanceOf_s1 at hf
          refine lv_iload hx hb dX12_chanceOf_32 (lv_at hl 4 rfl) ?_
          refine lv_iload_n hx hb dX12_chanceOf_34 rfl (lv_at hl 1 rfl) ?_
          refine lv_icmp_gt (tgt := 77) hx hb dX12_chanceOf_35 (by decide) (fun c18 => ?_) (fun c18 => ?_)
          · replace hf := (if_pos c18).symm.trans hf
            cases hf
            cases (show x4 = r7 from hK1)
            exact K1 H locs I ls (lv_sub hl [1, 2] rfl)
          · replace hf := (if_neg c18).symm.trans hf
            refine lv_lload hx hb dX12_chanceOf_38 (lv_at hl 2 rfl) ?_
            refine lv_iload hx hb dX12_chanceOf_40 (lv_at hl 4 rfl) ?_
            refine lv_iload_n hx hb dX12_chanceOf_42 rfl (lv_at hl 0 rfl) ?_
            obtain ⟨x11, hv16, hf⟩ := bd_some hf
            have J10 : ∀ (H : Heap) (locs : List Loc), sInv D (mT cI cJ cD) (mW ad cI cJ cD) A s H locs (G, E, Dd) → ∀ (ls : Array Slot), lv_has ls 10 [(2, .int x2), (3, .int x3), (6, .long x5), (8, .int x6)] → W p l e R s m args below meth c H locs 0 0 Q (F0 m 52 ls [.long x11, .long x4]) := by
              intro H locs I ls hl
              refine lv_ladd hx hb dX12_chanceOf_52 ?_
              refine lv_topl (fun x12 ex12 => ?_)
              replace hf := nm_some ex12 hf
              refine lv_lstore (lv' := [(4, .long x12), (2, .int x2), (3, .int x3), (6, .long x5), (8, .int x6)]) hx hb dX12_chanceOf_53 hl (by decide) rfl (fun ls hl => ?_)
              refine lv_lload hx hb dX12_chanceOf_55 (lv_at hl 3 rfl) ?_
              refine lv_iload_n hx hb dX12_chanceOf_57 rfl (lv_at hl 2 rfl) ?_
              refine lv_iload hx hb dX12_chanceOf_58 (lv_at hl 4 rfl) ?_
              refine lv_isub hx hb dX12_chanceOf_60 ?_
              refine lv_i2l hx hb dX12_chanceOf_61 rfl ?_
              refine lv_lmul hx hb dX12_chanceOf_62 ?_
              refine lv_iload hx hb dX12_chanceOf_63 (lv_at hl 4 rfl) ?_
              refine lv_iconst (v := (1 : Int32)) hx hb dX12_chanceOf_65 (by decide) ?_
              refine lv_iadd hx hb dX12_chanceOf_66 ?_
              refine lv_i2l hx hb dX12_chanceOf_67 rfl ?_
              obtain ⟨g13, hf⟩ := gd_some hf
              refine lv_ldiv hx hb dX12_chanceOf_68 g13 ?_
              refine lv_topl (fun x14 ex14 => ?_)
              replace hf := nm_some ex14 hf
              refine lv_lstore (lv' := [(6, .long x14), (4, .long x12), (2, .int x2), (3, .int x3), (8, .int x6)]) hx hb dX12_chanceOf_69 hl (by decide) rfl (fun ls hl => ?_)
              obtain ⟨x15, ex15⟩ : ∃ y : Int32, y = x6 + (1 : Int32) := ⟨_, rfl⟩
              replace hf := nm_some ex15 hf
              refine lv_iinc (v := x15) (lv' := [(8, .int x15), (6, .long x14), (4, .long x12), (2, .int x2), (3, .int x3)]) hx hb dX12_chanceOf_71 hl (k := 4) rfl (by rw [ex15]; rfl) (by decide) rfl (fun ls hl => ?_)
              refine lv_goto (tgt := 32) hx hb dX12_chanceOf_74 (by decide) ?_
              cases hf
              exact ih1 _ _ _ hK1 H locs I ls (lv_sub hl [3, 4, 2, 1, 0] rfl)
            replace hf := hv16
            refine lv_icmp_lt (tgt := 51) hx hb dX12_chanceOf_43 (by decide) (fun c17 => ?_) (fun c17 => ?_)
            · replace hf := (if_pos c17).symm.trans hf
              refine lv_lconst (v := (0 : Int64)) hx hb dX12_chanceOf_51 (by decide) ?_
              cases hf
              exact J10 H locs I ls (lv_sub hl [0, 1, 3, 4] rfl)
            · replace hf := (if_neg c17).symm.trans hf
              refine lv_lload hx hb dX12_chanceOf_46 (lv_at hl 3 rfl) ?_
              refine lv_goto (tgt := 52) hx hb dX12_chanceOf_48 (by decide) ?_
              cases hf
              exact J10 H locs I ls (lv_sub hl [0, 1, 3, 4] rfl)
      exact L1 FU _ _ _ hq1 H locs I ls (lv_sub hl [4, 3, 2, 1, 0] rfl)
    · replace hf := (if_pos c19).symm.trans hf
      refine lv_ldc2 (v := (281474976710656 : Int64)) hx hb hown (hG _ q1653) dX12_chanceOf_19 ?_
      cases hf
      exact ret H locs _ ls I dX12_chanceOf_22
  replace hf := hv20
  refine lv_icmp_le (tgt := 9) hx hb dX12_chanceOf_2 (by decide) (fun c21 => ?_) (fun c21 => ?_)
  · replace hf := (if_pos c21).symm.trans hf
    refine lv_iload_n hx hb dX12_chanceOf_9 rfl (lv_at hl 1 rfl) ?_
    cases hf
    exact J1 H locs I ls (lv_sub hl [0, 1] rfl)
  · replace hf := (if_neg c21).symm.trans hf
    refine lv_iload_n hx hb dX12_chanceOf_5 rfl (lv_at hl 0 rfl) ?_
    refine lv_goto (tgt := 10) hx hb dX12_chanceOf_6 (by decide) ?_
    cases hf
    exact J1 H locs I ls (lv_sub hl [0, 1] rfl)
def M_chanceNow (G : Nat → Nat → Int32) (a0 : Int32) (a1 : Int32) : Option (Int64) :=
bd (M_wins G a0 a1) fun r1 =>
bd (M_wins G a1 a0) fun r3 =>
bd (M_chanceOf r1 r3) fun r5 =>
some r5
set_option maxRecDepth 100000 in
set_option maxHeartbeats 4000000 in
theorem cM_chanceNow (G : Nat → Nat → Int32) (E : Nat → Nat → Int64) (Dd : Nat → Nat → UInt64) (a0 : Int32) (a1 : Int32) (rv : Int64)  (hf : M_chanceNow G a0 a1 = some rv) : sMl D (mT cI cJ cD) (mW ad cI cJ cD) l yX12_chanceNow (ws1 yX12_chanceNow cX12_chanceNow 3 (some .long)) ({ frames := 3, cells := 0, slots := 0, locals := 72 }) [.ref (ad 0), .int a0, .int a1] (G, E, Dd) (rv, (G, E, Dd)) := by
  unfold M_chanceNow at hf
  refine sMl_of (by decide) (Nat.le_of_ble_eq_true rfl) ?_
  intro p e R s m args below meth c A Q ls H locs F hRf hRl I hl ret
  obtain ⟨hx, hb, hml, hown, hG⟩ := id F
  replace hl : lv_has ls 3 [(0, .ref (ad 0)), (1, .int a0), (2, .int a1)] := hl
  refine lv_aload_n hx hb dX12_chanceNow_0 rfl (lv_at hl 0 rfl) ?_
  refine lv_iload_n hx hb dX12_chanceNow_1 rfl (lv_at hl 1 rfl) ?_
  refine lv_iload_n hx hb dX12_chanceNow_2 rfl (lv_at hl 2 rfl) ?_
  obtain ⟨r1, h2, hf⟩ := bd_some hf
  refine s_callVi (As := [.int a0, .int a1]) (rest := []) F I (cM_wins G E Dd a0 a1 r1 h2) kX12_227 ⟨rfl, rfl⟩ ⟨Nat.le_trans (Nat.le_of_ble_eq_true rfl) hRf, Nat.le_trans (Nat.le_of_ble_eq_true rfl) hRl⟩ 0 12 rfl rfl rfl rfl rfl hl.1 (Nat.le_of_ble_eq_true rfl) ⟨Nat.zero_le _, Nat.zero_le _⟩ dX12_chanceNow_3 ?_
  intro H locs I
  refine lv_aload_n hx hb dX12_chanceNow_6 rfl (lv_at hl 0 rfl) ?_
  refine lv_iload_n hx hb dX12_chanceNow_7 rfl (lv_at hl 2 rfl) ?_
  refine lv_iload_n hx hb dX12_chanceNow_8 rfl (lv_at hl 1 rfl) ?_
  obtain ⟨r3, h4, hf⟩ := bd_some hf
  refine s_callVi (As := [.int a1, .int a0]) (rest := [.int r1]) F I (cM_wins G E Dd a1 a0 r3 h4) kX12_227 ⟨rfl, rfl⟩ ⟨Nat.le_trans (Nat.le_of_ble_eq_true rfl) hRf, Nat.le_trans (Nat.le_of_ble_eq_true rfl) hRl⟩ 0 12 rfl rfl rfl rfl rfl hl.1 (Nat.le_of_ble_eq_true rfl) ⟨Nat.zero_le _, Nat.zero_le _⟩ dX12_chanceNow_9 ?_
  intro H locs I
  obtain ⟨r5, h6, hf⟩ := bd_some hf
  refine s_callSl (As := [.int r1, .int r3]) (rest := []) F I (cM_chanceOf G E Dd r1 r3 r5 h6) kX12_323 ⟨rfl, rfl⟩ ⟨Nat.le_trans (Nat.le_of_ble_eq_true rfl) hRf, Nat.le_trans (Nat.le_of_ble_eq_true rfl) hRl⟩ rfl rfl hl.1 (Nat.le_of_ble_eq_true rfl) ⟨Nat.zero_le _, Nat.zero_le _⟩ dX12_chanceNow_12 ?_
  intro H locs I
  cases hf
  exact ret H locs _ ls I dX12_chanceNow_15
def M_chance (G : Nat → Nat → Int32) (a0 : Int32) (a1 : Int32) : Option (Int64 × (Nat → Nat → Int32)) :=
bd (M_isSample G a0) fun r1 =>
bd (if r1 = 0 then
(some (1 : Int32))
else
(bd (M_isSample G a1) fun r10 =>
if r10 = 0 then
(some (1 : Int32))
else
(if a0 = a1 then
(some (2 : Int32))
else
(some (0 : Int32))))) fun x4 =>
nm (wf G 0 x4) fun G5 =>
if G5 0 0 ≤ 0 then
(bd (M_chanceNow G5 a0 a1) fun r6 =>
some (r6, G5))
else
(some ((0 : Int64), G5))
set_option maxRecDepth 100000 in
set_option maxHeartbeats 4000000 in
theorem cM_chance (G : Nat → Nat → Int32) (E : Nat → Nat → Int64) (Dd : Nat → Nat → UInt64) (a0 : Int32) (a1 : Int32) (rv : Int64) (newG : Nat → Nat → Int32) (hf : M_chance G a0 a1 = some (rv, newG)) : sMl D (mT cI cJ cD) (mW ad cI cJ cD) l yX12_chance (ws1 yX12_chance cX12_chance 3 (some .long)) ({ frames := 4, cells := 0, slots := 0, locals := 94 }) [.ref (ad 0), .int a0, .int a1] (G, E, Dd) (rv, (newG, E, Dd)) := by
  unfold M_chance at hf
  refine sMl_of (by decide) (Nat.le_of_ble_eq_true rfl) ?_
  intro p e R s m args below meth c A Q ls H locs F hRf hRl I hl ret
  obtain ⟨hx, hb, hml, hown, hG⟩ := id F
  replace hl : lv_has ls 3 [(0, .ref (ad 0)), (1, .int a0), (2, .int a1)] := hl
  refine lv_aload_n hx hb dX12_chance_0 rfl (lv_at hl 0 rfl) ?_
  refine lv_aload_n hx hb dX12_chance_1 rfl (lv_at hl 0 rfl) ?_
  refine lv_iload_n hx hb dX12_chance_2 rfl (lv_at hl 1 rfl) ?_
  obtain ⟨r1, h2, hf⟩ := bd_some hf
  refine s_callVi (As := [.int a0]) (rest := [.ref (ad 0)]) F I (cM_isSample G E Dd a0 r1 h2) kX12_151 ⟨rfl, rfl⟩ ⟨Nat.le_trans (Nat.le_of_ble_eq_true rfl) hRf, Nat.le_trans (Nat.le_of_ble_eq_true rfl) hRl⟩ 0 12 rfl rfl rfl rfl rfl hl.1 (Nat.le_of_ble_eq_true rfl) ⟨Nat.zero_le _, Nat.zero_le _⟩ dX12_chance_3 ?_
  intro H locs I
  obtain ⟨x4, hv9, hf⟩ := bd_some hf
  have J3 : ∀ (H : Heap) (locs : List Loc), sInv D (mT cI cJ cD) (mW ad cI cJ cD) A s H locs (G, E, Dd) → ∀ (ls : Array Slot), lv_has ls 3 [(0, .ref (ad 0)), (1, .int a0), (2, .int a1)] → W p l e R s m args below meth c H locs 0 0 Q (F0 m 31 ls [.int x4, .ref (ad 0)]) := by
    intro H locs I ls hl
    refine mptX12_89_0 F I dX12_chance_31 ?_
    intro H locs G5 eG5 I
    replace hf := nm_some eG5 hf
    refine lv_aload_n hx hb dX12_chance_34 rfl (lv_at hl 0 rfl) ?_
    refine mgtX12_89_0 F I dX12_chance_35 ?_
    refine lv_if_le (tgt := 45) hx hb dX12_chance_38 (by decide) (fun c8 => ?_) (fun c8 => ?_)
    · replace hf := (if_pos c8).symm.trans hf
      refine lv_aload_n hx hb dX12_chance_45 rfl (lv_at hl 0 rfl) ?_
      refine lv_iload_n hx hb dX12_chance_46 rfl (lv_at hl 1 rfl) ?_
      refine lv_iload_n hx hb dX12_chance_47 rfl (lv_at hl 2 rfl) ?_
      obtain ⟨r6, h7, hf⟩ := bd_some hf
      refine s_callVl (As := [.int a0, .int a1]) (rest := []) F I (cM_chanceNow G5 E Dd a0 a1 r6 h7) kX12_327 ⟨rfl, rfl⟩ ⟨Nat.le_trans (Nat.le_of_ble_eq_true rfl) hRf, Nat.le_trans (Nat.le_of_ble_eq_true rfl) hRl⟩ 0 12 rfl rfl rfl rfl rfl hl.1 (Nat.le_of_ble_eq_true rfl) ⟨Nat.zero_le _, Nat.zero_le _⟩ dX12_chance_48 ?_
      intro H locs I
      cases hf
      exact ret H locs _ ls I dX12_chance_51
    · replace hf := (if_neg c8).symm.trans hf
      refine lv_lconst (v := (0 : Int64)) hx hb dX12_chance_41 (by decide) ?_
      refine lv_goto (tgt := 51) hx hb dX12_chance_42 (by decide) ?_
      cases hf
      exact ret H locs _ ls I dX12_chance_51
  replace hf := hv9
  refine lv_if_eq (tgt := 17) hx hb dX12_chance_6 (by decide) (fun c14 => ?_) (fun c14 => ?_)
  · replace hf := (if_pos c14).symm.trans hf
    refine lv_iconst (v := (1 : Int32)) hx hb dX12_chance_17 (by decide) ?_
    refine lv_goto (tgt := 31) hx hb dX12_chance_18 (by decide) ?_
    cases hf
    exact J3 H locs I ls (lv_sub hl [0, 1, 2] rfl)
  · replace hf := (if_neg c14).symm.trans hf
    refine lv_aload_n hx hb dX12_chance_9 rfl (lv_at hl 0 rfl) ?_
    refine lv_iload_n hx hb dX12_chance_10 rfl (lv_at hl 2 rfl) ?_
    obtain ⟨r10, h11, hf⟩ := bd_some hf
    refine s_callVi (As := [.int a1]) (rest := [.ref (ad 0)]) F I (cM_isSample G E Dd a1 r10 h11) kX12_151 ⟨rfl, rfl⟩ ⟨Nat.le_trans (Nat.le_of_ble_eq_true rfl) hRf, Nat.le_trans (Nat.le_of_ble_eq_true rfl) hRl⟩ 0 12 rfl rfl rfl rfl rfl hl.1 (Nat.le_of_ble_eq_true rfl) ⟨Nat.zero_le _, Nat.zero_le _⟩ dX12_chance_11 ?_
    intro H locs I
    refine lv_if_ne (tgt := 21) hx hb dX12_chance_14 (by decide) (fun c13 => ?_) (fun c13 => ?_)
    · replace hf := (if_neg c13).symm.trans hf
      refine lv_iload_n hx hb dX12_chance_21 rfl (lv_at hl 1 rfl) ?_
      refine lv_iload_n hx hb dX12_chance_22 rfl (lv_at hl 2 rfl) ?_
      refine lv_icmp_ne (tgt := 30) hx hb dX12_chance_23 (by decide) (fun c12 => ?_) (fun c12 => ?_)
      · replace hf := (if_neg c12).symm.trans hf
        refine lv_iconst (v := (0 : Int32)) hx hb dX12_chance_30 (by decide) ?_
        cases hf
        exact J3 H locs I ls (lv_sub hl [0, 1, 2] rfl)
      · replace hf := (if_pos c12).symm.trans hf
        refine lv_iconst (v := (2 : Int32)) hx hb dX12_chance_26 (by decide) ?_
        refine lv_goto (tgt := 31) hx hb dX12_chance_27 (by decide) ?_
        cases hf
        exact J3 H locs I ls (lv_sub hl [0, 1, 2] rfl)
    · replace hf := (if_pos c13).symm.trans hf
      refine lv_iconst (v := (1 : Int32)) hx hb dX12_chance_17 (by decide) ?_
      refine lv_goto (tgt := 31) hx hb dX12_chance_18 (by decide) ?_
      cases hf
      exact J3 H locs I ls (lv_sub hl [0, 1, 2] rfl)
def M_placeNow (G : Nat → Nat → Int32) : Option (Int64) :=
bd (M_firsts G (1 : Int32)) fun r1 =>
bd (M_firsts G (2 : Int32)) fun r3 =>
bd (M_chanceOf r1 r3) fun r5 =>
some r5
set_option maxRecDepth 100000 in
set_option maxHeartbeats 4000000 in
theorem cM_placeNow (G : Nat → Nat → Int32) (E : Nat → Nat → Int64) (Dd : Nat → Nat → UInt64)  (rv : Int64)  (hf : M_placeNow G = some rv) : sMl D (mT cI cJ cD) (mW ad cI cJ cD) l yX12_placeNow (ws1 yX12_placeNow cX12_placeNow 1 (some .long)) ({ frames := 1, cells := 0, slots := 0, locals := 29 }) [.ref (ad 0)] (G, E, Dd) (rv, (G, E, Dd)) := by
  unfold M_placeNow at hf
  refine sMl_of (by decide) (Nat.le_of_ble_eq_true rfl) ?_
  intro p e R s m args below meth c A Q ls H locs F hRf hRl I hl ret
  obtain ⟨hx, hb, hml, hown, hG⟩ := id F
  replace hl : lv_has ls 1 [(0, .ref (ad 0))] := hl
  refine lv_aload_n hx hb dX12_placeNow_0 rfl (lv_at hl 0 rfl) ?_
  refine lv_iconst (v := (1 : Int32)) hx hb dX12_placeNow_1 (by decide) ?_
  obtain ⟨r1, h2, hf⟩ := bd_some hf
  refine s_callVi (As := [.int (1 : Int32)]) (rest := []) F I (cM_firsts G E Dd (1 : Int32) r1 h2) kX12_204 ⟨rfl, rfl⟩ ⟨Nat.le_trans (Nat.le_of_ble_eq_true rfl) hRf, Nat.le_trans (Nat.le_of_ble_eq_true rfl) hRl⟩ 0 12 rfl rfl rfl rfl rfl hl.1 (Nat.le_of_ble_eq_true rfl) ⟨Nat.zero_le _, Nat.zero_le _⟩ dX12_placeNow_2 ?_
  intro H locs I
  refine lv_aload_n hx hb dX12_placeNow_5 rfl (lv_at hl 0 rfl) ?_
  refine lv_iconst (v := (2 : Int32)) hx hb dX12_placeNow_6 (by decide) ?_
  obtain ⟨r3, h4, hf⟩ := bd_some hf
  refine s_callVi (As := [.int (2 : Int32)]) (rest := [.int r1]) F I (cM_firsts G E Dd (2 : Int32) r3 h4) kX12_204 ⟨rfl, rfl⟩ ⟨Nat.le_trans (Nat.le_of_ble_eq_true rfl) hRf, Nat.le_trans (Nat.le_of_ble_eq_true rfl) hRl⟩ 0 12 rfl rfl rfl rfl rfl hl.1 (Nat.le_of_ble_eq_true rfl) ⟨Nat.zero_le _, Nat.zero_le _⟩ dX12_placeNow_7 ?_
  intro H locs I
  obtain ⟨r5, h6, hf⟩ := bd_some hf
  refine s_callSl (As := [.int r1, .int r3]) (rest := []) F I (cM_chanceOf G E Dd r1 r3 r5 h6) kX12_323 ⟨rfl, rfl⟩ ⟨Nat.le_trans (Nat.le_of_ble_eq_true rfl) hRf, Nat.le_trans (Nat.le_of_ble_eq_true rfl) hRl⟩ rfl rfl hl.1 (Nat.le_of_ble_eq_true rfl) ⟨Nat.zero_le _, Nat.zero_le _⟩ dX12_placeNow_10 ?_
  intro H locs I
  cases hf
  exact ret H locs _ ls I dX12_placeNow_13
def M_placeChance (G : Nat → Nat → Int32) : Option (Int64 × (Nat → Nat → Int32)) :=
nm (wf G 0 (0 : Int32)) fun G1 =>
bd (M_placeNow G1) fun r2 =>
some (r2, G1)
set_option maxRecDepth 100000 in
set_option maxHeartbeats 4000000 in
theorem cM_placeChance (G : Nat → Nat → Int32) (E : Nat → Nat → Int64) (Dd : Nat → Nat → UInt64)  (rv : Int64) (newG : Nat → Nat → Int32) (hf : M_placeChance G = some (rv, newG)) : sMl D (mT cI cJ cD) (mW ad cI cJ cD) l yX12_placeChance (ws1 yX12_placeChance cX12_placeChance 1 (some .long)) ({ frames := 2, cells := 0, slots := 0, locals := 49 }) [.ref (ad 0)] (G, E, Dd) (rv, (newG, E, Dd)) := by
  unfold M_placeChance at hf
  refine sMl_of (by decide) (Nat.le_of_ble_eq_true rfl) ?_
  intro p e R s m args below meth c A Q ls H locs F hRf hRl I hl ret
  obtain ⟨hx, hb, hml, hown, hG⟩ := id F
  replace hl : lv_has ls 1 [(0, .ref (ad 0))] := hl
  refine lv_aload_n hx hb dX12_placeChance_0 rfl (lv_at hl 0 rfl) ?_
  refine lv_iconst (v := (0 : Int32)) hx hb dX12_placeChance_1 (by decide) ?_
  refine mptX12_89_0 F I dX12_placeChance_2 ?_
  intro H locs G1 eG1 I
  replace hf := nm_some eG1 hf
  refine lv_aload_n hx hb dX12_placeChance_5 rfl (lv_at hl 0 rfl) ?_
  obtain ⟨r2, h3, hf⟩ := bd_some hf
  refine s_callVl (As := []) (rest := []) F I (cM_placeNow G1 E Dd r2 h3) kX12_330 ⟨rfl, rfl⟩ ⟨Nat.le_trans (Nat.le_of_ble_eq_true rfl) hRf, Nat.le_trans (Nat.le_of_ble_eq_true rfl) hRl⟩ 0 12 rfl rfl rfl rfl rfl hl.1 (Nat.le_of_ble_eq_true rfl) ⟨Nat.zero_le _, Nat.zero_le _⟩ dX12_placeChance_6 ?_
  intro H locs I
  cases hf
  exact ret H locs _ ls I dX12_placeChance_9
def M_addPair_s1 (a2 : Int64) (x2 : Int32) (G3 : Nat → Nat → Int32) (E4 : Nat → Nat → Int64) : Option ((Int32 × (Nat → Nat → Int32) × (Nat → Nat → Int64)) ⊕ (Int32 × (Nat → Nat → Int32) × (Nat → Nat → Int64))) :=
if x2 ≤ 0 then
(some (.inr (x2, G3, E4)))
else
(ri 28 (x2 - (1 : Int32)) <|
if lg_cmp (E4 34 (x2 - (1 : Int32)).toNatClampNeg) a2 ≤ 0 then
(some (.inr (x2, G3, E4)))
else
(ri 28 (x2 - (1 : Int32)) <|
ri 28 x2 <|
nm (wr G3 33 x2 (G3 33 (x2 - (1 : Int32)).toNatClampNeg)) fun G16 =>
ri 28 (x2 - (1 : Int32)) <|
ri 28 x2 <|
nm (wr E4 34 x2 (E4 34 (x2 - (1 : Int32)).toNatClampNeg)) fun E19 =>
nm (x2 + (-1 : Int32) : Int32) fun x20 =>
some (.inl (x20, G16, E19))))
def M_addPair (G : Nat → Nat → Int32) (E : Nat → Nat → Int64) (a0 : Int32) (a1 : Int32) (a2 : Int64) : Option ((Nat → Nat → Int32) × (Nat → Nat → Int64)) :=
nm (G 32 0 : Int32) fun x1 =>
bd3 (lp (fun q => M_addPair_s1 a2 q.1 q.2.1 q.2.2) FU (x1, G, E)) fun r5 G6 E7 =>
ri 28 r5 <|
nm (wr G6 33 r5 (((10 : Int32) * a0) + a1)) fun G9 =>
ri 28 r5 <|
nm (wr E7 34 r5 a2) fun E11 =>
nm (wf G9 32 ((G9 32 0) + (1 : Int32))) fun G12 =>
some (G12, E11)
set_option maxRecDepth 100000 in
set_option maxHeartbeats 4000000 in
theorem cM_addPair (G : Nat → Nat → Int32) (E : Nat → Nat → Int64) (Dd : Nat → Nat → UInt64) (a0 : Int32) (a1 : Int32) (a2 : Int64)  (newG : Nat → Nat → Int32) (newE : Nat → Nat → Int64) (hf : M_addPair G E a0 a1 a2 = some (newG, newE)) : sMv D (mT cI cJ cD) (mW ad cI cJ cD) l yX12_addPair (ws1 yX12_addPair cX12_addPair 6 none) ({ frames := 0, cells := 0, slots := 0, locals := 0 }) [.ref (ad 0), .int a0, .int a1, .long a2] (G, E, Dd) (newG, newE, Dd) := by
  unfold M_addPair at hf
  refine sMv_of (by decide) (Nat.le_of_ble_eq_true rfl) ?_
  intro p e R s m args below meth c A Q ls H locs F hRf hRl I hl ret
  obtain ⟨hx, hb, hml, hown, hG⟩ := id F
  replace hl : lv_has ls 6 [(0, .ref (ad 0)), (1, .int a0), (2, .int a1), (3, .long a2)] := hl
  refine lv_aload_n hx hb dX12_addPair_0 rfl (lv_at hl 0 rfl) ?_
  refine mgtX12_334_0 F I dX12_addPair_1 ?_
  refine lv_topi (fun x1 ex1 => ?_)
  replace hf := nm_some ex1 hf
  refine lv_istore (lv' := [(5, .int x1), (0, .ref (ad 0)), (1, .int a0), (2, .int a1), (3, .long a2)]) hx hb dX12_addPair_4 hl (by decide) rfl (fun ls hl => ?_)
  obtain ⟨r5, G6, E7, hq1, hf⟩ := bd3_some hf
  have K1 : ∀ (H : Heap) (locs : List Loc), sInv D (mT cI cJ cD) (mW ad cI cJ cD) A s H locs (G6, E7, Dd) → ∀ (ls : Array Slot), lv_has ls 6 [(0, .ref (ad 0)), (1, .int a0), (2, .int a1), (3, .long a2), (5, .int r5)] → W p l e R s m args below meth c H locs 0 0 Q (F0 m 63 ls []) := by
    intro H locs I ls hl
    refine lv_aload_n hx hb dX12_addPair_63 rfl (lv_at hl 0 rfl) ?_
    refine mgtX12_65_0 F I dX12_addPair_64 ?_
    refine lv_iload hx hb dX12_addPair_67 (lv_at hl 4 rfl) ?_
    refine lv_bipush (v := (10 : Int32)) hx hb dX12_addPair_69 (by decide) ?_
    refine lv_iload_n hx hb dX12_addPair_71 rfl (lv_at hl 1 rfl) ?_
    refine lv_imul hx hb dX12_addPair_72 ?_
    refine lv_iload_n hx hb dX12_addPair_73 rfl (lv_at hl 2 rfl) ?_
    refine lv_iadd hx hb dX12_addPair_74 ?_
    obtain ⟨g8, hf⟩ := ri_some hf
    refine mas18 F I g8 dX12_addPair_75 ?_
    intro H locs G9 eG9 I
    replace hf := nm_some eG9 hf
    refine lv_aload_n hx hb dX12_addPair_76 rfl (lv_at hl 0 rfl) ?_
    refine mgtX12_68_0 F I dX12_addPair_77 ?_
    refine lv_iload hx hb dX12_addPair_80 (lv_at hl 4 rfl) ?_
    refine lv_lload_n hx hb dX12_addPair_82 rfl (lv_at hl 3 rfl) ?_
    obtain ⟨g10, hf⟩ := ri_some hf
    refine mas19 F I g10 dX12_addPair_83 ?_
    intro H locs E11 eE11 I
    replace hf := nm_some eE11 hf
    refine lv_aload_n hx hb dX12_addPair_84 rfl (lv_at hl 0 rfl) ?_
    refine lv_dup hx hb dX12_addPair_85 rfl ?_
    refine mgtX12_334_0 F I dX12_addPair_86 ?_
    refine lv_iconst (v := (1 : Int32)) hx hb dX12_addPair_89 (by decide) ?_
    refine lv_iadd hx hb dX12_addPair_90 ?_
    refine mptX12_334_0 F I dX12_addPair_91 ?_
    intro H locs G12 eG12 I
    replace hf := nm_some eG12 hf
    cases hf
    exact ret H locs _ ls I dX12_addPair_94
  have L1 : ∀ (n : Nat) (x2 : Int32) (G3 : Nat → Nat → Int32) (E4 : Nat → Nat → Int64), lp (fun q => M_addPair_s1 a2 q.1 q.2.1 q.2.2) n (x2, G3, E4) = some (r5, G6, E7) → ∀ (H : Heap) (locs : List Loc), sInv D (mT cI cJ cD) (mW ad cI cJ cD) A s H locs (G3, E4, Dd) → ∀ (ls : Array Slot), lv_has ls 6 [(0, .ref (ad 0)), (1, .int a0), (2, .int a1), (3, .long a2), (5, .int x2)] → W p l e R s m args below meth c H locs 0 0 Q (F0 m 6 ls []) := by
    intro n
    induction n with
    | zero => intro x2 G3 E4 hq; exact (lp_0 hq).elim
    | succ n ih1 =>
      intro x2 G3 E4 hq H locs I ls hl
      obtain ⟨y1, hf, hK1⟩ := lp_go hq
      replace hf : M_addPair_s1 a2 x2 G3 E4 = some y1 := hf
      unfold M_addPair_s1 at hf
      refine lv_iload hx hb dX12_addPair_6 (lv_at hl 4 rfl) ?_
      refine lv_if_le (tgt := 63) hx hb dX12_addPair_8 (by decide) (fun c22 => ?_) (fun c22 => ?_)
      · replace hf := (if_pos c22).symm.trans hf
        cases hf
        cases (show (x2, G3, E4) = (r5, G6, E7) from hK1)
        exact K1 H locs I ls (lv_sub hl [0, 1, 2, 3, 4] rfl)
      · replace hf := (if_neg c22).symm.trans hf
        refine lv_aload_n hx hb dX12_addPair_11 rfl (lv_at hl 0 rfl) ?_
        refine mgtX12_68_0 F I dX12_addPair_12 ?_
        refine lv_iload hx hb dX12_addPair_15 (lv_at hl 4 rfl) ?_
        refine lv_iconst (v := (1 : Int32)) hx hb dX12_addPair_17 (by decide) ?_
        refine lv_isub hx hb dX12_addPair_18 ?_
        obtain ⟨g13, hf⟩ := ri_some hf
        refine mal19 F I g13 dX12_addPair_19 ?_
        refine lv_lload_n hx hb dX12_addPair_20 rfl (lv_at hl 3 rfl) ?_
        refine W.lcmp hx hb dX12_addPair_21 ?_
        refine lv_if_le (tgt := 63) hx hb dX12_addPair_22 (by decide) (fun c21 => ?_) (fun c21 => ?_)
        · replace hf := (if_pos c21).symm.trans hf
          cases hf
          cases (show (x2, G3, E4) = (r5, G6, E7) from hK1)
          exact K1 H locs I ls (lv_sub hl [0, 1, 2, 3, 4] rfl)
        · replace hf := (if_neg c21).symm.trans hf
          refine lv_aload_n hx hb dX12_addPair_25 rfl (lv_at hl 0 rfl) ?_
          refine mgtX12_65_0 F I dX12_addPair_26 ?_
          refine lv_iload hx hb dX12_addPair_29 (lv_at hl 4 rfl) ?_
          refine lv_aload_n hx hb dX12_addPair_31 rfl (lv_at hl 0 rfl) ?_
          refine mgtX12_65_0 F I dX12_addPair_32 ?_
          refine lv_iload hx hb dX12_addPair_35 (lv_at hl 4 rfl) ?_
          refine lv_iconst (v := (1 : Int32)) hx hb dX12_addPair_37 (by decide) ?_
          refine lv_isub hx hb dX12_addPair_38 ?_
          obtain ⟨g14, hf⟩ := ri_some hf
          refine mal18 F I g14 dX12_addPair_39 ?_
          obtain ⟨g15, hf⟩ := ri_some hf
          refine mas18 F I g15 dX12_addPair_40 ?_
          intro H locs G16 eG16 I
          replace hf := nm_some eG16 hf
          refine lv_aload_n hx hb dX12_addPair_41 rfl (lv_at hl 0 rfl) ?_
          refine mgtX12_68_0 F I dX12_addPair_42 ?_
          refine lv_iload hx hb dX12_addPair_45 (lv_at hl 4 rfl) ?_
          refine lv_aload_n hx hb dX12_addPair_47 rfl (lv_at hl 0 rfl) ?_
          refine mgtX12_68_0 F I dX12_addPair_48 ?_
          refine lv_iload hx hb dX12_addPair_51 (lv_at hl 4 rfl) ?_
          refine lv_iconst (v := (1 : Int32)) hx hb dX12_addPair_53 (by decide) ?_
          refine lv_isub hx hb dX12_addPair_54 ?_
          obtain ⟨g17, hf⟩ := ri_some hf
          refine mal19 F I g17 dX12_addPair_55 ?_
          obtain ⟨g18, hf⟩ := ri_some hf
          refine mas19 F I g18 dX12_addPair_56 ?_
          intro H locs E19 eE19 I
          replace hf := nm_some eE19 hf
          obtain ⟨x20, ex20⟩ : ∃ y : Int32, y = x2 + (-1 : Int32) := ⟨_, rfl⟩
          replace hf := nm_some ex20 hf
          refine lv_iinc (v := x20) (lv' := [(5, .int x20), (0, .ref (ad 0)), (1, .int a0), (2, .int a1), (3, .long a2)]) hx hb dX12_addPair_57 hl (k := 4) rfl (by rw [ex20]; rfl) (by decide) rfl (fun ls hl => ?_)
          refine lv_goto (tgt := 6) hx hb dX12_addPair_60 (by decide) ?_
          cases hf
          exact ih1 _ _ _ hK1 H locs I ls (lv_sub hl [1, 2, 3, 4, 0] rfl)
  exact L1 FU _ _ _ hq1 H locs I ls (lv_sub hl [1, 2, 3, 4, 0] rfl)
def M_layPairs_s2 (x2 : Int32) (x8 : Int32) (G9 : Nat → Nat → Int32) (E10 : Nat → Nat → Int64) : Option ((Int32 × (Nat → Nat → Int32) × (Nat → Nat → Int64)) ⊕ ((Nat → Nat → Int32) × (Nat → Nat → Int64))) :=
if G9 1 0 ≤ x8 then
(some (.inr (G9, E10)))
else
(bd (M_wins G9 x2 x8) fun r14 =>
bd (M_wins G9 x8 x2) fun r16 =>
bd2 (if r14 + r16 ≤ 0 then
(some (G9, E10))
else
(bd (M_chanceNow G9 x2 x8) fun r23 =>
bd2 (M_addPair G9 E10 x2 x8 r23) fun G25 E26 =>
some (G25, E26))) fun G19 E20 =>
nm (x8 + (1 : Int32) : Int32) fun x21 =>
some (.inl (x21, G19, E20)))
def M_layPairs_s1  (x2 : Int32) (G3 : Nat → Nat → Int32) (E4 : Nat → Nat → Int64) : Option ((Int32 × (Nat → Nat → Int32) × (Nat → Nat → Int64)) ⊕ ((Nat → Nat → Int32) × (Nat → Nat → Int64))) :=
if G3 1 0 ≤ x2 then
(some (.inr (G3, E4)))
else
(nm (x2 + (1 : Int32) : Int32) fun x7 =>
bd2 (lp (fun q => M_layPairs_s2 x2 q.1 q.2.1 q.2.2) FU (x7, G3, E4)) fun G11 E12 =>
nm (x2 + (1 : Int32) : Int32) fun x13 =>
some (.inl (x13, G11, E12)))
def M_layPairs (G : Nat → Nat → Int32) (E : Nat → Nat → Int64) : Option ((Nat → Nat → Int32) × (Nat → Nat → Int64)) :=
nm (wf G 32 (0 : Int32)) fun G1 =>
bd2 (lp (fun q => M_layPairs_s1 q.1 q.2.1 q.2.2) FU ((0 : Int32), G1, E)) fun G5 E6 =>
some (G5, E6)
set_option maxRecDepth 100000 in
set_option maxHeartbeats 4000000 in
theorem cM_layPairs (G : Nat → Nat → Int32) (E : Nat → Nat → Int64) (Dd : Nat → Nat → UInt64)   (newG : Nat → Nat → Int32) (newE : Nat → Nat → Int64) (hf : M_layPairs G E = some (newG, newE)) : sMv D (mT cI cJ cD) (mW ad cI cJ cD) l yX12_layPairs (ws1 yX12_layPairs cX12_layPairs 3 none) ({ frames := 4, cells := 0, slots := 0, locals := 94 }) [.ref (ad 0)] (G, E, Dd) (newG, newE, Dd) := by
  unfold M_layPairs at hf
  refine sMv_of (by decide) (Nat.le_of_ble_eq_true rfl) ?_
  intro p e R s m args below meth c A Q ls H locs F hRf hRl I hl ret
  obtain ⟨hx, hb, hml, hown, hG⟩ := id F
  replace hl : lv_has ls 3 [(0, .ref (ad 0))] := hl
  refine lv_aload_n hx hb dX12_layPairs_0 rfl (lv_at hl 0 rfl) ?_
  refine lv_iconst (v := (0 : Int32)) hx hb dX12_layPairs_1 (by decide) ?_
  refine mptX12_334_0 F I dX12_layPairs_2 ?_
  intro H locs G1 eG1 I
  replace hf := nm_some eG1 hf
  refine lv_iconst (v := (0 : Int32)) hx hb dX12_layPairs_5 (by decide) ?_
  refine lv_istore_n (lv' := [(1, .int (0 : Int32)), (0, .ref (ad 0))]) hx hb dX12_layPairs_6 rfl hl (by decide) rfl (fun ls hl => ?_)
  obtain ⟨G5, E6, hq1, hf⟩ := bd2_some hf
  have K1 : ∀ (H : Heap) (locs : List Loc), sInv D (mT cI cJ cD) (mW ad cI cJ cD) A s H locs (G5, E6, Dd) → ∀ (ls : Array Slot), lv_has ls 3 [] → W p l e R s m args below meth c H locs 0 0 Q (F0 m 67 ls []) := by
    intro H locs I ls hl
    cases hf
    exact ret H locs _ ls I dX12_layPairs_67
  have L1 : ∀ (n : Nat) (x2 : Int32) (G3 : Nat → Nat → Int32) (E4 : Nat → Nat → Int64), lp (fun q => M_layPairs_s1 q.1 q.2.1 q.2.2) n (x2, G3, E4) = some (G5, E6) → ∀ (H : Heap) (locs : List Loc), sInv D (mT cI cJ cD) (mW ad cI cJ cD) A s H locs (G3, E4, Dd) → ∀ (ls : Array Slot), lv_has ls 3 [(0, .ref (ad 0)), (1, .int x2)] → W p l e R s m args below meth c H locs 0 0 Q (F0 m 7 ls []) := by
    intro n
    induction n with
    | zero => intro x2 G3 E4 hq; exact (lp_0 hq).elim
    | succ n ih1 =>
      intro x2 G3 E4 hq H locs I ls hl
      obtain ⟨y1, hf, hK1⟩ := lp_go hq
      replace hf : M_layPairs_s1 x2 G3 E4 = some y1 := hf
      unfold M_layPairs_s1 at hf
      refine lv_iload_n hx hb dX12_layPairs_7 rfl (lv_at hl 1 rfl) ?_
      refine lv_aload_n hx hb dX12_layPairs_8 rfl (lv_at hl 0 rfl) ?_
      refine mgtX12_92_0 F I dX12_layPairs_9 ?_
      refine lv_icmp_ge (tgt := 67) hx hb dX12_layPairs_12 (by decide) (fun c30 => ?_) (fun c30 => ?_)
      · replace hf := (if_pos c30).symm.trans hf
        cases hf
        cases (show (G3, E4) = (G5, E6) from hK1)
        exact K1 H locs I ls (lv_sub hl [] rfl)
      · replace hf := (if_neg c30).symm.trans hf
        refine lv_iload_n hx hb dX12_layPairs_15 rfl (lv_at hl 1 rfl) ?_
        refine lv_iconst (v := (1 : Int32)) hx hb dX12_layPairs_16 (by decide) ?_
        refine lv_iadd hx hb dX12_layPairs_17 ?_
        refine lv_topi (fun x7 ex7 => ?_)
        replace hf := nm_some ex7 hf
        refine lv_istore_n (lv' := [(2, .int x7), (0, .ref (ad 0)), (1, .int x2)]) hx hb dX12_layPairs_18 rfl hl (by decide) rfl (fun ls hl => ?_)
        obtain ⟨G11, E12, hq2, hf⟩ := bd2_some hf
        have K2 : ∀ (H : Heap) (locs : List Loc), sInv D (mT cI cJ cD) (mW ad cI cJ cD) A s H locs (G11, E12, Dd) → ∀ (ls : Array Slot), lv_has ls 3 [(0, .ref (ad 0)), (1, .int x2)] → W p l e R s m args below meth c H locs 0 0 Q (F0 m 61 ls []) := by
          intro H locs I ls hl
          obtain ⟨x13, ex13⟩ : ∃ y : Int32, y = x2 + (1 : Int32) := ⟨_, rfl⟩
          replace hf := nm_some ex13 hf
          refine lv_iinc (v := x13) (lv' := [(1, .int x13), (0, .ref (ad 0))]) hx hb dX12_layPairs_61 hl (k := 1) rfl (by rw [ex13]; rfl) (by decide) rfl (fun ls hl => ?_)
          refine lv_goto (tgt := 7) hx hb dX12_layPairs_64 (by decide) ?_
          cases hf
          exact ih1 _ _ _ hK1 H locs I ls (lv_sub hl [1, 0] rfl)
        have L2 : ∀ (n : Nat) (x8 : Int32) (G9 : Nat → Nat → Int32) (E10 : Nat → Nat → Int64), lp (fun q => M_layPairs_s2 x2 q.1 q.2.1 q.2.2) n (x8, G9, E10) = some (G11, E12) → ∀ (H : Heap) (locs : List Loc), sInv D (mT cI cJ cD) (mW ad cI cJ cD) A s H locs (G9, E10, Dd) → ∀ (ls : Array Slot), lv_has ls 3 [(0, .ref (ad 0)), (1, .int x2), (2, .int x8)] → W p l e R s m args below meth c H locs 0 0 Q (F0 m 19 ls []) := by
          intro n
          induction n with
          | zero => intro x8 G9 E10 hq; exact (lp_0 hq).elim
          | succ n ih2 =>
            intro x8 G9 E10 hq H locs I ls hl
            obtain ⟨y2, hf, hK2⟩ := lp_go hq
            replace hf : M_layPairs_s2 x2 x8 G9 E10 = some y2 := hf
            unfold M_layPairs_s2 at hf
            refine lv_iload_n hx hb dX12_layPairs_19 rfl (lv_at hl 2 rfl) ?_
            refine lv_aload_n hx hb dX12_layPairs_20 rfl (lv_at hl 0 rfl) ?_
            refine mgtX12_92_0 F I dX12_layPairs_21 ?_
            refine lv_icmp_ge (tgt := 61) hx hb dX12_layPairs_24 (by decide) (fun c29 => ?_) (fun c29 => ?_)
            · replace hf := (if_pos c29).symm.trans hf
              cases hf
              cases (show (G9, E10) = (G11, E12) from hK2)
              exact K2 H locs I ls (lv_sub hl [0, 1] rfl)
            · replace hf := (if_neg c29).symm.trans hf
              refine lv_aload_n hx hb dX12_layPairs_27 rfl (lv_at hl 0 rfl) ?_
              refine lv_iload_n hx hb dX12_layPairs_28 rfl (lv_at hl 1 rfl) ?_
              refine lv_iload_n hx hb dX12_layPairs_29 rfl (lv_at hl 2 rfl) ?_
              obtain ⟨r14, h15, hf⟩ := bd_some hf
              refine s_callVi (As := [.int x2, .int x8]) (rest := []) F I (cM_wins G9 E10 Dd x2 x8 r14 h15) kX12_227 ⟨rfl, rfl⟩ ⟨Nat.le_trans (Nat.le_of_ble_eq_true rfl) hRf, Nat.le_trans (Nat.le_of_ble_eq_true rfl) hRl⟩ 0 12 rfl rfl rfl rfl rfl hl.1 (Nat.le_of_ble_eq_true rfl) ⟨Nat.zero_le _, Nat.zero_le _⟩ dX12_layPairs_30 ?_
              intro H locs I
              refine lv_aload_n hx hb dX12_layPairs_33 rfl (lv_at hl 0 rfl) ?_
              refine lv_iload_n hx hb dX12_layPairs_34 rfl (lv_at hl 2 rfl) ?_
              refine lv_iload_n hx hb dX12_layPairs_35 rfl (lv_at hl 1 rfl) ?_
              obtain ⟨r16, h17, hf⟩ := bd_some hf
              refine s_callVi (As := [.int x8, .int x2]) (rest := [.int r14]) F I (cM_wins G9 E10 Dd x8 x2 r16 h17) kX12_227 ⟨rfl, rfl⟩ ⟨Nat.le_trans (Nat.le_of_ble_eq_true rfl) hRf, Nat.le_trans (Nat.le_of_ble_eq_true rfl) hRl⟩ 0 12 rfl rfl rfl rfl rfl hl.1 (Nat.le_of_ble_eq_true rfl) ⟨Nat.zero_le _, Nat.zero_le _⟩ dX12_layPairs_36 ?_
              intro H locs I
              refine lv_iadd hx hb dX12_layPairs_39 ?_
              obtain ⟨G19, E20, hv22, hf⟩ := bd2_some hf
              have J18 : ∀ (H : Heap) (locs : List Loc), sInv D (mT cI cJ cD) (mW ad cI cJ cD) A s H locs (G19, E20, Dd) → ∀ (ls : Array Slot), lv_has ls 3 [(0, .ref (ad 0)), (1, .int x2), (2, .int x8)] → W p l e R s m args below meth c H locs 0 0 Q (F0 m 55 ls []) := by
                intro H locs I ls hl
                obtain ⟨x21, ex21⟩ : ∃ y : Int32, y = x8 + (1 : Int32) := ⟨_, rfl⟩
                replace hf := nm_some ex21 hf
                refine lv_iinc (v := x21) (lv' := [(2, .int x21), (0, .ref (ad 0)), (1, .int x2)]) hx hb dX12_layPairs_55 hl (k := 2) rfl (by rw [ex21]; rfl) (by decide) rfl (fun ls hl => ?_)
                refine lv_goto (tgt := 19) hx hb dX12_layPairs_58 (by decide) ?_
                cases hf
                exact ih2 _ _ _ hK2 H locs I ls (lv_sub hl [1, 2, 0] rfl)
              replace hf := hv22
              refine lv_if_le (tgt := 55) hx hb dX12_layPairs_40 (by decide) (fun c28 => ?_) (fun c28 => ?_)
              · replace hf := (if_pos c28).symm.trans hf
                cases hf
                exact J18 H locs I ls (lv_sub hl [0, 1, 2] rfl)
              · replace hf := (if_neg c28).symm.trans hf
                refine lv_aload_n hx hb dX12_layPairs_43 rfl (lv_at hl 0 rfl) ?_
                refine lv_iload_n hx hb dX12_layPairs_44 rfl (lv_at hl 1 rfl) ?_
                refine lv_iload_n hx hb dX12_layPairs_45 rfl (lv_at hl 2 rfl) ?_
                refine lv_aload_n hx hb dX12_layPairs_46 rfl (lv_at hl 0 rfl) ?_
                refine lv_iload_n hx hb dX12_layPairs_47 rfl (lv_at hl 1 rfl) ?_
                refine lv_iload_n hx hb dX12_layPairs_48 rfl (lv_at hl 2 rfl) ?_
                obtain ⟨r23, h24, hf⟩ := bd_some hf
                refine s_callVl (As := [.int x2, .int x8]) (rest := [.int x8, .int x2, .ref (ad 0)]) F I (cM_chanceNow G9 E10 Dd x2 x8 r23 h24) kX12_327 ⟨rfl, rfl⟩ ⟨Nat.le_trans (Nat.le_of_ble_eq_true rfl) hRf, Nat.le_trans (Nat.le_of_ble_eq_true rfl) hRl⟩ 0 12 rfl rfl rfl rfl rfl hl.1 (Nat.le_of_ble_eq_true rfl) ⟨Nat.zero_le _, Nat.zero_le _⟩ dX12_layPairs_49 ?_
                intro H locs I
                obtain ⟨G25, E26, h27, hf⟩ := bd2_some hf
                refine s_callVv (As := [.int x2, .int x8, .long r23]) (rest := []) F I (cM_addPair G9 E10 Dd x2 x8 r23 G25 E26 h27) kX12_337 ⟨rfl, rfl⟩ ⟨Nat.le_trans (Nat.le_of_ble_eq_true rfl) hRf, Nat.le_trans (Nat.le_of_ble_eq_true rfl) hRl⟩ 0 12 rfl rfl rfl rfl rfl hl.1 (Nat.le_of_ble_eq_true rfl) ⟨Nat.zero_le _, Nat.zero_le _⟩ dX12_layPairs_52 ?_
                intro H locs I
                cases hf
                exact J18 H locs I ls (lv_sub hl [0, 1, 2] rfl)
        exact L2 FU _ _ _ hq2 H locs I ls (lv_sub hl [1, 2, 0] rfl)
  exact L1 FU _ _ _ hq1 H locs I ls (lv_sub hl [1, 0] rfl)
def M_provedMany_s1 (a0 : Int32) (G1 : Nat → Nat → Int32) (E2 : Nat → Nat → Int64) (x4 : Int32) : Option ((Int32) ⊕ (Int32)) :=
if G1 32 0 ≤ x4 then
(some (.inr x4))
else
(ri 28 x4 <|
if 0 < lg_cmp (((E2 34 x4.toNatClampNeg) * (1000 : Int64)) * (((G1 32 0) - x4).toInt64)) (a0.toInt64 * (281474976710656 : Int64)) then
(some (.inr x4))
else
(nm (x4 + (1 : Int32) : Int32) fun x7 =>
some (.inl x7)))
def M_provedMany (G : Nat → Nat → Int32) (E : Nat → Nat → Int64) (a0 : Int32) : Option (Int32 × (Nat → Nat → Int32) × (Nat → Nat → Int64)) :=
bd2 (M_layPairs G E) fun G1 E2 =>
bd (lp (fun q => M_provedMany_s1 a0 G1 E2 q) FU (0 : Int32)) fun r5 =>
some (r5, G1, E2)
set_option maxRecDepth 100000 in
set_option maxHeartbeats 4000000 in
theorem cM_provedMany (G : Nat → Nat → Int32) (E : Nat → Nat → Int64) (Dd : Nat → Nat → UInt64) (a0 : Int32) (rv : Int32) (newG : Nat → Nat → Int32) (newE : Nat → Nat → Int64) (hf : M_provedMany G E a0 = some (rv, newG, newE)) : sMi D (mT cI cJ cD) (mW ad cI cJ cD) l yX12_provedMany (ws1 yX12_provedMany cX12_provedMany 3 (some .int)) ({ frames := 5, cells := 0, slots := 0, locals := 116 }) [.ref (ad 0), .int a0] (G, E, Dd) (rv, (newG, newE, Dd)) := by
  unfold M_provedMany at hf
  refine sMi_of (by decide) (Nat.le_of_ble_eq_true rfl) ?_
  intro p e R s m args below meth c A Q ls H locs F hRf hRl I hl ret
  obtain ⟨hx, hb, hml, hown, hG⟩ := id F
  replace hl : lv_has ls 3 [(0, .ref (ad 0)), (1, .int a0)] := hl
  refine lv_aload_n hx hb dX12_provedMany_0 rfl (lv_at hl 0 rfl) ?_
  obtain ⟨G1, E2, h3, hf⟩ := bd2_some hf
  refine s_callVv (As := []) (rest := []) F I (cM_layPairs G E Dd G1 E2 h3) kX12_341 ⟨rfl, rfl⟩ ⟨Nat.le_trans (Nat.le_of_ble_eq_true rfl) hRf, Nat.le_trans (Nat.le_of_ble_eq_true rfl) hRl⟩ 0 12 rfl rfl rfl rfl rfl hl.1 (Nat.le_of_ble_eq_true rfl) ⟨Nat.zero_le _, Nat.zero_le _⟩ dX12_provedMany_1 ?_
  intro H locs I
  refine lv_iconst (v := (0 : Int32)) hx hb dX12_provedMany_4 (by decide) ?_
  refine lv_istore_n (lv' := [(2, .int (0 : Int32)), (0, .ref (ad 0)), (1, .int a0)]) hx hb dX12_provedMany_5 rfl hl (by decide) rfl (fun ls hl => ?_)
  obtain ⟨r5, hq1, hf⟩ := bd_some hf
  have K1 : ∀ (H : Heap) (locs : List Loc), sInv D (mT cI cJ cD) (mW ad cI cJ cD) A s H locs (G1, E2, Dd) → ∀ (ls : Array Slot), lv_has ls 3 [(2, .int r5)] → W p l e R s m args below meth c H locs 0 0 Q (F0 m 48 ls []) := by
    intro H locs I ls hl
    refine lv_iload_n hx hb dX12_provedMany_48 rfl (lv_at hl 0 rfl) ?_
    cases hf
    exact ret H locs _ ls I dX12_provedMany_49
  have L1 : ∀ (n : Nat) (x4 : Int32), lp (fun q => M_provedMany_s1 a0 G1 E2 q) n x4 = some r5 → ∀ (H : Heap) (locs : List Loc), sInv D (mT cI cJ cD) (mW ad cI cJ cD) A s H locs (G1, E2, Dd) → ∀ (ls : Array Slot), lv_has ls 3 [(0, .ref (ad 0)), (1, .int a0), (2, .int x4)] → W p l e R s m args below meth c H locs 0 0 Q (F0 m 6 ls []) := by
    intro n
    induction n with
    | zero => intro x4 hq; exact (lp_0 hq).elim
    | succ n ih1 =>
      intro x4 hq H locs I ls hl
      obtain ⟨y1, hf, hK1⟩ := lp_go hq
      replace hf : M_provedMany_s1 a0 G1 E2 x4 = some y1 := hf
      unfold M_provedMany_s1 at hf
      refine lv_iload_n hx hb dX12_provedMany_6 rfl (lv_at hl 2 rfl) ?_
      refine lv_aload_n hx hb dX12_provedMany_7 rfl (lv_at hl 0 rfl) ?_
      refine mgtX12_334_0 F I dX12_provedMany_8 ?_
      refine lv_icmp_ge (tgt := 48) hx hb dX12_provedMany_11 (by decide) (fun c9 => ?_) (fun c9 => ?_)
      · replace hf := (if_pos c9).symm.trans hf
        cases hf
        cases (show x4 = r5 from hK1)
        exact K1 H locs I ls (lv_sub hl [2] rfl)
      · replace hf := (if_neg c9).symm.trans hf
        refine lv_aload_n hx hb dX12_provedMany_14 rfl (lv_at hl 0 rfl) ?_
        refine mgtX12_68_0 F I dX12_provedMany_15 ?_
        refine lv_iload_n hx hb dX12_provedMany_18 rfl (lv_at hl 2 rfl) ?_
        obtain ⟨g6, hf⟩ := ri_some hf
        refine mal19 F I g6 dX12_provedMany_19 ?_
        refine lv_ldc2 (v := (1000 : Int64)) hx hb hown (hG _ q1679) dX12_provedMany_20 ?_
        refine lv_lmul hx hb dX12_provedMany_23 ?_
        refine lv_aload_n hx hb dX12_provedMany_24 rfl (lv_at hl 0 rfl) ?_
        refine mgtX12_334_0 F I dX12_provedMany_25 ?_
        refine lv_iload_n hx hb dX12_provedMany_28 rfl (lv_at hl 2 rfl) ?_
        refine lv_isub hx hb dX12_provedMany_29 ?_
        refine lv_i2l hx hb dX12_provedMany_30 rfl ?_
        refine lv_lmul hx hb dX12_provedMany_31 ?_
        refine lv_iload_n hx hb dX12_provedMany_32 rfl (lv_at hl 1 rfl) ?_
        refine lv_i2l hx hb dX12_provedMany_33 rfl ?_
        refine lv_ldc2 (v := (281474976710656 : Int64)) hx hb hown (hG _ q1653) dX12_provedMany_34 ?_
        refine lv_lmul hx hb dX12_provedMany_37 ?_
        refine W.lcmp hx hb dX12_provedMany_38 ?_
        refine lv_if_gt (tgt := 48) hx hb dX12_provedMany_39 (by decide) (fun c8 => ?_) (fun c8 => ?_)
        · replace hf := (if_pos c8).symm.trans hf
          cases hf
          cases (show x4 = r5 from hK1)
          exact K1 H locs I ls (lv_sub hl [2] rfl)
        · replace hf := (if_neg c8).symm.trans hf
          obtain ⟨x7, ex7⟩ : ∃ y : Int32, y = x4 + (1 : Int32) := ⟨_, rfl⟩
          replace hf := nm_some ex7 hf
          refine lv_iinc (v := x7) (lv' := [(2, .int x7), (0, .ref (ad 0)), (1, .int a0)]) hx hb dX12_provedMany_42 hl (k := 2) rfl (by rw [ex7]; rfl) (by decide) rfl (fun ls hl => ?_)
          refine lv_goto (tgt := 6) hx hb dX12_provedMany_45 (by decide) ?_
          cases hf
          exact ih1 _ hK1 H locs I ls (lv_sub hl [1, 2, 0] rfl)
  exact L1 FU _ hq1 H locs I ls (lv_sub hl [1, 2, 0] rfl)
def M_provedAt (G : Nat → Nat → Int32) (a0 : Int32) : Option (Int32) :=
ri 28 a0 <|
nm ((G 33 a0.toNatClampNeg) / (10 : Int32) : Int32) fun x2 =>
ri 28 a0 <|
nm ((G 33 a0.toNatClampNeg) - (G 33 a0.toNatClampNeg) / (10 : Int32) * (10 : Int32) : Int32) fun x4 =>
bd (M_wins G x4 x2) fun r5 =>
bd (M_wins G x2 x4) fun r7 =>
if r5 ≤ r7 then
(some (((10 : Int32) * x2) + x4))
else
(some (((10 : Int32) * x4) + x2))
set_option maxRecDepth 100000 in
set_option maxHeartbeats 4000000 in
theorem cM_provedAt (G : Nat → Nat → Int32) (E : Nat → Nat → Int64) (Dd : Nat → Nat → UInt64) (a0 : Int32) (rv : Int32)  (hf : M_provedAt G a0 = some rv) : sMi D (mT cI cJ cD) (mW ad cI cJ cD) l yX12_provedAt (ws1 yX12_provedAt cX12_provedAt 4 (some .int)) ({ frames := 3, cells := 0, slots := 0, locals := 72 }) [.ref (ad 0), .int a0] (G, E, Dd) (rv, (G, E, Dd)) := by
  unfold M_provedAt at hf
  refine sMi_of (by decide) (Nat.le_of_ble_eq_true rfl) ?_
  intro p e R s m args below meth c A Q ls H locs F hRf hRl I hl ret
  obtain ⟨hx, hb, hml, hown, hG⟩ := id F
  replace hl : lv_has ls 4 [(0, .ref (ad 0)), (1, .int a0)] := hl
  refine lv_aload_n hx hb dX12_provedAt_0 rfl (lv_at hl 0 rfl) ?_
  refine mgtX12_65_0 F I dX12_provedAt_1 ?_
  refine lv_iload_n hx hb dX12_provedAt_4 rfl (lv_at hl 1 rfl) ?_
  obtain ⟨g1, hf⟩ := ri_some hf
  refine mal18 F I g1 dX12_provedAt_5 ?_
  refine lv_bipush (v := (10 : Int32)) hx hb dX12_provedAt_6 (by decide) ?_
  refine lv_idiv hx hb dX12_provedAt_8 (by decide) ?_
  refine lv_topi (fun x2 ex2 => ?_)
  replace hf := nm_some ex2 hf
  refine lv_istore_n (lv' := [(2, .int x2), (0, .ref (ad 0)), (1, .int a0)]) hx hb dX12_provedAt_9 rfl hl (by decide) rfl (fun ls hl => ?_)
  refine lv_aload_n hx hb dX12_provedAt_10 rfl (lv_at hl 1 rfl) ?_
  refine mgtX12_65_0 F I dX12_provedAt_11 ?_
  refine lv_iload_n hx hb dX12_provedAt_14 rfl (lv_at hl 2 rfl) ?_
  obtain ⟨g3, hf⟩ := ri_some hf
  refine mal18 F I g3 dX12_provedAt_15 ?_
  refine lv_bipush (v := (10 : Int32)) hx hb dX12_provedAt_16 (by decide) ?_
  refine lv_irem hx hb dX12_provedAt_18 (by decide) ?_
  refine lv_topi (fun x4 ex4 => ?_)
  replace hf := nm_some ex4 hf
  refine lv_istore_n (lv' := [(3, .int x4), (2, .int x2), (0, .ref (ad 0)), (1, .int a0)]) hx hb dX12_provedAt_19 rfl hl (by decide) rfl (fun ls hl => ?_)
  refine lv_aload_n hx hb dX12_provedAt_20 rfl (lv_at hl 2 rfl) ?_
  refine lv_iload_n hx hb dX12_provedAt_21 rfl (lv_at hl 0 rfl) ?_
  refine lv_iload_n hx hb dX12_provedAt_22 rfl (lv_at hl 1 rfl) ?_
  obtain ⟨r5, h6, hf⟩ := bd_some hf
  refine s_callVi (As := [.int x4, .int x2]) (rest := []) F I (cM_wins G E Dd x4 x2 r5 h6) kX12_227 ⟨rfl, rfl⟩ ⟨Nat.le_trans (Nat.le_of_ble_eq_true rfl) hRf, Nat.le_trans (Nat.le_of_ble_eq_true rfl) hRl⟩ 0 12 rfl rfl rfl rfl rfl hl.1 (Nat.le_of_ble_eq_true rfl) ⟨Nat.zero_le _, Nat.zero_le _⟩ dX12_provedAt_23 ?_
  intro H locs I
  refine lv_aload_n hx hb dX12_provedAt_26 rfl (lv_at hl 2 rfl) ?_
  refine lv_iload_n hx hb dX12_provedAt_27 rfl (lv_at hl 1 rfl) ?_
  refine lv_iload_n hx hb dX12_provedAt_28 rfl (lv_at hl 0 rfl) ?_
  obtain ⟨r7, h8, hf⟩ := bd_some hf
  refine s_callVi (As := [.int x2, .int x4]) (rest := [.int r5]) F I (cM_wins G E Dd x2 x4 r7 h8) kX12_227 ⟨rfl, rfl⟩ ⟨Nat.le_trans (Nat.le_of_ble_eq_true rfl) hRf, Nat.le_trans (Nat.le_of_ble_eq_true rfl) hRl⟩ 0 12 rfl rfl rfl rfl rfl hl.1 (Nat.le_of_ble_eq_true rfl) ⟨Nat.zero_le _, Nat.zero_le _⟩ dX12_provedAt_29 ?_
  intro H locs I
  refine lv_icmp_le (tgt := 44) hx hb dX12_provedAt_32 (by decide) (fun c9 => ?_) (fun c9 => ?_)
  · replace hf := (if_pos c9).symm.trans hf
    refine lv_bipush (v := (10 : Int32)) hx hb dX12_provedAt_44 (by decide) ?_
    refine lv_iload_n hx hb dX12_provedAt_46 rfl (lv_at hl 1 rfl) ?_
    refine lv_imul hx hb dX12_provedAt_47 ?_
    refine lv_iload_n hx hb dX12_provedAt_48 rfl (lv_at hl 0 rfl) ?_
    refine lv_iadd hx hb dX12_provedAt_49 ?_
    cases hf
    exact ret H locs _ ls I dX12_provedAt_50
  · replace hf := (if_neg c9).symm.trans hf
    refine lv_bipush (v := (10 : Int32)) hx hb dX12_provedAt_35 (by decide) ?_
    refine lv_iload_n hx hb dX12_provedAt_37 rfl (lv_at hl 0 rfl) ?_
    refine lv_imul hx hb dX12_provedAt_38 ?_
    refine lv_iload_n hx hb dX12_provedAt_39 rfl (lv_at hl 1 rfl) ?_
    refine lv_iadd hx hb dX12_provedAt_40 ?_
    refine lv_goto (tgt := 50) hx hb dX12_provedAt_41 (by decide) ?_
    cases hf
    exact ret H locs _ ls I dX12_provedAt_50
def M_proved (G : Nat → Nat → Int32) (E : Nat → Nat → Int64) (a0 : Int32) (a1 : Int32) : Option (Int32 × (Nat → Nat → Int32) × (Nat → Nat → Int64)) :=
bd (M_within a0 (1 : Int32) (1000 : Int32)) fun r1 =>
bd (if r1 = 0 then
(some (1 : Int32))
else
(some (0 : Int32))) fun x4 =>
nm (wf G 0 x4) fun G5 =>
if G5 0 0 ≤ 0 then
(bd3 (M_provedMany G5 E a0) fun r6 G7 E8 =>
bd (if a1 = (-1 : Int32) then
(some (0 : Int32))
else
(bd (M_within a1 (0 : Int32) (r6 - (1 : Int32))) fun r18 =>
if r18 = 0 then
(some (2 : Int32))
else
(some (0 : Int32)))) fun x11 =>
nm (wf G7 0 x11) fun G12 =>
if G12 0 0 ≤ 0 then
(if a1 = (-1 : Int32) then
(some (r6, G12, E8))
else
(bd (M_provedAt G12 a1) fun r13 =>
some (r13, G12, E8)))
else
(some ((0 : Int32), G12, E8)))
else
(some ((0 : Int32), G5, E))
set_option maxRecDepth 100000 in
set_option maxHeartbeats 4000000 in
theorem cM_proved (G : Nat → Nat → Int32) (E : Nat → Nat → Int64) (Dd : Nat → Nat → UInt64) (a0 : Int32) (a1 : Int32) (rv : Int32) (newG : Nat → Nat → Int32) (newE : Nat → Nat → Int64) (hf : M_proved G E a0 a1 = some (rv, newG, newE)) : sMi D (mT cI cJ cD) (mW ad cI cJ cD) l yX12_proved (ws1 yX12_proved cX12_proved 4 (some .int)) ({ frames := 6, cells := 0, slots := 0, locals := 138 }) [.ref (ad 0), .int a0, .int a1] (G, E, Dd) (rv, (newG, newE, Dd)) := by
  unfold M_proved at hf
  refine sMi_of (by decide) (Nat.le_of_ble_eq_true rfl) ?_
  intro p e R s m args below meth c A Q ls H locs F hRf hRl I hl ret
  obtain ⟨hx, hb, hml, hown, hG⟩ := id F
  replace hl : lv_has ls 4 [(0, .ref (ad 0)), (1, .int a0), (2, .int a1)] := hl
  refine lv_aload_n hx hb dX12_proved_0 rfl (lv_at hl 0 rfl) ?_
  refine lv_iload_n hx hb dX12_proved_1 rfl (lv_at hl 1 rfl) ?_
  refine lv_iconst (v := (1 : Int32)) hx hb dX12_proved_2 (by decide) ?_
  refine lv_sipush (v := (1000 : Int32)) hx hb dX12_proved_3 (by decide) ?_
  obtain ⟨r1, h2, hf⟩ := bd_some hf
  refine s_callSi (As := [.int a0, .int (1 : Int32), .int (1000 : Int32)]) (rest := [.ref (ad 0)]) F I (cM_within G E Dd a0 (1 : Int32) (1000 : Int32) r1 h2) kX12_95 ⟨rfl, rfl⟩ ⟨Nat.le_trans (Nat.le_of_ble_eq_true rfl) hRf, Nat.le_trans (Nat.le_of_ble_eq_true rfl) hRl⟩ rfl rfl hl.1 (Nat.le_of_ble_eq_true rfl) ⟨Nat.zero_le _, Nat.zero_le _⟩ dX12_proved_6 ?_
  intro H locs I
  obtain ⟨x4, hv23, hf⟩ := bd_some hf
  have J3 : ∀ (H : Heap) (locs : List Loc), sInv D (mT cI cJ cD) (mW ad cI cJ cD) A s H locs (G, E, Dd) → ∀ (ls : Array Slot), lv_has ls 4 [(0, .ref (ad 0)), (1, .int a0), (2, .int a1)] → W p l e R s m args below meth c H locs 0 0 Q (F0 m 17 ls [.int x4, .ref (ad 0)]) := by
    intro H locs I ls hl
    refine mptX12_89_0 F I dX12_proved_17 ?_
    intro H locs G5 eG5 I
    replace hf := nm_some eG5 hf
    refine lv_aload_n hx hb dX12_proved_20 rfl (lv_at hl 0 rfl) ?_
    refine mgtX12_89_0 F I dX12_proved_21 ?_
    refine lv_if_le (tgt := 29) hx hb dX12_proved_24 (by decide) (fun c22 => ?_) (fun c22 => ?_)
    · replace hf := (if_pos c22).symm.trans hf
      refine lv_aload_n hx hb dX12_proved_29 rfl (lv_at hl 0 rfl) ?_
      refine lv_iload_n hx hb dX12_proved_30 rfl (lv_at hl 1 rfl) ?_
      obtain ⟨r6, G7, E8, h9, hf⟩ := bd3_some hf
      refine s_callVi (As := [.int a0]) (rest := []) F I (cM_provedMany G5 E Dd a0 r6 G7 E8 h9) kX12_346 ⟨rfl, rfl⟩ ⟨Nat.le_trans (Nat.le_of_ble_eq_true rfl) hRf, Nat.le_trans (Nat.le_of_ble_eq_true rfl) hRl⟩ 0 12 rfl rfl rfl rfl rfl hl.1 (Nat.le_of_ble_eq_true rfl) ⟨Nat.zero_le _, Nat.zero_le _⟩ dX12_proved_31 ?_
      intro H locs I
      refine lv_istore_n (lv' := [(3, .int r6), (0, .ref (ad 0)), (1, .int a0), (2, .int a1)]) hx hb dX12_proved_34 rfl hl (by decide) rfl (fun ls hl => ?_)
      refine lv_aload_n hx hb dX12_proved_35 rfl (lv_at hl 1 rfl) ?_
      refine lv_iload_n hx hb dX12_proved_36 rfl (lv_at hl 3 rfl) ?_
      refine lv_iconst (v := (-1 : Int32)) hx hb dX12_proved_37 (by decide) ?_
      obtain ⟨x11, hv17, hf⟩ := bd_some hf
      have J10 : ∀ (H : Heap) (locs : List Loc), sInv D (mT cI cJ cD) (mW ad cI cJ cD) A s H locs (G7, E8, Dd) → ∀ (ls : Array Slot), lv_has ls 4 [(0, .ref (ad 0)), (2, .int a1), (3, .int r6)] → W p l e R s m args below meth c H locs 0 0 Q (F0 m 57 ls [.int x11, .ref (ad 0)]) := by
        intro H locs I ls hl
        refine mptX12_89_0 F I dX12_proved_57 ?_
        intro H locs G12 eG12 I
        replace hf := nm_some eG12 hf
        refine lv_aload_n hx hb dX12_proved_60 rfl (lv_at hl 0 rfl) ?_
        refine mgtX12_89_0 F I dX12_proved_61 ?_
        refine lv_if_le (tgt := 71) hx hb dX12_proved_64 (by decide) (fun c16 => ?_) (fun c16 => ?_)
        · replace hf := (if_pos c16).symm.trans hf
          refine lv_iload_n hx hb dX12_proved_71 rfl (lv_at hl 1 rfl) ?_
          refine lv_iconst (v := (-1 : Int32)) hx hb dX12_proved_72 (by decide) ?_
          refine lv_icmp_ne (tgt := 80) hx hb dX12_proved_73 (by decide) (fun c15 => ?_) (fun c15 => ?_)
          · replace hf := (if_neg c15).symm.trans hf
            refine lv_aload_n hx hb dX12_proved_80 rfl (lv_at hl 0 rfl) ?_
            refine lv_iload_n hx hb dX12_proved_81 rfl (lv_at hl 1 rfl) ?_
            obtain ⟨r13, h14, hf⟩ := bd_some hf
            refine s_callVi (As := [.int a1]) (rest := []) F I (cM_provedAt G12 E8 Dd a1 r13 h14) kX12_349 ⟨rfl, rfl⟩ ⟨Nat.le_trans (Nat.le_of_ble_eq_true rfl) hRf, Nat.le_trans (Nat.le_of_ble_eq_true rfl) hRl⟩ 0 12 rfl rfl rfl rfl rfl hl.1 (Nat.le_of_ble_eq_true rfl) ⟨Nat.zero_le _, Nat.zero_le _⟩ dX12_proved_82 ?_
            intro H locs I
            cases hf
            exact ret H locs _ ls I dX12_proved_85
          · replace hf := (if_pos c15).symm.trans hf
            refine lv_iload_n hx hb dX12_proved_76 rfl (lv_at hl 2 rfl) ?_
            refine lv_goto (tgt := 85) hx hb dX12_proved_77 (by decide) ?_
            cases hf
            exact ret H locs _ ls I dX12_proved_85
        · replace hf := (if_neg c16).symm.trans hf
          refine lv_iconst (v := (0 : Int32)) hx hb dX12_proved_67 (by decide) ?_
          refine lv_goto (tgt := 85) hx hb dX12_proved_68 (by decide) ?_
          cases hf
          exact ret H locs _ ls I dX12_proved_85
      replace hf := hv17
      refine lv_icmp_eq (tgt := 52) hx hb dX12_proved_38 (by decide) (fun c21 => ?_) (fun c21 => ?_)
      · replace hf := (if_pos c21).symm.trans hf
        refine lv_iconst (v := (0 : Int32)) hx hb dX12_proved_52 (by decide) ?_
        refine lv_goto (tgt := 57) hx hb dX12_proved_53 (by decide) ?_
        cases hf
        exact J10 H locs I ls (lv_sub hl [1, 3, 0] rfl)
      · replace hf := (if_neg c21).symm.trans hf
        refine lv_iload_n hx hb dX12_proved_41 rfl (lv_at hl 3 rfl) ?_
        refine lv_iconst (v := (0 : Int32)) hx hb dX12_proved_42 (by decide) ?_
        refine lv_iload_n hx hb dX12_proved_43 rfl (lv_at hl 0 rfl) ?_
        refine lv_iconst (v := (1 : Int32)) hx hb dX12_proved_44 (by decide) ?_
        refine lv_isub hx hb dX12_proved_45 ?_
        obtain ⟨r18, h19, hf⟩ := bd_some hf
        refine s_callSi (As := [.int a1, .int (0 : Int32), .int (r6 - (1 : Int32))]) (rest := [.ref (ad 0)]) F I (cM_within G7 E8 Dd a1 (0 : Int32) (r6 - (1 : Int32)) r18 h19) kX12_95 ⟨rfl, rfl⟩ ⟨Nat.le_trans (Nat.le_of_ble_eq_true rfl) hRf, Nat.le_trans (Nat.le_of_ble_eq_true rfl) hRl⟩ rfl rfl hl.1 (Nat.le_of_ble_eq_true rfl) ⟨Nat.zero_le _, Nat.zero_le _⟩ dX12_proved_46 ?_
        intro H locs I
        refine lv_if_eq (tgt := 56) hx hb dX12_proved_49 (by decide) (fun c20 => ?_) (fun c20 => ?_)
        · replace hf := (if_pos c20).symm.trans hf
          refine lv_iconst (v := (2 : Int32)) hx hb dX12_proved_56 (by decide) ?_
          cases hf
          exact J10 H locs I ls (lv_sub hl [1, 3, 0] rfl)
        · replace hf := (if_neg c20).symm.trans hf
          refine lv_iconst (v := (0 : Int32)) hx hb dX12_proved_52 (by decide) ?_
          refine lv_goto (tgt := 57) hx hb dX12_proved_53 (by decide) ?_
          cases hf
          exact J10 H locs I ls (lv_sub hl [1, 3, 0] rfl)
    · replace hf := (if_neg c22).symm.trans hf
      refine lv_iconst (v := (0 : Int32)) hx hb dX12_proved_27 (by decide) ?_
      cases hf
      exact ret H locs _ ls I dX12_proved_28
  replace hf := hv23
  refine lv_if_eq (tgt := 16) hx hb dX12_proved_9 (by decide) (fun c24 => ?_) (fun c24 => ?_)
  · replace hf := (if_pos c24).symm.trans hf
    refine lv_iconst (v := (1 : Int32)) hx hb dX12_proved_16 (by decide) ?_
    cases hf
    exact J3 H locs I ls (lv_sub hl [0, 1, 2] rfl)
  · replace hf := (if_neg c24).symm.trans hf
    refine lv_iconst (v := (0 : Int32)) hx hb dX12_proved_12 (by decide) ?_
    refine lv_goto (tgt := 17) hx hb dX12_proved_13 (by decide) ?_
    cases hf
    exact J3 H locs I ls (lv_sub hl [0, 1, 2] rfl)
def M_mix (E : Nat → Nat → Int64) (a0 : Int64) : (Nat → Nat → Int64) :=
nm (wf E 39 (((31 : Int64) * (E 39 0)) + a0)) fun E1 =>
E1
set_option maxRecDepth 100000 in
set_option maxHeartbeats 4000000 in
theorem cM_mix (G : Nat → Nat → Int32) (E : Nat → Nat → Int64) (Dd : Nat → Nat → UInt64) (a0 : Int64)  (newE : Nat → Nat → Int64) (hv : newE = M_mix E a0) : sMv D (mT cI cJ cD) (mW ad cI cJ cD) l yX12_mix (ws1 yX12_mix cX12_mix 3 none) ({ frames := 0, cells := 0, slots := 0, locals := 0 }) [.ref (ad 0), .long a0] (G, E, Dd) (G, newE, Dd) := by
  have hf : (nm (wf E 39 (((31 : Int64) * (E 39 0)) + a0)) fun E1 =>
some E1) = some newE := by rw [hv]; rfl
  refine sMv_of (by decide) (Nat.le_of_ble_eq_true rfl) ?_
  intro p e R s m args below meth c A Q ls H locs F hRf hRl I hl ret
  obtain ⟨hx, hb, hml, hown, hG⟩ := id F
  replace hl : lv_has ls 3 [(0, .ref (ad 0)), (1, .long a0)] := hl
  refine lv_aload_n hx hb dX12_mix_0 rfl (lv_at hl 0 rfl) ?_
  refine lv_ldc2 (v := (31 : Int64)) hx hb hown (hG _ q1722) dX12_mix_1 ?_
  refine lv_aload_n hx hb dX12_mix_4 rfl (lv_at hl 0 rfl) ?_
  refine mgtX12_372_0 F I dX12_mix_5 ?_
  refine lv_lmul hx hb dX12_mix_8 ?_
  refine lv_lload_n hx hb dX12_mix_9 rfl (lv_at hl 1 rfl) ?_
  refine lv_ladd hx hb dX12_mix_10 ?_
  refine mptX12_372_0 F I dX12_mix_11 ?_
  intro H locs E1 eE1 I
  replace hf := nm_some eE1 hf
  cases hf
  exact ret H locs _ ls I dX12_mix_14
end Meth
