/-! THE LAW: cases -/
section LawC
variable {D : va_G} {l : Launch} {cI cJ cD cS : ClassId} {ac am : Nat → Nat} {aO aD b L : Nat} {xs : Nat → Int32}
variable {p : Program} {e : Env} {R : Room} {s : State} {m : MethodId} {args : Array Value} {below : List Frame} {meth : Method} {c : Code} {H : Heap} {locs : List Loc} {cells slots : Nat} {Q : State → Prop}
variable {A : Nat → Prop} {ls : Array Slot} {d0 : Drawn} {u : CSt × MSt × (Nat → Int64) × (Nat → UInt64)}
set_option maxRecDepth 100000 in
set_option maxHeartbeats 4000000 in
theorem lc_begin {x5 : Int32} {i : Nat} (C : lCx p l m c s args A b L xs) (hRr : 12 ≤ R.frames ∧ 430 ≤ R.locals) (hcs : cells + 2 ≤ R.cells ∧ slots + 58 ≤ R.slots) (hd0 : s.drawn.sameBut d0 lw_cs) (I : sInv D (cT cI cJ cD cS) (lW ac am aO aD cI cJ cD cS) A s H locs u) (hr : lR u) (hi : i + 5 ≤ L) (hL : L ≤ 2560) (hx5 : x5 = nI i) (hl : lv_has ls 9 [(0, .ref b), (1, .ref (ac 0)), (2, .ref (am 0)), (3, .ref aO), (4, .ref aD), (5, .int x5)]) (K : lK p l e R s m args below meth c D A cells slots Q ac am aO aD cI cJ cD cS b x5) : W p l e R (s.setDrawn d0) m args below meth c H locs cells slots Q (F0 m 172 ls []) := by
  obtain ⟨F, hX, hbl, hbA, hY, hl0⟩ := C
  obtain ⟨hx, hb, hml, hown, hG⟩ := id F
  obtain ⟨⟨G, E, Dd, P, Z⟩, ⟨h, Em, Dm⟩, o, od⟩ := u
  obtain ⟨hRR, hPZ⟩ := hr
  replace hRR : RR G P h := hRR
  replace hPZ : PZ P Z := hPZ
  have in1 : vp_in (x5 + (1 : Int32)) L := l_in (j := 1) hx5 (by omega) hL
  obtain ⟨a0, ea0⟩ : ∃ z : Int32, z = xs (x5 + (1 : Int32)).toNatClampNeg := ⟨_, rfl⟩
  have in2 : vp_in (x5 + (2 : Int32)) L := l_in (j := 2) hx5 (by omega) hL
  obtain ⟨a1, ea1⟩ : ∃ z : Int32, z = xs (x5 + (2 : Int32)).toNatClampNeg := ⟨_, rfl⟩
  refine lv_aload_n hx hb dL_law_172 rfl (lv_at hl 1 rfl) ?_
  refine lv_aload_n hx hb dL_law_173 rfl (lv_at hl 0 rfl) ?_
  refine lv_iload hx hb dL_law_174 (lv_at hl 5 rfl) ?_
  refine lv_iconst (v := 1) hx hb dL_law_176 (by decide) ?_
  refine lv_iadd hx hb dL_law_177 ?_
  refine l_sld hx hb hX hbl hbA I in1 dL_law_178 ?_
  rw [← ea0]
  refine lv_aload_n hx hb dL_law_179 rfl (lv_at hl 0 rfl) ?_
  refine lv_iload hx hb dL_law_180 (lv_at hl 5 rfl) ?_
  refine lv_iconst (v := 2) hx hb dL_law_182 (by decide) ?_
  refine lv_iadd hx hb dL_law_183 ?_
  refine l_sld hx hb hX hbl hbA I in2 dL_law_184 ?_
  rw [← ea1]
  refine lv_aload_n hx hb dL_law_185 rfl (lv_at hl 3 rfl) ?_
  have I0 : sInv D (cT cI cJ cD cS) (fW ((aD, .inl (cD, 1, .inr (.inr (.inr (.inl od))))) :: mW am cI cJ cD (h, Em, Dm)) (wJ ac aO cI cJ cD cS)) A s H locs ((G, E, Dd, P, Z), o) := sI_perm I lp_J
  refine f_callSW (As := [.ref (ac 0), .int a0, .int a1, .ref aO]) F hd0 I0 I.1 hY (wL_begin aO G E Dd P Z o hPZ hl0 a0 a1 _ (q_begin E Em Dd Dm o hRR hPZ a0 a1 _ rfl)) kL_100 ⟨rfl, rfl⟩ ⟨Nat.le_trans (by decide) hRr.1, Nat.le_trans (by decide) hRr.2⟩ rfl rfl hl.1 (Nat.le_of_ble_eq_true rfl) hcs dL_law_186 (fun H1 lo1 d1 k u hd1 I1 hΨ => ?_)
  obtain ⟨⟨G2, E2, Dd2, P2, Z2⟩, o2⟩ := u
  obtain ⟨r, h2, hm, h0, hk, hRR2, hPZ2⟩ := hΨ
  replace I1 : sInv D (cT cI cJ cD cS) (lW ac am aO aD cI cJ cD cS) A s H1 lo1 ((G2, E2, Dd2, P2, Z2), (h, Em, Dm), o2, od) := sI_perm I1 lp_J.symm
  refine lv_istore (lv' := [(6, .int k), (0, .ref b), (1, .ref (ac 0)), (2, .ref (am 0)), (3, .ref aO), (4, .ref aD), (5, .int x5)]) hx hb dL_law_189 hl (by decide) rfl (fun ls1 hl1 => ?_)
  refine lv_aload_n hx hb dL_law_191 rfl (lv_at hl1 3 rfl) ?_
  refine lv_aload_n hx hb dL_law_192 rfl (lv_at hl1 1 rfl) ?_
  refine lv_iload hx hb dL_law_193 (lv_at hl1 6 rfl) ?_
  refine lv_iconst (v := 1) hx hb dL_law_195 (by decide) ?_
  refine lv_iadd hx hb dL_law_196 ?_
  refine l_sld hx hb hX hbl hbA I1 in1 dL_law_197 ?_
  rw [← ea0]
  refine lv_aload_n hx hb dL_law_198 rfl (lv_at hl1 1 rfl) ?_
  refine lv_iload hx hb dL_law_199 (lv_at hl1 6 rfl) ?_
  refine lv_iconst (v := 2) hx hb dL_law_201 (by decide) ?_
  refine lv_iadd hx hb dL_law_202 ?_
  refine l_sld hx hb hX hbl hbA I1 in2 dL_law_203 ?_
  rw [← ea1]
  replace I1 : sInv D (cT cI cJ cD cS) (fW ((aO, .inl (cJ, 1, .inr (.inl o2))) :: (aD, .inl (cD, 1, .inr (.inr (.inr (.inl od))))) :: cW ac cI cJ cD cS (G2, E2, Dd2, P2, Z2)) (mW am cI cJ cD)) A s H1 lo1 (h, Em, Dm) := sI_perm I1 lp_M
  refine f_callVi (As := [.int a0, .int a1]) F I1 (I1.1.sub [0, 1, 2] rfl) (cM_begin h Em Dm a0 a1 r h2 hm) kL_105 ⟨rfl, rfl⟩ ⟨Nat.le_trans (by decide) hRr.1, Nat.le_trans (by decide) hRr.2⟩ 0 12 rfl rfl rfl rfl rfl hl1.1 (Nat.le_of_ble_eq_true rfl) hcs dL_law_204 (fun H3 lo3 I3 => ?_)
  replace I3 : sInv D (cT cI cJ cD cS) (fW ((aO, .inl (cJ, 1, .inr (.inl o2))) :: (aD, .inl (cD, 1, .inr (.inr (.inr (.inl od))))) :: cW ac cI cJ cD cS (G2, E2, Dd2, P2, Z2)) (mW am cI cJ cD)) A s H3 lo3 (h2, Em, Dm) := I3
  refine lv_istore (lv' := [(7, .int r), (6, .int k), (0, .ref b), (1, .ref (ac 0)), (2, .ref (am 0)), (3, .ref aO), (4, .ref aD), (5, .int x5)]) hx hb dL_law_207 hl1 (by decide) rfl (fun ls2 hl2 => ?_)
  refine lv_aload_n hx hb dL_law_209 rfl (lv_at hl2 4 rfl) ?_
  refine f_callVi (As := []) F I3 (I3.1.sub [0, 1, 2] rfl) (cM_thrown h2 Em Dm k h0.symm) kL_106 ⟨rfl, rfl⟩ ⟨Nat.le_trans (by decide) hRr.1, Nat.le_trans (by decide) hRr.2⟩ 0 12 rfl rfl rfl rfl rfl hl2.1 (Nat.le_of_ble_eq_true rfl) hcs dL_law_210 (fun H4 lo4 I4 => ?_)
  replace I4 : sInv D (cT cI cJ cD cS) (lW ac am aO aD cI cJ cD cS) A s H4 lo4 ((G2, E2, Dd2, P2, Z2), (h2, Em, Dm), o2, od) := sI_perm I4 lp_M.symm
  refine lv_iload hx hb dL_law_213 (lv_at hl2 1 rfl) ?_
  refine lv_icmp_eq (tgt := 220) hx hb dL_law_215 (by decide) (fun _ => ?_) (fun hne => absurd rfl hne)
  refine lv_iload hx hb dL_law_220 (lv_at hl2 1 rfl) ?_
  have hEnd : W p l e R (s.setDrawn d1) m args below meth c H4 lo4 (cells + 2) (slots + 58) Q (F0 m 237 ls2 []) := by
    refine lv_goto (tgt := 1861) hx hb dL_law_237 (by decide) ?_
    exact K H4 lo4 d1 _ ls2 hd1 I4 ⟨hRR2, hPZ2⟩ (lv_sub hl2 [2, 3, 4, 5, 6, 7] rfl)
  refine lv_if_ne (tgt := 237) hx hb dL_law_222 (by decide) (fun _ => hEnd) (fun hk0 => ?_)
  have hv := hk hk0
  refine lv_aload_n hx hb dL_law_225 rfl (lv_at hl2 5 rfl) ?_
  refine lv_iconst (v := 0) hx hb dL_law_226 (by decide) ?_
  refine va_lald hx hb (Idr I4).1 I4.2.1 0 1 rfl rfl in01 dL_law_227 ?_
  refine lv_iload hx hb dL_law_228 (lv_at hl2 0 rfl) ?_
  refine lv_i2l hx hb dL_law_230 rfl ?_
  refine W.lcmp hx hb dL_law_231 ?_
  refine lv_if_eq (tgt := 237) hx hb dL_law_232 (by decide) (fun _ => hEnd) (fun hne => absurd (l_cmp hv) hne)
end LawC
