/-! THE LAW: cases -/
section LawC
variable {D : va_G} {l : Launch} {cI cJ cD cS : ClassId} {ac am : Nat → Nat} {aO aD b L : Nat} {xs : Nat → Int32}
variable {p : Program} {e : Env} {R : Room} {s : State} {m : MethodId} {args : Array Value} {below : List Frame} {meth : Method} {c : Code} {H : Heap} {locs : List Loc} {cells slots : Nat} {Q : State → Prop}
variable {A : Nat → Prop} {ls : Array Slot} {d0 : Drawn} {u : CSt × MSt × (Nat → Int64) × (Nat → UInt64)}
set_option maxRecDepth 100000 in
set_option maxHeartbeats 4000000 in
theorem lc_begin {x5 : Int32} {i : Nat} (C : lCx p l m c s args A b L xs) (hRr : 12 ≤ R.frames ∧ 430 ≤ R.locals) (hcs : cells + 2 ≤ R.cells ∧ slots + 58 ≤ R.slots) (hd0 : s.drawn.sameBut d0 lw_cs) (I : sInv D (cT cI cJ cD cS) (lW ac am aO aD cI cJ cD cS) A s H locs u) (hr : lR u) (hi : i + 5 ≤ L) (hL : L ≤ 2560) (hx5 : x5 = nI i) (hl : lv_has ls 9 [(0, .ref b), (1, .ref (ac 0)), (2, .ref (am 0)), (3, .ref aO), (4, .ref aD), (5, .int x5)]) (K : lK p l e R s m args below meth c D A cells slots Q ac am aO aD cI cJ cD cS b x5) : W p l e R (s.setDrawn d0) m args below meth c H locs cells slots Q (F0 m 172 ls []) := by
  obtain ⟨F, hX, hbl, hbA, hY, hl0⟩ := C
  obtain ⟨hx, hb, hml, hown, hG⟩ := id F
  obtain ⟨⟨G, E, Dd, P, Z⟩, ⟨h, Em, Dm⟩, o, od⟩ := u
  obtain ⟨hRR, hPZ⟩ := hr
  replace hRR : RR G P h := hRR
  replace hPZ : PZ P Z := hPZ
  have in1 : vp_in (x5 + (1 : Int32)) L := l_in (j := 1) hx5 (by omega) hL
  obtain ⟨a0, ea0⟩ : ∃ z : Int32, z = xs (x5 + (1 : Int32)).toNatClampNeg := ⟨_, rfl⟩
  have in2 : vp_in (x5 + (2 : Int32)) L := l_in (j := 2) hx5 (by omega) hL
  obtain ⟨a1, ea1⟩ : ∃ z : Int32, z = xs (x5 + (2 : Int32)).toNatClampNeg := ⟨_, rfl⟩
  refine lv_aload_n hx hb dL_law_172 rfl (lv_at hl 1 rfl) ?_
  refine lv_aload_n hx hb dL_law_173 rfl (lv_at hl 0 rfl) ?_
  refine lv_iload hx hb dL_law_174 (lv_at hl 5 rfl) ?_
  refine lv_iconst (v := 1) hx hb dL_law_176 (by decide) ?_
  refine lv_iadd hx hb dL_law_177 ?_
  refine l_sld hx hb hX hbl hbA I in1 dL_law_178 ?_
  rw [← ea0]
  refine lv_aload_n hx hb dL_law_179 rfl (lv_at hl 0 rfl) ?_
  refine lv_iload hx hb dL_law_180 (lv_at hl 5 rfl) ?_
  refine lv_iconst (v := 2) hx hb dL_law_182 (by decide) ?_
  refine lv_iadd hx hb dL_law_183 ?_
  refine l_sld hx hb hX hbl hbA I in2 dL_law_184 ?_
  rw [← ea1]
  refine lv_aload_n hx hb dL_law_185 rfl (lv_at hl 3 rfl) ?_
  have I0 : sInv D (cT cI cJ cD cS) (fW ((aD, .inl (cD, 1, .inr (.inr (.inr (.inl od))))) :: mW am cI cJ cD (h, Em, Dm)) (wJ ac aO cI cJ cD cS)) A s H locs ((G, E, Dd, P, Z), o) := sI_perm I lp_J
  refine f_callSW (As := [.ref (ac 0), .int a0, .int a1, .ref aO]) F hd0 I0 I.1 hY (wL_begin aO G E Dd P Z o hPZ hl0 a0 a1 _ (q_begin E Em Dd Dm o hRR hPZ a0 a1 _ rfl)) kL_100 ⟨rfl, rfl⟩ ⟨Nat.le_trans (by decide) hRr.1, Nat.le_trans (by decide) hRr.2⟩ rfl rfl hl.1 (Nat.le_of_ble_eq_true rfl) hcs dL_law_186 (fun H1 lo1 d1 k u hd1 I1 hΨ => ?_)
  obtain ⟨⟨G2, E2, Dd2, P2, Z2⟩, o2⟩ := u
  obtain ⟨r, h2, hm, h0, hk, hRR2, hPZ2⟩ := hΨ
  replace I1 : sInv D (cT cI cJ cD cS) (lW ac am aO aD cI cJ cD cS) A s H1 lo1 ((G2, E2, Dd2, P2, Z2), (h, Em, Dm), o2, od) := sI_perm I1 lp_J.symm
  refine lv_istore (lv' := [(6, .int k), (0, .ref b), (1, .ref (ac 0)), (2, .ref (am 0)), (3, .ref aO), (4, .ref aD), (5, .int x5)]) hx hb dL_law_189 hl (by decide) rfl (fun ls1 hl1 => ?_)
  refine lv_aload_n hx hb dL_law_191 rfl (lv_at hl1 3 rfl) ?_
  refine lv_aload_n hx hb dL_law_192 rfl (lv_at hl1 1 rfl) ?_
  refine lv_iload hx hb dL_law_193 (lv_at hl1 6 rfl) ?_
  refine lv_iconst (v := 1) hx hb dL_law_195 (by decide) ?_
  refine lv_iadd hx hb dL_law_196 ?_
  refine l_sld hx hb hX hbl hbA I1 in1 dL_law_197 ?_
  rw [← ea0]
  refine lv_aload_n hx hb dL_law_198 rfl (lv_at hl1 1 rfl) ?_
  refine lv_iload hx hb dL_law_199 (lv_at hl1 6 rfl) ?_
  refine lv_iconst (v := 2) hx hb dL_law_201 (by decide) ?_
  refine lv_iadd hx hb dL_law_202 ?_
  refine l_sld hx hb hX hbl hbA I1 in2 dL_law_203 ?_
  rw [← ea1]
  replace I1 : sInv D (cT cI cJ cD cS) (fW ((aO, .inl (cJ, 1, .inr (.inl o2))) :: (aD, .inl (cD, 1, .inr (.inr (.inr (.inl od))))) :: cW ac cI cJ cD cS (G2, E2, Dd2, P2, Z2)) (mW am cI cJ cD)) A s H1 lo1 (h, Em, Dm) := sI_perm I1 lp_M
  refine f_callVi (As := [.int a0, .int a1]) F I1 (I1.1.sub [0, 1, 2] rfl) (cM_begin h Em Dm a0 a1 r h2 hm) kL_105 ⟨rfl, rfl⟩ ⟨Nat.le_trans (by decide) hRr.1, Nat.le_trans (by decide) hRr.2⟩ 0 12 rfl rfl rfl rfl rfl hl1.1 (Nat.le_of_ble_eq_true rfl) hcs dL_law_204 (fun H3 lo3 I3 => ?_)
  replace I3 : sInv D (cT cI cJ cD cS) (fW ((aO, .inl (cJ, 1, .inr (.inl o2))) :: (aD, .inl (cD, 1, .inr (.inr (.inr (.inl od))))) :: cW ac cI cJ cD cS (G2, E2, Dd2, P2, Z2)) (mW am cI cJ cD)) A s H3 lo3 (h2, Em, Dm) := I3
  refine lv_istore (lv' := [(7, .int r), (6, .int k), (0, .ref b), (1, .ref (ac 0)), (2, .ref (am 0)), (3, .ref aO), (4, .ref aD), (5, .int x5)]) hx hb dL_law_207 hl1 (by decide) rfl (fun ls2 hl2 => ?_)
  refine lv_aload_n hx hb dL_law_209 rfl (lv_at hl2 4 rfl) ?_
  refine f_callVi (As := []) F I3 (I3.1.sub [0, 1, 2] rfl) (cM_thrown h2 Em Dm k h0.symm) kL_106 ⟨rfl, rfl⟩ ⟨Nat.le_trans (by decide) hRr.1, Nat.le_trans (by decide) hRr.2⟩ 0 12 rfl rfl rfl rfl rfl hl2.1 (Nat.le_of_ble_eq_true rfl) hcs dL_law_210 (fun H4 lo4 I4 => ?_)
  replace I4 : sInv D (cT cI cJ cD cS) (lW ac am aO aD cI cJ cD cS) A s H4 lo4 ((G2, E2, Dd2, P2, Z2), (h2, Em, Dm), o2, od) := sI_perm I4 lp_M.symm
  refine lv_iload hx hb dL_law_213 (lv_at hl2 1 rfl) ?_
  refine lv_icmp_eq (tgt := 220) hx hb dL_law_215 (by decide) (fun _ => ?_) (fun hne => absurd rfl hne)
  refine lv_iload hx hb dL_law_220 (lv_at hl2 1 rfl) ?_
  have hEnd : W p l e R (s.setDrawn d1) m args below meth c H4 lo4 (cells + 2) (slots + 58) Q (F0 m 237 ls2 []) := by
    refine lv_goto (tgt := 1861) hx hb dL_law_237 (by decide) ?_
    exact K H4 lo4 d1 _ ls2 hd1 I4 ⟨hRR2, hPZ2⟩ (lv_sub hl2 [2, 3, 4, 5, 6, 7] rfl)
  refine lv_if_ne (tgt := 237) hx hb dL_law_222 (by decide) (fun _ => hEnd) (fun hk0 => ?_)
  have hv := hk hk0
  refine lv_aload_n hx hb dL_law_225 rfl (lv_at hl2 5 rfl) ?_
  refine lv_iconst (v := 0) hx hb dL_law_226 (by decide) ?_
  refine va_lald hx hb (Idr I4).1 I4.2.1 0 1 rfl rfl in01 dL_law_227 ?_
  refine lv_iload hx hb dL_law_228 (lv_at hl2 0 rfl) ?_
  refine lv_i2l hx hb dL_law_230 rfl ?_
  refine W.lcmp hx hb dL_law_231 ?_
  refine lv_if_eq (tgt := 237) hx hb dL_law_232 (by decide) (fun _ => hEnd) (fun hne => absurd (l_cmp hv) hne)
set_option maxRecDepth 100000 in
set_option maxHeartbeats 4000000 in
theorem lc_setWeight {x5 : Int32} {i : Nat} (C : lCx p l m c s args A b L xs) (hRr : 12 ≤ R.frames ∧ 430 ≤ R.locals) (hcs : cells + 2 ≤ R.cells ∧ slots + 58 ≤ R.slots) (hd0 : s.drawn.sameBut d0 lw_cs) (I : sInv D (cT cI cJ cD cS) (lW ac am aO aD cI cJ cD cS) A s H locs u) (hr : lR u) (hi : i + 5 ≤ L) (hL : L ≤ 2560) (hx5 : x5 = nI i) (hl : lv_has ls 9 [(0, .ref b), (1, .ref (ac 0)), (2, .ref (am 0)), (3, .ref aO), (4, .ref aD), (5, .int x5)]) (K : lK p l e R s m args below meth c D A cells slots Q ac am aO aD cI cJ cD cS b x5) : W p l e R (s.setDrawn d0) m args below meth c H locs cells slots Q (F0 m 240 ls []) := by
  obtain ⟨F, hX, hbl, hbA, hY, hl0⟩ := C
  obtain ⟨hx, hb, hml, hown, hG⟩ := id F
  obtain ⟨⟨G, E, Dd, P, Z⟩, ⟨h, Em, Dm⟩, o, od⟩ := u
  obtain ⟨hRR, hPZ⟩ := hr
  replace hRR : RR G P h := hRR
  replace hPZ : PZ P Z := hPZ
  have in1 : vp_in (x5 + (1 : Int32)) L := l_in (j := 1) hx5 (by omega) hL
  obtain ⟨a0, ea0⟩ : ∃ z : Int32, z = xs (x5 + (1 : Int32)).toNatClampNeg := ⟨_, rfl⟩
  have in2 : vp_in (x5 + (2 : Int32)) L := l_in (j := 2) hx5 (by omega) hL
  obtain ⟨a1, ea1⟩ : ∃ z : Int32, z = xs (x5 + (2 : Int32)).toNatClampNeg := ⟨_, rfl⟩
  refine lv_aload_n hx hb dL_law_240 rfl (lv_at hl 1 rfl) ?_
  refine lv_aload_n hx hb dL_law_241 rfl (lv_at hl 0 rfl) ?_
  refine lv_iload hx hb dL_law_242 (lv_at hl 5 rfl) ?_
  refine lv_iconst (v := 1) hx hb dL_law_244 (by decide) ?_
  refine lv_iadd hx hb dL_law_245 ?_
  refine l_sld hx hb hX hbl hbA I in1 dL_law_246 ?_
  rw [← ea0]
  refine lv_aload_n hx hb dL_law_247 rfl (lv_at hl 0 rfl) ?_
  refine lv_iload hx hb dL_law_248 (lv_at hl 5 rfl) ?_
  refine lv_iconst (v := 2) hx hb dL_law_250 (by decide) ?_
  refine lv_iadd hx hb dL_law_251 ?_
  refine l_sld hx hb hX hbl hbA I in2 dL_law_252 ?_
  rw [← ea1]
  refine lv_aload_n hx hb dL_law_253 rfl (lv_at hl 3 rfl) ?_
  have I0 : sInv D (cT cI cJ cD cS) (fW ((aD, .inl (cD, 1, .inr (.inr (.inr (.inl od))))) :: mW am cI cJ cD (h, Em, Dm)) (wJ ac aO cI cJ cD cS)) A s H locs ((G, E, Dd, P, Z), o) := sI_perm I lp_J
  refine f_callSW (As := [.ref (ac 0), .int a0, .int a1, .ref aO]) F hd0 I0 I.1 hY (wL_setWeight aO G E Dd P Z o hPZ hl0 a0 a1 _ (q_setWeight E Em Dd Dm o hRR hPZ a0 a1 _ rfl)) kL_109 ⟨rfl, rfl⟩ ⟨Nat.le_trans (by decide) hRr.1, Nat.le_trans (by decide) hRr.2⟩ rfl rfl hl.1 (Nat.le_of_ble_eq_true rfl) hcs dL_law_254 (fun H1 lo1 d1 k u hd1 I1 hΨ => ?_)
  obtain ⟨⟨G2, E2, Dd2, P2, Z2⟩, o2⟩ := u
  obtain ⟨r, h2, hm, h0, hk, hRR2, hPZ2⟩ := hΨ
  replace I1 : sInv D (cT cI cJ cD cS) (lW ac am aO aD cI cJ cD cS) A s H1 lo1 ((G2, E2, Dd2, P2, Z2), (h, Em, Dm), o2, od) := sI_perm I1 lp_J.symm
  refine lv_istore (lv' := [(6, .int k), (0, .ref b), (1, .ref (ac 0)), (2, .ref (am 0)), (3, .ref aO), (4, .ref aD), (5, .int x5)]) hx hb dL_law_257 hl (by decide) rfl (fun ls1 hl1 => ?_)
  refine lv_aload_n hx hb dL_law_259 rfl (lv_at hl1 3 rfl) ?_
  refine lv_aload_n hx hb dL_law_260 rfl (lv_at hl1 1 rfl) ?_
  refine lv_iload hx hb dL_law_261 (lv_at hl1 6 rfl) ?_
  refine lv_iconst (v := 1) hx hb dL_law_263 (by decide) ?_
  refine lv_iadd hx hb dL_law_264 ?_
  refine l_sld hx hb hX hbl hbA I1 in1 dL_law_265 ?_
  rw [← ea0]
  refine lv_aload_n hx hb dL_law_266 rfl (lv_at hl1 1 rfl) ?_
  refine lv_iload hx hb dL_law_267 (lv_at hl1 6 rfl) ?_
  refine lv_iconst (v := 2) hx hb dL_law_269 (by decide) ?_
  refine lv_iadd hx hb dL_law_270 ?_
  refine l_sld hx hb hX hbl hbA I1 in2 dL_law_271 ?_
  rw [← ea1]
  replace I1 : sInv D (cT cI cJ cD cS) (fW ((aO, .inl (cJ, 1, .inr (.inl o2))) :: (aD, .inl (cD, 1, .inr (.inr (.inr (.inl od))))) :: cW ac cI cJ cD cS (G2, E2, Dd2, P2, Z2)) (mW am cI cJ cD)) A s H1 lo1 (h, Em, Dm) := sI_perm I1 lp_M
  refine f_callVi (As := [.int a0, .int a1]) F I1 (I1.1.sub [0, 1, 2] rfl) (cM_setWeight h Em Dm a0 a1 r h2 hm) kL_111 ⟨rfl, rfl⟩ ⟨Nat.le_trans (by decide) hRr.1, Nat.le_trans (by decide) hRr.2⟩ 0 12 rfl rfl rfl rfl rfl hl1.1 (Nat.le_of_ble_eq_true rfl) hcs dL_law_272 (fun H3 lo3 I3 => ?_)
  replace I3 : sInv D (cT cI cJ cD cS) (fW ((aO, .inl (cJ, 1, .inr (.inl o2))) :: (aD, .inl (cD, 1, .inr (.inr (.inr (.inl od))))) :: cW ac cI cJ cD cS (G2, E2, Dd2, P2, Z2)) (mW am cI cJ cD)) A s H3 lo3 (h2, Em, Dm) := I3
  refine lv_istore (lv' := [(7, .int r), (6, .int k), (0, .ref b), (1, .ref (ac 0)), (2, .ref (am 0)), (3, .ref aO), (4, .ref aD), (5, .int x5)]) hx hb dL_law_275 hl1 (by decide) rfl (fun ls2 hl2 => ?_)
  refine lv_aload_n hx hb dL_law_277 rfl (lv_at hl2 4 rfl) ?_
  refine f_callVi (As := []) F I3 (I3.1.sub [0, 1, 2] rfl) (cM_thrown h2 Em Dm k h0.symm) kL_106 ⟨rfl, rfl⟩ ⟨Nat.le_trans (by decide) hRr.1, Nat.le_trans (by decide) hRr.2⟩ 0 12 rfl rfl rfl rfl rfl hl2.1 (Nat.le_of_ble_eq_true rfl) hcs dL_law_278 (fun H4 lo4 I4 => ?_)
  replace I4 : sInv D (cT cI cJ cD cS) (lW ac am aO aD cI cJ cD cS) A s H4 lo4 ((G2, E2, Dd2, P2, Z2), (h2, Em, Dm), o2, od) := sI_perm I4 lp_M.symm
  refine lv_iload hx hb dL_law_281 (lv_at hl2 1 rfl) ?_
  refine lv_icmp_eq (tgt := 288) hx hb dL_law_283 (by decide) (fun _ => ?_) (fun hne => absurd rfl hne)
  refine lv_iload hx hb dL_law_288 (lv_at hl2 1 rfl) ?_
  have hEnd : W p l e R (s.setDrawn d1) m args below meth c H4 lo4 (cells + 2) (slots + 58) Q (F0 m 305 ls2 []) := by
    refine lv_goto (tgt := 1861) hx hb dL_law_305 (by decide) ?_
    exact K H4 lo4 d1 _ ls2 hd1 I4 ⟨hRR2, hPZ2⟩ (lv_sub hl2 [2, 3, 4, 5, 6, 7] rfl)
  refine lv_if_ne (tgt := 305) hx hb dL_law_290 (by decide) (fun _ => hEnd) (fun hk0 => ?_)
  have hv := hk hk0
  refine lv_aload_n hx hb dL_law_293 rfl (lv_at hl2 5 rfl) ?_
  refine lv_iconst (v := 0) hx hb dL_law_294 (by decide) ?_
  refine va_lald hx hb (Idr I4).1 I4.2.1 0 1 rfl rfl in01 dL_law_295 ?_
  refine lv_iload hx hb dL_law_296 (lv_at hl2 0 rfl) ?_
  refine lv_i2l hx hb dL_law_298 rfl ?_
  refine W.lcmp hx hb dL_law_299 ?_
  refine lv_if_eq (tgt := 305) hx hb dL_law_300 (by decide) (fun _ => hEnd) (fun hne => absurd (l_cmp hv) hne)
set_option maxRecDepth 100000 in
set_option maxHeartbeats 4000000 in
theorem lc_plan {x5 : Int32} {i : Nat} (C : lCx p l m c s args A b L xs) (hRr : 12 ≤ R.frames ∧ 430 ≤ R.locals) (hcs : cells + 2 ≤ R.cells ∧ slots + 58 ≤ R.slots) (hd0 : s.drawn.sameBut d0 lw_cs) (I : sInv D (cT cI cJ cD cS) (lW ac am aO aD cI cJ cD cS) A s H locs u) (hr : lR u) (hi : i + 5 ≤ L) (hL : L ≤ 2560) (hx5 : x5 = nI i) (hl : lv_has ls 9 [(0, .ref b), (1, .ref (ac 0)), (2, .ref (am 0)), (3, .ref aO), (4, .ref aD), (5, .int x5)]) (K : lK p l e R s m args below meth c D A cells slots Q ac am aO aD cI cJ cD cS b x5) : W p l e R (s.setDrawn d0) m args below meth c H locs cells slots Q (F0 m 308 ls []) := by
  obtain ⟨F, hX, hbl, hbA, hY, hl0⟩ := C
  obtain ⟨hx, hb, hml, hown, hG⟩ := id F
  obtain ⟨⟨G, E, Dd, P, Z⟩, ⟨h, Em, Dm⟩, o, od⟩ := u
  obtain ⟨hRR, hPZ⟩ := hr
  replace hRR : RR G P h := hRR
  replace hPZ : PZ P Z := hPZ
  have in1 : vp_in (x5 + (1 : Int32)) L := l_in (j := 1) hx5 (by omega) hL
  obtain ⟨a0, ea0⟩ : ∃ z : Int32, z = xs (x5 + (1 : Int32)).toNatClampNeg := ⟨_, rfl⟩
  have in2 : vp_in (x5 + (2 : Int32)) L := l_in (j := 2) hx5 (by omega) hL
  obtain ⟨a1, ea1⟩ : ∃ z : Int32, z = xs (x5 + (2 : Int32)).toNatClampNeg := ⟨_, rfl⟩
  have in3 : vp_in (x5 + (3 : Int32)) L := l_in (j := 3) hx5 (by omega) hL
  obtain ⟨a2, ea2⟩ : ∃ z : Int32, z = xs (x5 + (3 : Int32)).toNatClampNeg := ⟨_, rfl⟩
  refine lv_aload_n hx hb dL_law_308 rfl (lv_at hl 1 rfl) ?_
  refine lv_aload_n hx hb dL_law_309 rfl (lv_at hl 0 rfl) ?_
  refine lv_iload hx hb dL_law_310 (lv_at hl 5 rfl) ?_
  refine lv_iconst (v := 1) hx hb dL_law_312 (by decide) ?_
  refine lv_iadd hx hb dL_law_313 ?_
  refine l_sld hx hb hX hbl hbA I in1 dL_law_314 ?_
  rw [← ea0]
  refine lv_aload_n hx hb dL_law_315 rfl (lv_at hl 0 rfl) ?_
  refine lv_iload hx hb dL_law_316 (lv_at hl 5 rfl) ?_
  refine lv_iconst (v := 2) hx hb dL_law_318 (by decide) ?_
  refine lv_iadd hx hb dL_law_319 ?_
  refine l_sld hx hb hX hbl hbA I in2 dL_law_320 ?_
  rw [← ea1]
  refine lv_aload_n hx hb dL_law_321 rfl (lv_at hl 0 rfl) ?_
  refine lv_iload hx hb dL_law_322 (lv_at hl 5 rfl) ?_
  refine lv_iconst (v := 3) hx hb dL_law_324 (by decide) ?_
  refine lv_iadd hx hb dL_law_325 ?_
  refine l_sld hx hb hX hbl hbA I in3 dL_law_326 ?_
  rw [← ea2]
  refine lv_aload_n hx hb dL_law_327 rfl (lv_at hl 3 rfl) ?_
  have I0 : sInv D (cT cI cJ cD cS) (fW ((aD, .inl (cD, 1, .inr (.inr (.inr (.inl od))))) :: mW am cI cJ cD (h, Em, Dm)) (wJ ac aO cI cJ cD cS)) A s H locs ((G, E, Dd, P, Z), o) := sI_perm I lp_J
  refine f_callSW (As := [.ref (ac 0), .int a0, .int a1, .int a2, .ref aO]) F hd0 I0 I.1 hY (wL_plan aO G E Dd P Z o hPZ hl0 a0 a1 a2 _ (q_plan E Em Dd Dm o hRR hPZ a0 a1 a2 _ rfl)) kL_112 ⟨rfl, rfl⟩ ⟨Nat.le_trans (by decide) hRr.1, Nat.le_trans (by decide) hRr.2⟩ rfl rfl hl.1 (Nat.le_of_ble_eq_true rfl) hcs dL_law_328 (fun H1 lo1 d1 k u hd1 I1 hΨ => ?_)
  obtain ⟨⟨G2, E2, Dd2, P2, Z2⟩, o2⟩ := u
  obtain ⟨r, h2, Em2, hm, h0, hk, hRR2, hPZ2⟩ := hΨ
  replace I1 : sInv D (cT cI cJ cD cS) (lW ac am aO aD cI cJ cD cS) A s H1 lo1 ((G2, E2, Dd2, P2, Z2), (h, Em, Dm), o2, od) := sI_perm I1 lp_J.symm
  refine lv_istore (lv' := [(6, .int k), (0, .ref b), (1, .ref (ac 0)), (2, .ref (am 0)), (3, .ref aO), (4, .ref aD), (5, .int x5)]) hx hb dL_law_331 hl (by decide) rfl (fun ls1 hl1 => ?_)
  refine lv_aload_n hx hb dL_law_333 rfl (lv_at hl1 3 rfl) ?_
  refine lv_aload_n hx hb dL_law_334 rfl (lv_at hl1 1 rfl) ?_
  refine lv_iload hx hb dL_law_335 (lv_at hl1 6 rfl) ?_
  refine lv_iconst (v := 1) hx hb dL_law_337 (by decide) ?_
  refine lv_iadd hx hb dL_law_338 ?_
  refine l_sld hx hb hX hbl hbA I1 in1 dL_law_339 ?_
  rw [← ea0]
  refine lv_aload_n hx hb dL_law_340 rfl (lv_at hl1 1 rfl) ?_
  refine lv_iload hx hb dL_law_341 (lv_at hl1 6 rfl) ?_
  refine lv_iconst (v := 2) hx hb dL_law_343 (by decide) ?_
  refine lv_iadd hx hb dL_law_344 ?_
  refine l_sld hx hb hX hbl hbA I1 in2 dL_law_345 ?_
  rw [← ea1]
  refine lv_aload_n hx hb dL_law_346 rfl (lv_at hl1 1 rfl) ?_
  refine lv_iload hx hb dL_law_347 (lv_at hl1 6 rfl) ?_
  refine lv_iconst (v := 3) hx hb dL_law_349 (by decide) ?_
  refine lv_iadd hx hb dL_law_350 ?_
  refine l_sld hx hb hX hbl hbA I1 in3 dL_law_351 ?_
  rw [← ea2]
  replace I1 : sInv D (cT cI cJ cD cS) (fW ((aO, .inl (cJ, 1, .inr (.inl o2))) :: (aD, .inl (cD, 1, .inr (.inr (.inr (.inl od))))) :: cW ac cI cJ cD cS (G2, E2, Dd2, P2, Z2)) (mW am cI cJ cD)) A s H1 lo1 (h, Em, Dm) := sI_perm I1 lp_M
  refine f_callVi (As := [.int a0, .int a1, .int a2]) F I1 (I1.1.sub [0, 1, 2] rfl) (cM_plan h Em Dm a0 a1 a2 r h2 Em2 hm) kL_115 ⟨rfl, rfl⟩ ⟨Nat.le_trans (by decide) hRr.1, Nat.le_trans (by decide) hRr.2⟩ 0 12 rfl rfl rfl rfl rfl hl1.1 (Nat.le_of_ble_eq_true rfl) hcs dL_law_352 (fun H3 lo3 I3 => ?_)
  replace I3 : sInv D (cT cI cJ cD cS) (fW ((aO, .inl (cJ, 1, .inr (.inl o2))) :: (aD, .inl (cD, 1, .inr (.inr (.inr (.inl od))))) :: cW ac cI cJ cD cS (G2, E2, Dd2, P2, Z2)) (mW am cI cJ cD)) A s H3 lo3 (h2, Em2, Dm) := I3
  refine lv_istore (lv' := [(7, .int r), (6, .int k), (0, .ref b), (1, .ref (ac 0)), (2, .ref (am 0)), (3, .ref aO), (4, .ref aD), (5, .int x5)]) hx hb dL_law_355 hl1 (by decide) rfl (fun ls2 hl2 => ?_)
  refine lv_aload_n hx hb dL_law_357 rfl (lv_at hl2 4 rfl) ?_
  refine f_callVi (As := []) F I3 (I3.1.sub [0, 1, 2] rfl) (cM_thrown h2 Em2 Dm k h0.symm) kL_106 ⟨rfl, rfl⟩ ⟨Nat.le_trans (by decide) hRr.1, Nat.le_trans (by decide) hRr.2⟩ 0 12 rfl rfl rfl rfl rfl hl2.1 (Nat.le_of_ble_eq_true rfl) hcs dL_law_358 (fun H4 lo4 I4 => ?_)
  replace I4 : sInv D (cT cI cJ cD cS) (lW ac am aO aD cI cJ cD cS) A s H4 lo4 ((G2, E2, Dd2, P2, Z2), (h2, Em2, Dm), o2, od) := sI_perm I4 lp_M.symm
  refine lv_iload hx hb dL_law_361 (lv_at hl2 1 rfl) ?_
  refine lv_icmp_eq (tgt := 368) hx hb dL_law_363 (by decide) (fun _ => ?_) (fun hne => absurd rfl hne)
  refine lv_iload hx hb dL_law_368 (lv_at hl2 1 rfl) ?_
  have hEnd : W p l e R (s.setDrawn d1) m args below meth c H4 lo4 (cells + 2) (slots + 58) Q (F0 m 385 ls2 []) := by
    refine lv_goto (tgt := 1861) hx hb dL_law_385 (by decide) ?_
    exact K H4 lo4 d1 _ ls2 hd1 I4 ⟨hRR2, hPZ2⟩ (lv_sub hl2 [2, 3, 4, 5, 6, 7] rfl)
  refine lv_if_ne (tgt := 385) hx hb dL_law_370 (by decide) (fun _ => hEnd) (fun hk0 => ?_)
  have hv := hk hk0
  refine lv_aload_n hx hb dL_law_373 rfl (lv_at hl2 5 rfl) ?_
  refine lv_iconst (v := 0) hx hb dL_law_374 (by decide) ?_
  refine va_lald hx hb (Idr I4).1 I4.2.1 0 1 rfl rfl in01 dL_law_375 ?_
  refine lv_iload hx hb dL_law_376 (lv_at hl2 0 rfl) ?_
  refine lv_i2l hx hb dL_law_378 rfl ?_
  refine W.lcmp hx hb dL_law_379 ?_
  refine lv_if_eq (tgt := 385) hx hb dL_law_380 (by decide) (fun _ => hEnd) (fun hne => absurd (l_cmp hv) hne)
set_option maxRecDepth 100000 in
set_option maxHeartbeats 4000000 in
theorem lc_trial {x5 : Int32} {i : Nat} (C : lCx p l m c s args A b L xs) (hRr : 12 ≤ R.frames ∧ 430 ≤ R.locals) (hcs : cells + 2 ≤ R.cells ∧ slots + 58 ≤ R.slots) (hd0 : s.drawn.sameBut d0 lw_cs) (I : sInv D (cT cI cJ cD cS) (lW ac am aO aD cI cJ cD cS) A s H locs u) (hr : lR u) (hi : i + 5 ≤ L) (hL : L ≤ 2560) (hx5 : x5 = nI i) (hl : lv_has ls 9 [(0, .ref b), (1, .ref (ac 0)), (2, .ref (am 0)), (3, .ref aO), (4, .ref aD), (5, .int x5)]) (K : lK p l e R s m args below meth c D A cells slots Q ac am aO aD cI cJ cD cS b x5) : W p l e R (s.setDrawn d0) m args below meth c H locs cells slots Q (F0 m 388 ls []) := by
  obtain ⟨F, hX, hbl, hbA, hY, hl0⟩ := C
  obtain ⟨hx, hb, hml, hown, hG⟩ := id F
  obtain ⟨⟨G, E, Dd, P, Z⟩, ⟨h, Em, Dm⟩, o, od⟩ := u
  obtain ⟨hRR, hPZ⟩ := hr
  replace hRR : RR G P h := hRR
  replace hPZ : PZ P Z := hPZ
  have in1 : vp_in (x5 + (1 : Int32)) L := l_in (j := 1) hx5 (by omega) hL
  obtain ⟨a0, ea0⟩ : ∃ z : Int32, z = xs (x5 + (1 : Int32)).toNatClampNeg := ⟨_, rfl⟩
  have in2 : vp_in (x5 + (2 : Int32)) L := l_in (j := 2) hx5 (by omega) hL
  obtain ⟨a1, ea1⟩ : ∃ z : Int32, z = if xs (x5 + (2 : Int32)).toNatClampNeg = 0 then 0 else 1 := ⟨_, rfl⟩
  refine lv_aload_n hx hb dL_law_388 rfl (lv_at hl 1 rfl) ?_
  refine lv_aload_n hx hb dL_law_389 rfl (lv_at hl 0 rfl) ?_
  refine lv_iload hx hb dL_law_390 (lv_at hl 5 rfl) ?_
  refine lv_iconst (v := 1) hx hb dL_law_392 (by decide) ?_
  refine lv_iadd hx hb dL_law_393 ?_
  refine l_sld hx hb hX hbl hbA I in1 dL_law_394 ?_
  rw [← ea0]
  refine lv_aload_n hx hb dL_law_395 rfl (lv_at hl 0 rfl) ?_
  refine lv_iload hx hb dL_law_396 (lv_at hl 5 rfl) ?_
  refine lv_iconst (v := 2) hx hb dL_law_398 (by decide) ?_
  refine lv_iadd hx hb dL_law_399 ?_
  refine l_sld hx hb hX hbl hbA I in2 dL_law_400 ?_
  suffices hJ401 : W p l e R (s.setDrawn d0) m args below meth c H locs cells slots Q (F0 m 409 ls (.int a1 :: .int a0 :: .ref (ac 0) :: [])) by
    refine lv_if_eq (tgt := 408) hx hb dL_law_401 (by decide) (fun hz => ?_) (fun hz => ?_)
    · refine lv_iconst (v := a1) hx hb dL_law_408 (by rw [ea1, if_pos hz]; rfl) ?_
      exact hJ401
    · refine lv_iconst (v := a1) hx hb dL_law_404 (by rw [ea1, if_neg hz]; rfl) ?_
      refine lv_goto (tgt := 409) hx hb dL_law_405 (by decide) ?_
      exact hJ401
  refine lv_aload_n hx hb dL_law_409 rfl (lv_at hl 3 rfl) ?_
  have I0 : sInv D (cT cI cJ cD cS) (fW ((aD, .inl (cD, 1, .inr (.inr (.inr (.inl od))))) :: mW am cI cJ cD (h, Em, Dm)) (wJ ac aO cI cJ cD cS)) A s H locs ((G, E, Dd, P, Z), o) := sI_perm I lp_J
  refine f_callSW (As := [.ref (ac 0), .int a0, .int a1, .ref aO]) F hd0 I0 I.1 hY (wL_trial aO G E Dd P Z o hPZ hl0 a0 a1 _ (q_trial E Em Dd Dm o hRR hPZ a0 a1 _ rfl)) kL_116 ⟨rfl, rfl⟩ ⟨Nat.le_trans (by decide) hRr.1, Nat.le_trans (by decide) hRr.2⟩ rfl rfl hl.1 (Nat.le_of_ble_eq_true rfl) hcs dL_law_410 (fun H1 lo1 d1 k u hd1 I1 hΨ => ?_)
  obtain ⟨⟨G2, E2, Dd2, P2, Z2⟩, o2⟩ := u
  obtain ⟨r, h2, hm, h0, hk, hRR2, hPZ2⟩ := hΨ
  replace I1 : sInv D (cT cI cJ cD cS) (lW ac am aO aD cI cJ cD cS) A s H1 lo1 ((G2, E2, Dd2, P2, Z2), (h, Em, Dm), o2, od) := sI_perm I1 lp_J.symm
  refine lv_istore (lv' := [(6, .int k), (0, .ref b), (1, .ref (ac 0)), (2, .ref (am 0)), (3, .ref aO), (4, .ref aD), (5, .int x5)]) hx hb dL_law_413 hl (by decide) rfl (fun ls1 hl1 => ?_)
  refine lv_aload_n hx hb dL_law_415 rfl (lv_at hl1 3 rfl) ?_
  refine lv_aload_n hx hb dL_law_416 rfl (lv_at hl1 1 rfl) ?_
  refine lv_iload hx hb dL_law_417 (lv_at hl1 6 rfl) ?_
  refine lv_iconst (v := 1) hx hb dL_law_419 (by decide) ?_
  refine lv_iadd hx hb dL_law_420 ?_
  refine l_sld hx hb hX hbl hbA I1 in1 dL_law_421 ?_
  rw [← ea0]
  refine lv_aload_n hx hb dL_law_422 rfl (lv_at hl1 1 rfl) ?_
  refine lv_iload hx hb dL_law_423 (lv_at hl1 6 rfl) ?_
  refine lv_iconst (v := 2) hx hb dL_law_425 (by decide) ?_
  refine lv_iadd hx hb dL_law_426 ?_
  refine l_sld hx hb hX hbl hbA I1 in2 dL_law_427 ?_
  suffices hJ428 : W p l e R (s.setDrawn d1) m args below meth c H1 lo1 (cells + 2) (slots + 58) Q (F0 m 436 ls1 (.int a1 :: .int a0 :: .ref (am 0) :: [])) by
    refine lv_if_eq (tgt := 435) hx hb dL_law_428 (by decide) (fun hz => ?_) (fun hz => ?_)
    · refine lv_iconst (v := a1) hx hb dL_law_435 (by rw [ea1, if_pos hz]; rfl) ?_
      exact hJ428
    · refine lv_iconst (v := a1) hx hb dL_law_431 (by rw [ea1, if_neg hz]; rfl) ?_
      refine lv_goto (tgt := 436) hx hb dL_law_432 (by decide) ?_
      exact hJ428
  replace I1 : sInv D (cT cI cJ cD cS) (fW ((aO, .inl (cJ, 1, .inr (.inl o2))) :: (aD, .inl (cD, 1, .inr (.inr (.inr (.inl od))))) :: cW ac cI cJ cD cS (G2, E2, Dd2, P2, Z2)) (mW am cI cJ cD)) A s H1 lo1 (h, Em, Dm) := sI_perm I1 lp_M
  refine f_callVi (As := [.int a0, .int a1]) F I1 (I1.1.sub [0, 1, 2] rfl) (cM_trial h Em Dm a0 a1 r h2 hm) kL_119 ⟨rfl, rfl⟩ ⟨Nat.le_trans (by decide) hRr.1, Nat.le_trans (by decide) hRr.2⟩ 0 12 rfl rfl rfl rfl rfl hl1.1 (Nat.le_of_ble_eq_true rfl) hcs dL_law_436 (fun H3 lo3 I3 => ?_)
  replace I3 : sInv D (cT cI cJ cD cS) (fW ((aO, .inl (cJ, 1, .inr (.inl o2))) :: (aD, .inl (cD, 1, .inr (.inr (.inr (.inl od))))) :: cW ac cI cJ cD cS (G2, E2, Dd2, P2, Z2)) (mW am cI cJ cD)) A s H3 lo3 (h2, Em, Dm) := I3
  refine lv_istore (lv' := [(7, .int r), (6, .int k), (0, .ref b), (1, .ref (ac 0)), (2, .ref (am 0)), (3, .ref aO), (4, .ref aD), (5, .int x5)]) hx hb dL_law_439 hl1 (by decide) rfl (fun ls2 hl2 => ?_)
  refine lv_aload_n hx hb dL_law_441 rfl (lv_at hl2 4 rfl) ?_
  refine f_callVi (As := []) F I3 (I3.1.sub [0, 1, 2] rfl) (cM_thrown h2 Em Dm k h0.symm) kL_106 ⟨rfl, rfl⟩ ⟨Nat.le_trans (by decide) hRr.1, Nat.le_trans (by decide) hRr.2⟩ 0 12 rfl rfl rfl rfl rfl hl2.1 (Nat.le_of_ble_eq_true rfl) hcs dL_law_442 (fun H4 lo4 I4 => ?_)
  replace I4 : sInv D (cT cI cJ cD cS) (lW ac am aO aD cI cJ cD cS) A s H4 lo4 ((G2, E2, Dd2, P2, Z2), (h2, Em, Dm), o2, od) := sI_perm I4 lp_M.symm
  refine lv_iload hx hb dL_law_445 (lv_at hl2 1 rfl) ?_
  refine lv_icmp_eq (tgt := 452) hx hb dL_law_447 (by decide) (fun _ => ?_) (fun hne => absurd rfl hne)
  refine lv_iload hx hb dL_law_452 (lv_at hl2 1 rfl) ?_
  have hEnd : W p l e R (s.setDrawn d1) m args below meth c H4 lo4 (cells + 2) (slots + 58) Q (F0 m 469 ls2 []) := by
    refine lv_goto (tgt := 1861) hx hb dL_law_469 (by decide) ?_
    exact K H4 lo4 d1 _ ls2 hd1 I4 ⟨hRR2, hPZ2⟩ (lv_sub hl2 [2, 3, 4, 5, 6, 7] rfl)
  refine lv_if_ne (tgt := 469) hx hb dL_law_454 (by decide) (fun _ => hEnd) (fun hk0 => ?_)
  have hv := hk hk0
  refine lv_aload_n hx hb dL_law_457 rfl (lv_at hl2 5 rfl) ?_
  refine lv_iconst (v := 0) hx hb dL_law_458 (by decide) ?_
  refine va_lald hx hb (Idr I4).1 I4.2.1 0 1 rfl rfl in01 dL_law_459 ?_
  refine lv_iload hx hb dL_law_460 (lv_at hl2 0 rfl) ?_
  refine lv_i2l hx hb dL_law_462 rfl ?_
  refine W.lcmp hx hb dL_law_463 ?_
  refine lv_if_eq (tgt := 469) hx hb dL_law_464 (by decide) (fun _ => hEnd) (fun hne => absurd (l_cmp hv) hne)
set_option maxRecDepth 100000 in
set_option maxHeartbeats 4000000 in
theorem lc_answer {x5 : Int32} {i : Nat} (C : lCx p l m c s args A b L xs) (hRr : 12 ≤ R.frames ∧ 430 ≤ R.locals) (hcs : cells + 2 ≤ R.cells ∧ slots + 58 ≤ R.slots) (hd0 : s.drawn.sameBut d0 lw_cs) (I : sInv D (cT cI cJ cD cS) (lW ac am aO aD cI cJ cD cS) A s H locs u) (hr : lR u) (hi : i + 5 ≤ L) (hL : L ≤ 2560) (hx5 : x5 = nI i) (hl : lv_has ls 9 [(0, .ref b), (1, .ref (ac 0)), (2, .ref (am 0)), (3, .ref aO), (4, .ref aD), (5, .int x5)]) (K : lK p l e R s m args below meth c D A cells slots Q ac am aO aD cI cJ cD cS b x5) : W p l e R (s.setDrawn d0) m args below meth c H locs cells slots Q (F0 m 472 ls []) := by
  obtain ⟨F, hX, hbl, hbA, hY, hl0⟩ := C
  obtain ⟨hx, hb, hml, hown, hG⟩ := id F
  obtain ⟨⟨G, E, Dd, P, Z⟩, ⟨h, Em, Dm⟩, o, od⟩ := u
  obtain ⟨hRR, hPZ⟩ := hr
  replace hRR : RR G P h := hRR
  replace hPZ : PZ P Z := hPZ
  have in1 : vp_in (x5 + (1 : Int32)) L := l_in (j := 1) hx5 (by omega) hL
  obtain ⟨a0, ea0⟩ : ∃ z : Int32, z = xs (x5 + (1 : Int32)).toNatClampNeg := ⟨_, rfl⟩
  refine lv_aload_n hx hb dL_law_472 rfl (lv_at hl 1 rfl) ?_
  refine lv_aload_n hx hb dL_law_473 rfl (lv_at hl 0 rfl) ?_
  refine lv_iload hx hb dL_law_474 (lv_at hl 5 rfl) ?_
  refine lv_iconst (v := 1) hx hb dL_law_476 (by decide) ?_
  refine lv_iadd hx hb dL_law_477 ?_
  refine l_sld hx hb hX hbl hbA I in1 dL_law_478 ?_
  rw [← ea0]
  refine lv_aload_n hx hb dL_law_479 rfl (lv_at hl 3 rfl) ?_
  have I0 : sInv D (cT cI cJ cD cS) (fW ((aD, .inl (cD, 1, .inr (.inr (.inr (.inl od))))) :: mW am cI cJ cD (h, Em, Dm)) (wJ ac aO cI cJ cD cS)) A s H locs ((G, E, Dd, P, Z), o) := sI_perm I lp_J
  refine f_callSW (As := [.ref (ac 0), .int a0, .ref aO]) F hd0 I0 I.1 hY (wL_answer aO G E Dd P Z o hPZ hl0 a0 _ (q_answer E Em Dd Dm o hRR hPZ a0 _ rfl)) kL_120 ⟨rfl, rfl⟩ ⟨Nat.le_trans (by decide) hRr.1, Nat.le_trans (by decide) hRr.2⟩ rfl rfl hl.1 (Nat.le_of_ble_eq_true rfl) hcs dL_law_480 (fun H1 lo1 d1 k u hd1 I1 hΨ => ?_)
  obtain ⟨⟨G2, E2, Dd2, P2, Z2⟩, o2⟩ := u
  obtain ⟨r, h2, hm, h0, hk, hRR2, hPZ2⟩ := hΨ
  replace I1 : sInv D (cT cI cJ cD cS) (lW ac am aO aD cI cJ cD cS) A s H1 lo1 ((G2, E2, Dd2, P2, Z2), (h, Em, Dm), o2, od) := sI_perm I1 lp_J.symm
  refine lv_istore (lv' := [(6, .int k), (0, .ref b), (1, .ref (ac 0)), (2, .ref (am 0)), (3, .ref aO), (4, .ref aD), (5, .int x5)]) hx hb dL_law_483 hl (by decide) rfl (fun ls1 hl1 => ?_)
  refine lv_aload_n hx hb dL_law_485 rfl (lv_at hl1 3 rfl) ?_
  refine lv_aload_n hx hb dL_law_486 rfl (lv_at hl1 1 rfl) ?_
  refine lv_iload hx hb dL_law_487 (lv_at hl1 6 rfl) ?_
  refine lv_iconst (v := 1) hx hb dL_law_489 (by decide) ?_
  refine lv_iadd hx hb dL_law_490 ?_
  refine l_sld hx hb hX hbl hbA I1 in1 dL_law_491 ?_
  rw [← ea0]
  replace I1 : sInv D (cT cI cJ cD cS) (fW ((aO, .inl (cJ, 1, .inr (.inl o2))) :: (aD, .inl (cD, 1, .inr (.inr (.inr (.inl od))))) :: cW ac cI cJ cD cS (G2, E2, Dd2, P2, Z2)) (mW am cI cJ cD)) A s H1 lo1 (h, Em, Dm) := sI_perm I1 lp_M
  refine f_callVi (As := [.int a0]) F I1 (I1.1.sub [0, 1, 2] rfl) (cM_answer h Em Dm a0 r h2 hm) kL_123 ⟨rfl, rfl⟩ ⟨Nat.le_trans (by decide) hRr.1, Nat.le_trans (by decide) hRr.2⟩ 0 12 rfl rfl rfl rfl rfl hl1.1 (Nat.le_of_ble_eq_true rfl) hcs dL_law_492 (fun H3 lo3 I3 => ?_)
  replace I3 : sInv D (cT cI cJ cD cS) (fW ((aO, .inl (cJ, 1, .inr (.inl o2))) :: (aD, .inl (cD, 1, .inr (.inr (.inr (.inl od))))) :: cW ac cI cJ cD cS (G2, E2, Dd2, P2, Z2)) (mW am cI cJ cD)) A s H3 lo3 (h2, Em, Dm) := I3
  refine lv_istore (lv' := [(7, .int r), (6, .int k), (0, .ref b), (1, .ref (ac 0)), (2, .ref (am 0)), (3, .ref aO), (4, .ref aD), (5, .int x5)]) hx hb dL_law_495 hl1 (by decide) rfl (fun ls2 hl2 => ?_)
  refine lv_aload_n hx hb dL_law_497 rfl (lv_at hl2 4 rfl) ?_
  refine f_callVi (As := []) F I3 (I3.1.sub [0, 1, 2] rfl) (cM_thrown h2 Em Dm k h0.symm) kL_106 ⟨rfl, rfl⟩ ⟨Nat.le_trans (by decide) hRr.1, Nat.le_trans (by decide) hRr.2⟩ 0 12 rfl rfl rfl rfl rfl hl2.1 (Nat.le_of_ble_eq_true rfl) hcs dL_law_498 (fun H4 lo4 I4 => ?_)
  replace I4 : sInv D (cT cI cJ cD cS) (lW ac am aO aD cI cJ cD cS) A s H4 lo4 ((G2, E2, Dd2, P2, Z2), (h2, Em, Dm), o2, od) := sI_perm I4 lp_M.symm
  refine lv_iload hx hb dL_law_501 (lv_at hl2 1 rfl) ?_
  refine lv_icmp_eq (tgt := 508) hx hb dL_law_503 (by decide) (fun _ => ?_) (fun hne => absurd rfl hne)
  refine lv_iload hx hb dL_law_508 (lv_at hl2 1 rfl) ?_
  have hEnd : W p l e R (s.setDrawn d1) m args below meth c H4 lo4 (cells + 2) (slots + 58) Q (F0 m 525 ls2 []) := by
    refine lv_goto (tgt := 1861) hx hb dL_law_525 (by decide) ?_
    exact K H4 lo4 d1 _ ls2 hd1 I4 ⟨hRR2, hPZ2⟩ (lv_sub hl2 [2, 3, 4, 5, 6, 7] rfl)
  refine lv_if_ne (tgt := 525) hx hb dL_law_510 (by decide) (fun _ => hEnd) (fun hk0 => ?_)
  have hv := hk hk0
  refine lv_aload_n hx hb dL_law_513 rfl (lv_at hl2 5 rfl) ?_
  refine lv_iconst (v := 0) hx hb dL_law_514 (by decide) ?_
  refine va_lald hx hb (Idr I4).1 I4.2.1 0 1 rfl rfl in01 dL_law_515 ?_
  refine lv_iload hx hb dL_law_516 (lv_at hl2 0 rfl) ?_
  refine lv_i2l hx hb dL_law_518 rfl ?_
  refine W.lcmp hx hb dL_law_519 ?_
  refine lv_if_eq (tgt := 525) hx hb dL_law_520 (by decide) (fun _ => hEnd) (fun hne => absurd (l_cmp hv) hne)
set_option maxRecDepth 100000 in
set_option maxHeartbeats 4000000 in
theorem lc_compare {x5 : Int32} {i : Nat} (C : lCx p l m c s args A b L xs) (hRr : 12 ≤ R.frames ∧ 430 ≤ R.locals) (hcs : cells + 2 ≤ R.cells ∧ slots + 58 ≤ R.slots) (hd0 : s.drawn.sameBut d0 lw_cs) (I : sInv D (cT cI cJ cD cS) (lW ac am aO aD cI cJ cD cS) A s H locs u) (hr : lR u) (hi : i + 5 ≤ L) (hL : L ≤ 2560) (hx5 : x5 = nI i) (hl : lv_has ls 9 [(0, .ref b), (1, .ref (ac 0)), (2, .ref (am 0)), (3, .ref aO), (4, .ref aD), (5, .int x5)]) (K : lK p l e R s m args below meth c D A cells slots Q ac am aO aD cI cJ cD cS b x5) : W p l e R (s.setDrawn d0) m args below meth c H locs cells slots Q (F0 m 528 ls []) := by
  obtain ⟨F, hX, hbl, hbA, hY, hl0⟩ := C
  obtain ⟨hx, hb, hml, hown, hG⟩ := id F
  obtain ⟨⟨G, E, Dd, P, Z⟩, ⟨h, Em, Dm⟩, o, od⟩ := u
  obtain ⟨hRR, hPZ⟩ := hr
  replace hRR : RR G P h := hRR
  replace hPZ : PZ P Z := hPZ
  have in1 : vp_in (x5 + (1 : Int32)) L := l_in (j := 1) hx5 (by omega) hL
  obtain ⟨a0, ea0⟩ : ∃ z : Int32, z = xs (x5 + (1 : Int32)).toNatClampNeg := ⟨_, rfl⟩
  have in2 : vp_in (x5 + (2 : Int32)) L := l_in (j := 2) hx5 (by omega) hL
  obtain ⟨a1, ea1⟩ : ∃ z : Int32, z = xs (x5 + (2 : Int32)).toNatClampNeg := ⟨_, rfl⟩
  have in3 : vp_in (x5 + (3 : Int32)) L := l_in (j := 3) hx5 (by omega) hL
  obtain ⟨a2, ea2⟩ : ∃ z : Int32, z = xs (x5 + (3 : Int32)).toNatClampNeg := ⟨_, rfl⟩
  have in4 : vp_in (x5 + (4 : Int32)) L := l_in (j := 4) hx5 (by omega) hL
  obtain ⟨a3, ea3⟩ : ∃ z : Int32, z = xs (x5 + (4 : Int32)).toNatClampNeg := ⟨_, rfl⟩
  refine lv_aload_n hx hb dL_law_528 rfl (lv_at hl 1 rfl) ?_
  refine lv_aload_n hx hb dL_law_529 rfl (lv_at hl 0 rfl) ?_
  refine lv_iload hx hb dL_law_530 (lv_at hl 5 rfl) ?_
  refine lv_iconst (v := 1) hx hb dL_law_532 (by decide) ?_
  refine lv_iadd hx hb dL_law_533 ?_
  refine l_sld hx hb hX hbl hbA I in1 dL_law_534 ?_
  rw [← ea0]
  refine lv_aload_n hx hb dL_law_535 rfl (lv_at hl 0 rfl) ?_
  refine lv_iload hx hb dL_law_536 (lv_at hl 5 rfl) ?_
  refine lv_iconst (v := 2) hx hb dL_law_538 (by decide) ?_
  refine lv_iadd hx hb dL_law_539 ?_
  refine l_sld hx hb hX hbl hbA I in2 dL_law_540 ?_
  rw [← ea1]
  refine lv_aload_n hx hb dL_law_541 rfl (lv_at hl 0 rfl) ?_
  refine lv_iload hx hb dL_law_542 (lv_at hl 5 rfl) ?_
  refine lv_iconst (v := 3) hx hb dL_law_544 (by decide) ?_
  refine lv_iadd hx hb dL_law_545 ?_
  refine l_sld hx hb hX hbl hbA I in3 dL_law_546 ?_
  rw [← ea2]
  refine lv_aload_n hx hb dL_law_547 rfl (lv_at hl 0 rfl) ?_
  refine lv_iload hx hb dL_law_548 (lv_at hl 5 rfl) ?_
  refine lv_iconst (v := 4) hx hb dL_law_550 (by decide) ?_
  refine lv_iadd hx hb dL_law_551 ?_
  refine l_sld hx hb hX hbl hbA I in4 dL_law_552 ?_
  rw [← ea3]
  refine lv_aload_n hx hb dL_law_553 rfl (lv_at hl 3 rfl) ?_
  have I0 : sInv D (cT cI cJ cD cS) (fW ((aD, .inl (cD, 1, .inr (.inr (.inr (.inl od))))) :: mW am cI cJ cD (h, Em, Dm)) (wJ ac aO cI cJ cD cS)) A s H locs ((G, E, Dd, P, Z), o) := sI_perm I lp_J
  refine f_callSW (As := [.ref (ac 0), .int a0, .int a1, .int a2, .int a3, .ref aO]) F hd0 I0 I.1 hY (wL_compare aO G E Dd P Z o hPZ hl0 a0 a1 a2 a3 _ (q_compare E Em Dd Dm o hRR hPZ a0 a1 a2 a3 _ rfl)) kL_124 ⟨rfl, rfl⟩ ⟨Nat.le_trans (by decide) hRr.1, Nat.le_trans (by decide) hRr.2⟩ rfl rfl hl.1 (Nat.le_of_ble_eq_true rfl) hcs dL_law_554 (fun H1 lo1 d1 k u hd1 I1 hΨ => ?_)
  obtain ⟨⟨G2, E2, Dd2, P2, Z2⟩, o2⟩ := u
  obtain ⟨r, h2, hm, h0, hk, hRR2, hPZ2⟩ := hΨ
  replace I1 : sInv D (cT cI cJ cD cS) (lW ac am aO aD cI cJ cD cS) A s H1 lo1 ((G2, E2, Dd2, P2, Z2), (h, Em, Dm), o2, od) := sI_perm I1 lp_J.symm
  refine lv_istore (lv' := [(6, .int k), (0, .ref b), (1, .ref (ac 0)), (2, .ref (am 0)), (3, .ref aO), (4, .ref aD), (5, .int x5)]) hx hb dL_law_557 hl (by decide) rfl (fun ls1 hl1 => ?_)
  refine lv_aload_n hx hb dL_law_559 rfl (lv_at hl1 3 rfl) ?_
  refine lv_aload_n hx hb dL_law_560 rfl (lv_at hl1 1 rfl) ?_
  refine lv_iload hx hb dL_law_561 (lv_at hl1 6 rfl) ?_
  refine lv_iconst (v := 1) hx hb dL_law_563 (by decide) ?_
  refine lv_iadd hx hb dL_law_564 ?_
  refine l_sld hx hb hX hbl hbA I1 in1 dL_law_565 ?_
  rw [← ea0]
  refine lv_aload_n hx hb dL_law_566 rfl (lv_at hl1 1 rfl) ?_
  refine lv_iload hx hb dL_law_567 (lv_at hl1 6 rfl) ?_
  refine lv_iconst (v := 2) hx hb dL_law_569 (by decide) ?_
  refine lv_iadd hx hb dL_law_570 ?_
  refine l_sld hx hb hX hbl hbA I1 in2 dL_law_571 ?_
  rw [← ea1]
  refine lv_aload_n hx hb dL_law_572 rfl (lv_at hl1 1 rfl) ?_
  refine lv_iload hx hb dL_law_573 (lv_at hl1 6 rfl) ?_
  refine lv_iconst (v := 3) hx hb dL_law_575 (by decide) ?_
  refine lv_iadd hx hb dL_law_576 ?_
  refine l_sld hx hb hX hbl hbA I1 in3 dL_law_577 ?_
  rw [← ea2]
  refine lv_aload_n hx hb dL_law_578 rfl (lv_at hl1 1 rfl) ?_
  refine lv_iload hx hb dL_law_579 (lv_at hl1 6 rfl) ?_
  refine lv_iconst (v := 4) hx hb dL_law_581 (by decide) ?_
  refine lv_iadd hx hb dL_law_582 ?_
  refine l_sld hx hb hX hbl hbA I1 in4 dL_law_583 ?_
  rw [← ea3]
  replace I1 : sInv D (cT cI cJ cD cS) (fW ((aO, .inl (cJ, 1, .inr (.inl o2))) :: (aD, .inl (cD, 1, .inr (.inr (.inr (.inl od))))) :: cW ac cI cJ cD cS (G2, E2, Dd2, P2, Z2)) (mW am cI cJ cD)) A s H1 lo1 (h, Em, Dm) := sI_perm I1 lp_M
  refine f_callVi (As := [.int a0, .int a1, .int a2, .int a3]) F I1 (I1.1.sub [0, 1, 2] rfl) (cM_compare h Em Dm a0 a1 a2 a3 r h2 hm) kL_127 ⟨rfl, rfl⟩ ⟨Nat.le_trans (by decide) hRr.1, Nat.le_trans (by decide) hRr.2⟩ 0 12 rfl rfl rfl rfl rfl hl1.1 (Nat.le_of_ble_eq_true rfl) hcs dL_law_584 (fun H3 lo3 I3 => ?_)
  replace I3 : sInv D (cT cI cJ cD cS) (fW ((aO, .inl (cJ, 1, .inr (.inl o2))) :: (aD, .inl (cD, 1, .inr (.inr (.inr (.inl od))))) :: cW ac cI cJ cD cS (G2, E2, Dd2, P2, Z2)) (mW am cI cJ cD)) A s H3 lo3 (h2, Em, Dm) := I3
  refine lv_istore (lv' := [(7, .int r), (6, .int k), (0, .ref b), (1, .ref (ac 0)), (2, .ref (am 0)), (3, .ref aO), (4, .ref aD), (5, .int x5)]) hx hb dL_law_587 hl1 (by decide) rfl (fun ls2 hl2 => ?_)
  refine lv_aload_n hx hb dL_law_589 rfl (lv_at hl2 4 rfl) ?_
  refine f_callVi (As := []) F I3 (I3.1.sub [0, 1, 2] rfl) (cM_thrown h2 Em Dm k h0.symm) kL_106 ⟨rfl, rfl⟩ ⟨Nat.le_trans (by decide) hRr.1, Nat.le_trans (by decide) hRr.2⟩ 0 12 rfl rfl rfl rfl rfl hl2.1 (Nat.le_of_ble_eq_true rfl) hcs dL_law_590 (fun H4 lo4 I4 => ?_)
  replace I4 : sInv D (cT cI cJ cD cS) (lW ac am aO aD cI cJ cD cS) A s H4 lo4 ((G2, E2, Dd2, P2, Z2), (h2, Em, Dm), o2, od) := sI_perm I4 lp_M.symm
  refine lv_iload hx hb dL_law_593 (lv_at hl2 1 rfl) ?_
  refine lv_icmp_eq (tgt := 600) hx hb dL_law_595 (by decide) (fun _ => ?_) (fun hne => absurd rfl hne)
  refine lv_iload hx hb dL_law_600 (lv_at hl2 1 rfl) ?_
  have hEnd : W p l e R (s.setDrawn d1) m args below meth c H4 lo4 (cells + 2) (slots + 58) Q (F0 m 617 ls2 []) := by
    refine lv_goto (tgt := 1861) hx hb dL_law_617 (by decide) ?_
    exact K H4 lo4 d1 _ ls2 hd1 I4 ⟨hRR2, hPZ2⟩ (lv_sub hl2 [2, 3, 4, 5, 6, 7] rfl)
  refine lv_if_ne (tgt := 617) hx hb dL_law_602 (by decide) (fun _ => hEnd) (fun hk0 => ?_)
  have hv := hk hk0
  refine lv_aload_n hx hb dL_law_605 rfl (lv_at hl2 5 rfl) ?_
  refine lv_iconst (v := 0) hx hb dL_law_606 (by decide) ?_
  refine va_lald hx hb (Idr I4).1 I4.2.1 0 1 rfl rfl in01 dL_law_607 ?_
  refine lv_iload hx hb dL_law_608 (lv_at hl2 0 rfl) ?_
  refine lv_i2l hx hb dL_law_610 rfl ?_
  refine W.lcmp hx hb dL_law_611 ?_
  refine lv_if_eq (tgt := 617) hx hb dL_law_612 (by decide) (fun _ => hEnd) (fun hne => absurd (l_cmp hv) hne)
set_option maxRecDepth 100000 in
set_option maxHeartbeats 4000000 in
theorem lc_remove {x5 : Int32} {i : Nat} (C : lCx p l m c s args A b L xs) (hRr : 12 ≤ R.frames ∧ 430 ≤ R.locals) (hcs : cells + 2 ≤ R.cells ∧ slots + 58 ≤ R.slots) (hd0 : s.drawn.sameBut d0 lw_cs) (I : sInv D (cT cI cJ cD cS) (lW ac am aO aD cI cJ cD cS) A s H locs u) (hr : lR u) (hi : i + 5 ≤ L) (hL : L ≤ 2560) (hx5 : x5 = nI i) (hl : lv_has ls 9 [(0, .ref b), (1, .ref (ac 0)), (2, .ref (am 0)), (3, .ref aO), (4, .ref aD), (5, .int x5)]) (K : lK p l e R s m args below meth c D A cells slots Q ac am aO aD cI cJ cD cS b x5) : W p l e R (s.setDrawn d0) m args below meth c H locs cells slots Q (F0 m 620 ls []) := by
  obtain ⟨F, hX, hbl, hbA, hY, hl0⟩ := C
  obtain ⟨hx, hb, hml, hown, hG⟩ := id F
  obtain ⟨⟨G, E, Dd, P, Z⟩, ⟨h, Em, Dm⟩, o, od⟩ := u
  obtain ⟨hRR, hPZ⟩ := hr
  replace hRR : RR G P h := hRR
  replace hPZ : PZ P Z := hPZ
  have in1 : vp_in (x5 + (1 : Int32)) L := l_in (j := 1) hx5 (by omega) hL
  obtain ⟨a0, ea0⟩ : ∃ z : Int32, z = xs (x5 + (1 : Int32)).toNatClampNeg := ⟨_, rfl⟩
  refine lv_aload_n hx hb dL_law_620 rfl (lv_at hl 1 rfl) ?_
  refine lv_aload_n hx hb dL_law_621 rfl (lv_at hl 0 rfl) ?_
  refine lv_iload hx hb dL_law_622 (lv_at hl 5 rfl) ?_
  refine lv_iconst (v := 1) hx hb dL_law_624 (by decide) ?_
  refine lv_iadd hx hb dL_law_625 ?_
  refine l_sld hx hb hX hbl hbA I in1 dL_law_626 ?_
  rw [← ea0]
  refine lv_aload_n hx hb dL_law_627 rfl (lv_at hl 3 rfl) ?_
  have I0 : sInv D (cT cI cJ cD cS) (fW ((aD, .inl (cD, 1, .inr (.inr (.inr (.inl od))))) :: mW am cI cJ cD (h, Em, Dm)) (wJ ac aO cI cJ cD cS)) A s H locs ((G, E, Dd, P, Z), o) := sI_perm I lp_J
  refine f_callSW (As := [.ref (ac 0), .int a0, .ref aO]) F hd0 I0 I.1 hY (wL_remove aO G E Dd P Z o hPZ hl0 a0 _ (q_remove E Em Dd Dm o hRR hPZ a0 _ rfl)) kL_128 ⟨rfl, rfl⟩ ⟨Nat.le_trans (by decide) hRr.1, Nat.le_trans (by decide) hRr.2⟩ rfl rfl hl.1 (Nat.le_of_ble_eq_true rfl) hcs dL_law_628 (fun H1 lo1 d1 k u hd1 I1 hΨ => ?_)
  obtain ⟨⟨G2, E2, Dd2, P2, Z2⟩, o2⟩ := u
  obtain ⟨r, h2, hm, h0, hk, hRR2, hPZ2⟩ := hΨ
  replace I1 : sInv D (cT cI cJ cD cS) (lW ac am aO aD cI cJ cD cS) A s H1 lo1 ((G2, E2, Dd2, P2, Z2), (h, Em, Dm), o2, od) := sI_perm I1 lp_J.symm
  refine lv_istore (lv' := [(6, .int k), (0, .ref b), (1, .ref (ac 0)), (2, .ref (am 0)), (3, .ref aO), (4, .ref aD), (5, .int x5)]) hx hb dL_law_631 hl (by decide) rfl (fun ls1 hl1 => ?_)
  refine lv_aload_n hx hb dL_law_633 rfl (lv_at hl1 3 rfl) ?_
  refine lv_aload_n hx hb dL_law_634 rfl (lv_at hl1 1 rfl) ?_
  refine lv_iload hx hb dL_law_635 (lv_at hl1 6 rfl) ?_
  refine lv_iconst (v := 1) hx hb dL_law_637 (by decide) ?_
  refine lv_iadd hx hb dL_law_638 ?_
  refine l_sld hx hb hX hbl hbA I1 in1 dL_law_639 ?_
  rw [← ea0]
  replace I1 : sInv D (cT cI cJ cD cS) (fW ((aO, .inl (cJ, 1, .inr (.inl o2))) :: (aD, .inl (cD, 1, .inr (.inr (.inr (.inl od))))) :: cW ac cI cJ cD cS (G2, E2, Dd2, P2, Z2)) (mW am cI cJ cD)) A s H1 lo1 (h, Em, Dm) := sI_perm I1 lp_M
  refine f_callVi (As := [.int a0]) F I1 (I1.1.sub [0, 1, 2] rfl) (cM_remove h Em Dm a0 r h2 hm) kL_130 ⟨rfl, rfl⟩ ⟨Nat.le_trans (by decide) hRr.1, Nat.le_trans (by decide) hRr.2⟩ 0 12 rfl rfl rfl rfl rfl hl1.1 (Nat.le_of_ble_eq_true rfl) hcs dL_law_640 (fun H3 lo3 I3 => ?_)
  replace I3 : sInv D (cT cI cJ cD cS) (fW ((aO, .inl (cJ, 1, .inr (.inl o2))) :: (aD, .inl (cD, 1, .inr (.inr (.inr (.inl od))))) :: cW ac cI cJ cD cS (G2, E2, Dd2, P2, Z2)) (mW am cI cJ cD)) A s H3 lo3 (h2, Em, Dm) := I3
  refine lv_istore (lv' := [(7, .int r), (6, .int k), (0, .ref b), (1, .ref (ac 0)), (2, .ref (am 0)), (3, .ref aO), (4, .ref aD), (5, .int x5)]) hx hb dL_law_643 hl1 (by decide) rfl (fun ls2 hl2 => ?_)
  refine lv_aload_n hx hb dL_law_645 rfl (lv_at hl2 4 rfl) ?_
  refine f_callVi (As := []) F I3 (I3.1.sub [0, 1, 2] rfl) (cM_thrown h2 Em Dm k h0.symm) kL_106 ⟨rfl, rfl⟩ ⟨Nat.le_trans (by decide) hRr.1, Nat.le_trans (by decide) hRr.2⟩ 0 12 rfl rfl rfl rfl rfl hl2.1 (Nat.le_of_ble_eq_true rfl) hcs dL_law_646 (fun H4 lo4 I4 => ?_)
  replace I4 : sInv D (cT cI cJ cD cS) (lW ac am aO aD cI cJ cD cS) A s H4 lo4 ((G2, E2, Dd2, P2, Z2), (h2, Em, Dm), o2, od) := sI_perm I4 lp_M.symm
  refine lv_iload hx hb dL_law_649 (lv_at hl2 1 rfl) ?_
  refine lv_icmp_eq (tgt := 656) hx hb dL_law_651 (by decide) (fun _ => ?_) (fun hne => absurd rfl hne)
  refine lv_iload hx hb dL_law_656 (lv_at hl2 1 rfl) ?_
  have hEnd : W p l e R (s.setDrawn d1) m args below meth c H4 lo4 (cells + 2) (slots + 58) Q (F0 m 673 ls2 []) := by
    refine lv_goto (tgt := 1861) hx hb dL_law_673 (by decide) ?_
    exact K H4 lo4 d1 _ ls2 hd1 I4 ⟨hRR2, hPZ2⟩ (lv_sub hl2 [2, 3, 4, 5, 6, 7] rfl)
  refine lv_if_ne (tgt := 673) hx hb dL_law_658 (by decide) (fun _ => hEnd) (fun hk0 => ?_)
  have hv := hk hk0
  refine lv_aload_n hx hb dL_law_661 rfl (lv_at hl2 5 rfl) ?_
  refine lv_iconst (v := 0) hx hb dL_law_662 (by decide) ?_
  refine va_lald hx hb (Idr I4).1 I4.2.1 0 1 rfl rfl in01 dL_law_663 ?_
  refine lv_iload hx hb dL_law_664 (lv_at hl2 0 rfl) ?_
  refine lv_i2l hx hb dL_law_666 rfl ?_
  refine W.lcmp hx hb dL_law_667 ?_
  refine lv_if_eq (tgt := 673) hx hb dL_law_668 (by decide) (fun _ => hEnd) (fun hne => absurd (l_cmp hv) hne)
set_option maxRecDepth 100000 in
set_option maxHeartbeats 4000000 in
theorem lc_undo {x5 : Int32} {i : Nat} (C : lCx p l m c s args A b L xs) (hRr : 12 ≤ R.frames ∧ 430 ≤ R.locals) (hcs : cells + 2 ≤ R.cells ∧ slots + 58 ≤ R.slots) (hd0 : s.drawn.sameBut d0 lw_cs) (I : sInv D (cT cI cJ cD cS) (lW ac am aO aD cI cJ cD cS) A s H locs u) (hr : lR u) (hi : i + 5 ≤ L) (hL : L ≤ 2560) (hx5 : x5 = nI i) (hl : lv_has ls 9 [(0, .ref b), (1, .ref (ac 0)), (2, .ref (am 0)), (3, .ref aO), (4, .ref aD), (5, .int x5)]) (K : lK p l e R s m args below meth c D A cells slots Q ac am aO aD cI cJ cD cS b x5) : W p l e R (s.setDrawn d0) m args below meth c H locs cells slots Q (F0 m 676 ls []) := by
  obtain ⟨F, hX, hbl, hbA, hY, hl0⟩ := C
  obtain ⟨hx, hb, hml, hown, hG⟩ := id F
  obtain ⟨⟨G, E, Dd, P, Z⟩, ⟨h, Em, Dm⟩, o, od⟩ := u
  obtain ⟨hRR, hPZ⟩ := hr
  replace hRR : RR G P h := hRR
  replace hPZ : PZ P Z := hPZ
  refine lv_aload_n hx hb dL_law_676 rfl (lv_at hl 1 rfl) ?_
  refine lv_aload_n hx hb dL_law_677 rfl (lv_at hl 3 rfl) ?_
  have I0 : sInv D (cT cI cJ cD cS) (fW ((aD, .inl (cD, 1, .inr (.inr (.inr (.inl od))))) :: mW am cI cJ cD (h, Em, Dm)) (wJ ac aO cI cJ cD cS)) A s H locs ((G, E, Dd, P, Z), o) := sI_perm I lp_J
  refine f_callSW (As := [.ref (ac 0), .ref aO]) F hd0 I0 I.1 hY (wL_undo aO G E Dd P Z o hPZ hl0  _ (q_undo E Em Dd Dm o hRR hPZ  _ rfl)) kL_131 ⟨rfl, rfl⟩ ⟨Nat.le_trans (by decide) hRr.1, Nat.le_trans (by decide) hRr.2⟩ rfl rfl hl.1 (Nat.le_of_ble_eq_true rfl) hcs dL_law_678 (fun H1 lo1 d1 k u hd1 I1 hΨ => ?_)
  obtain ⟨⟨G2, E2, Dd2, P2, Z2⟩, o2⟩ := u
  obtain ⟨r, h2, hm, h0, hk, hRR2, hPZ2⟩ := hΨ
  replace I1 : sInv D (cT cI cJ cD cS) (lW ac am aO aD cI cJ cD cS) A s H1 lo1 ((G2, E2, Dd2, P2, Z2), (h, Em, Dm), o2, od) := sI_perm I1 lp_J.symm
  refine lv_istore (lv' := [(6, .int k), (0, .ref b), (1, .ref (ac 0)), (2, .ref (am 0)), (3, .ref aO), (4, .ref aD), (5, .int x5)]) hx hb dL_law_681 hl (by decide) rfl (fun ls1 hl1 => ?_)
  refine lv_aload_n hx hb dL_law_683 rfl (lv_at hl1 3 rfl) ?_
  replace I1 : sInv D (cT cI cJ cD cS) (fW ((aO, .inl (cJ, 1, .inr (.inl o2))) :: (aD, .inl (cD, 1, .inr (.inr (.inr (.inl od))))) :: cW ac cI cJ cD cS (G2, E2, Dd2, P2, Z2)) (mW am cI cJ cD)) A s H1 lo1 (h, Em, Dm) := sI_perm I1 lp_M
  refine f_callVi (As := []) F I1 (I1.1.sub [0, 1, 2] rfl) (cM_undo h Em Dm  r h2 hm) kL_134 ⟨rfl, rfl⟩ ⟨Nat.le_trans (by decide) hRr.1, Nat.le_trans (by decide) hRr.2⟩ 0 12 rfl rfl rfl rfl rfl hl1.1 (Nat.le_of_ble_eq_true rfl) hcs dL_law_684 (fun H3 lo3 I3 => ?_)
  replace I3 : sInv D (cT cI cJ cD cS) (fW ((aO, .inl (cJ, 1, .inr (.inl o2))) :: (aD, .inl (cD, 1, .inr (.inr (.inr (.inl od))))) :: cW ac cI cJ cD cS (G2, E2, Dd2, P2, Z2)) (mW am cI cJ cD)) A s H3 lo3 (h2, Em, Dm) := I3
  refine lv_istore (lv' := [(7, .int r), (6, .int k), (0, .ref b), (1, .ref (ac 0)), (2, .ref (am 0)), (3, .ref aO), (4, .ref aD), (5, .int x5)]) hx hb dL_law_687 hl1 (by decide) rfl (fun ls2 hl2 => ?_)
  refine lv_aload_n hx hb dL_law_689 rfl (lv_at hl2 4 rfl) ?_
  refine f_callVi (As := []) F I3 (I3.1.sub [0, 1, 2] rfl) (cM_thrown h2 Em Dm k h0.symm) kL_106 ⟨rfl, rfl⟩ ⟨Nat.le_trans (by decide) hRr.1, Nat.le_trans (by decide) hRr.2⟩ 0 12 rfl rfl rfl rfl rfl hl2.1 (Nat.le_of_ble_eq_true rfl) hcs dL_law_690 (fun H4 lo4 I4 => ?_)
  replace I4 : sInv D (cT cI cJ cD cS) (lW ac am aO aD cI cJ cD cS) A s H4 lo4 ((G2, E2, Dd2, P2, Z2), (h2, Em, Dm), o2, od) := sI_perm I4 lp_M.symm
  refine lv_iload hx hb dL_law_693 (lv_at hl2 1 rfl) ?_
  refine lv_icmp_eq (tgt := 700) hx hb dL_law_695 (by decide) (fun _ => ?_) (fun hne => absurd rfl hne)
  refine lv_iload hx hb dL_law_700 (lv_at hl2 1 rfl) ?_
  have hEnd : W p l e R (s.setDrawn d1) m args below meth c H4 lo4 (cells + 2) (slots + 58) Q (F0 m 717 ls2 []) := by
    refine lv_goto (tgt := 1861) hx hb dL_law_717 (by decide) ?_
    exact K H4 lo4 d1 _ ls2 hd1 I4 ⟨hRR2, hPZ2⟩ (lv_sub hl2 [2, 3, 4, 5, 6, 7] rfl)
  refine lv_if_ne (tgt := 717) hx hb dL_law_702 (by decide) (fun _ => hEnd) (fun hk0 => ?_)
  have hv := hk hk0
  refine lv_aload_n hx hb dL_law_705 rfl (lv_at hl2 5 rfl) ?_
  refine lv_iconst (v := 0) hx hb dL_law_706 (by decide) ?_
  refine va_lald hx hb (Idr I4).1 I4.2.1 0 1 rfl rfl in01 dL_law_707 ?_
  refine lv_iload hx hb dL_law_708 (lv_at hl2 0 rfl) ?_
  refine lv_i2l hx hb dL_law_710 rfl ?_
  refine W.lcmp hx hb dL_law_711 ?_
  refine lv_if_eq (tgt := 717) hx hb dL_law_712 (by decide) (fun _ => hEnd) (fun hne => absurd (l_cmp hv) hne)
set_option maxRecDepth 100000 in
set_option maxHeartbeats 4000000 in
theorem lc_append {x5 : Int32} {i : Nat} (C : lCx p l m c s args A b L xs) (hRr : 12 ≤ R.frames ∧ 430 ≤ R.locals) (hcs : cells + 2 ≤ R.cells ∧ slots + 58 ≤ R.slots) (hd0 : s.drawn.sameBut d0 lw_cs) (I : sInv D (cT cI cJ cD cS) (lW ac am aO aD cI cJ cD cS) A s H locs u) (hr : lR u) (hi : i + 5 ≤ L) (hL : L ≤ 2560) (hx5 : x5 = nI i) (hl : lv_has ls 9 [(0, .ref b), (1, .ref (ac 0)), (2, .ref (am 0)), (3, .ref aO), (4, .ref aD), (5, .int x5)]) (K : lK p l e R s m args below meth c D A cells slots Q ac am aO aD cI cJ cD cS b x5) : W p l e R (s.setDrawn d0) m args below meth c H locs cells slots Q (F0 m 720 ls []) := by
  obtain ⟨F, hX, hbl, hbA, hY, hl0⟩ := C
  obtain ⟨hx, hb, hml, hown, hG⟩ := id F
  obtain ⟨⟨G, E, Dd, P, Z⟩, ⟨h, Em, Dm⟩, o, od⟩ := u
  obtain ⟨hRR, hPZ⟩ := hr
  replace hRR : RR G P h := hRR
  replace hPZ : PZ P Z := hPZ
  have in1 : vp_in (x5 + (1 : Int32)) L := l_in (j := 1) hx5 (by omega) hL
  obtain ⟨a0, ea0⟩ : ∃ z : Int32, z = xs (x5 + (1 : Int32)).toNatClampNeg := ⟨_, rfl⟩
  refine lv_aload_n hx hb dL_law_720 rfl (lv_at hl 1 rfl) ?_
  refine lv_aload_n hx hb dL_law_721 rfl (lv_at hl 0 rfl) ?_
  refine lv_iload hx hb dL_law_722 (lv_at hl 5 rfl) ?_
  refine lv_iconst (v := 1) hx hb dL_law_724 (by decide) ?_
  refine lv_iadd hx hb dL_law_725 ?_
  refine l_sld hx hb hX hbl hbA I in1 dL_law_726 ?_
  rw [← ea0]
  refine lv_aload_n hx hb dL_law_727 rfl (lv_at hl 3 rfl) ?_
  have I0 : sInv D (cT cI cJ cD cS) (fW ((aD, .inl (cD, 1, .inr (.inr (.inr (.inl od))))) :: mW am cI cJ cD (h, Em, Dm)) (wJ ac aO cI cJ cD cS)) A s H locs ((G, E, Dd, P, Z), o) := sI_perm I lp_J
  refine f_callSW (As := [.ref (ac 0), .int a0, .ref aO]) F hd0 I0 I.1 hY (wL_append aO G E Dd P Z o hPZ hl0 a0 _ (q_append E Em Dd Dm o hRR hPZ a0 _ rfl)) kL_135 ⟨rfl, rfl⟩ ⟨Nat.le_trans (by decide) hRr.1, Nat.le_trans (by decide) hRr.2⟩ rfl rfl hl.1 (Nat.le_of_ble_eq_true rfl) hcs dL_law_728 (fun H1 lo1 d1 k u hd1 I1 hΨ => ?_)
  obtain ⟨⟨G2, E2, Dd2, P2, Z2⟩, o2⟩ := u
  obtain ⟨r, h2, hm, h0, hk, hRR2, hPZ2⟩ := hΨ
  replace I1 : sInv D (cT cI cJ cD cS) (lW ac am aO aD cI cJ cD cS) A s H1 lo1 ((G2, E2, Dd2, P2, Z2), (h, Em, Dm), o2, od) := sI_perm I1 lp_J.symm
  refine lv_istore (lv' := [(6, .int k), (0, .ref b), (1, .ref (ac 0)), (2, .ref (am 0)), (3, .ref aO), (4, .ref aD), (5, .int x5)]) hx hb dL_law_731 hl (by decide) rfl (fun ls1 hl1 => ?_)
  refine lv_aload_n hx hb dL_law_733 rfl (lv_at hl1 3 rfl) ?_
  refine lv_aload_n hx hb dL_law_734 rfl (lv_at hl1 1 rfl) ?_
  refine lv_iload hx hb dL_law_735 (lv_at hl1 6 rfl) ?_
  refine lv_iconst (v := 1) hx hb dL_law_737 (by decide) ?_
  refine lv_iadd hx hb dL_law_738 ?_
  refine l_sld hx hb hX hbl hbA I1 in1 dL_law_739 ?_
  rw [← ea0]
  replace I1 : sInv D (cT cI cJ cD cS) (fW ((aO, .inl (cJ, 1, .inr (.inl o2))) :: (aD, .inl (cD, 1, .inr (.inr (.inr (.inl od))))) :: cW ac cI cJ cD cS (G2, E2, Dd2, P2, Z2)) (mW am cI cJ cD)) A s H1 lo1 (h, Em, Dm) := sI_perm I1 lp_M
  refine f_callVi (As := [.int a0]) F I1 (I1.1.sub [0, 1, 2] rfl) (cM_append h Em Dm a0 r h2 hm) kL_137 ⟨rfl, rfl⟩ ⟨Nat.le_trans (by decide) hRr.1, Nat.le_trans (by decide) hRr.2⟩ 0 12 rfl rfl rfl rfl rfl hl1.1 (Nat.le_of_ble_eq_true rfl) hcs dL_law_740 (fun H3 lo3 I3 => ?_)
  replace I3 : sInv D (cT cI cJ cD cS) (fW ((aO, .inl (cJ, 1, .inr (.inl o2))) :: (aD, .inl (cD, 1, .inr (.inr (.inr (.inl od))))) :: cW ac cI cJ cD cS (G2, E2, Dd2, P2, Z2)) (mW am cI cJ cD)) A s H3 lo3 (h2, Em, Dm) := I3
  refine lv_istore (lv' := [(7, .int r), (6, .int k), (0, .ref b), (1, .ref (ac 0)), (2, .ref (am 0)), (3, .ref aO), (4, .ref aD), (5, .int x5)]) hx hb dL_law_743 hl1 (by decide) rfl (fun ls2 hl2 => ?_)
  refine lv_aload_n hx hb dL_law_745 rfl (lv_at hl2 4 rfl) ?_
  refine f_callVi (As := []) F I3 (I3.1.sub [0, 1, 2] rfl) (cM_thrown h2 Em Dm k h0.symm) kL_106 ⟨rfl, rfl⟩ ⟨Nat.le_trans (by decide) hRr.1, Nat.le_trans (by decide) hRr.2⟩ 0 12 rfl rfl rfl rfl rfl hl2.1 (Nat.le_of_ble_eq_true rfl) hcs dL_law_746 (fun H4 lo4 I4 => ?_)
  replace I4 : sInv D (cT cI cJ cD cS) (lW ac am aO aD cI cJ cD cS) A s H4 lo4 ((G2, E2, Dd2, P2, Z2), (h2, Em, Dm), o2, od) := sI_perm I4 lp_M.symm
  refine lv_iload hx hb dL_law_749 (lv_at hl2 1 rfl) ?_
  refine lv_icmp_eq (tgt := 756) hx hb dL_law_751 (by decide) (fun _ => ?_) (fun hne => absurd rfl hne)
  refine lv_iload hx hb dL_law_756 (lv_at hl2 1 rfl) ?_
  have hEnd : W p l e R (s.setDrawn d1) m args below meth c H4 lo4 (cells + 2) (slots + 58) Q (F0 m 773 ls2 []) := by
    refine lv_goto (tgt := 1861) hx hb dL_law_773 (by decide) ?_
    exact K H4 lo4 d1 _ ls2 hd1 I4 ⟨hRR2, hPZ2⟩ (lv_sub hl2 [2, 3, 4, 5, 6, 7] rfl)
  refine lv_if_ne (tgt := 773) hx hb dL_law_758 (by decide) (fun _ => hEnd) (fun hk0 => ?_)
  have hv := hk hk0
  refine lv_aload_n hx hb dL_law_761 rfl (lv_at hl2 5 rfl) ?_
  refine lv_iconst (v := 0) hx hb dL_law_762 (by decide) ?_
  refine va_lald hx hb (Idr I4).1 I4.2.1 0 1 rfl rfl in01 dL_law_763 ?_
  refine lv_iload hx hb dL_law_764 (lv_at hl2 0 rfl) ?_
  refine lv_i2l hx hb dL_law_766 rfl ?_
  refine W.lcmp hx hb dL_law_767 ?_
  refine lv_if_eq (tgt := 773) hx hb dL_law_768 (by decide) (fun _ => hEnd) (fun hne => absurd (l_cmp hv) hne)
set_option maxRecDepth 100000 in
set_option maxHeartbeats 4000000 in
theorem lc_clearBuffer {x5 : Int32} {i : Nat} (C : lCx p l m c s args A b L xs) (hRr : 12 ≤ R.frames ∧ 430 ≤ R.locals) (hcs : cells + 2 ≤ R.cells ∧ slots + 58 ≤ R.slots) (hd0 : s.drawn.sameBut d0 lw_cs) (I : sInv D (cT cI cJ cD cS) (lW ac am aO aD cI cJ cD cS) A s H locs u) (hr : lR u) (hi : i + 5 ≤ L) (hL : L ≤ 2560) (hx5 : x5 = nI i) (hl : lv_has ls 9 [(0, .ref b), (1, .ref (ac 0)), (2, .ref (am 0)), (3, .ref aO), (4, .ref aD), (5, .int x5)]) (K : lK p l e R s m args below meth c D A cells slots Q ac am aO aD cI cJ cD cS b x5) : W p l e R (s.setDrawn d0) m args below meth c H locs cells slots Q (F0 m 776 ls []) := by
  obtain ⟨F, hX, hbl, hbA, hY, hl0⟩ := C
  obtain ⟨hx, hb, hml, hown, hG⟩ := id F
  obtain ⟨⟨G, E, Dd, P, Z⟩, ⟨h, Em, Dm⟩, o, od⟩ := u
  obtain ⟨hRR, hPZ⟩ := hr
  replace hRR : RR G P h := hRR
  replace hPZ : PZ P Z := hPZ
  obtain ⟨r, G2, P2, h2, ⟨cf, hP9⟩, mf, h0, hR2, hP2⟩ := p_clearBuffer hRR
  rw [hP9] at hR2 hP2
  have I0 : sInv D (cT cI cJ cD cS) (fW ((aO, .inl (cJ, 1, .inr (.inl o))) :: (aD, .inl (cD, 1, .inr (.inr (.inr (.inl od))))) :: mW am cI cJ cD (h, Em, Dm)) (cW ac cI cJ cD cS)) A s H locs (G, E, Dd, P, Z) := sI_perm I (List.Perm.refl _)
  refine lv_aload_n hx hb dL_law_776 rfl (lv_at hl 1 rfl) ?_
  refine f_callVi (As := []) F I0 I.1 (cC_LT_clearBuffer G E Dd P Z r G2 cf) kL_138 ⟨rfl, rfl⟩ ⟨Nat.le_trans (by decide) hRr.1, Nat.le_trans (by decide) hRr.2⟩ 0 11 rfl rfl rfl rfl rfl hl.1 (Nat.le_of_ble_eq_true rfl) ⟨Nat.le_trans (Nat.le_add_right _ _) hcs.1, Nat.le_trans (Nat.le_add_right _ _) hcs.2⟩ dL_law_777 (fun H1 lo1 I1 => ?_)
  replace I1 : sInv D (cT cI cJ cD cS) (lW ac am aO aD cI cJ cD cS) A s H1 lo1 ((G2, E, Dd, P, Z), (h, Em, Dm), o, od) := sI_perm I1 (List.Perm.refl _)
  replace I1 : sInv D (cT cI cJ cD cS) (fW ((aO, .inl (cJ, 1, .inr (.inl o))) :: (aD, .inl (cD, 1, .inr (.inr (.inr (.inl od))))) :: cW ac cI cJ cD cS (G2, E, Dd, P, Z)) (mW am cI cJ cD)) A s H1 lo1 (h, Em, Dm) := sI_perm I1 lp_M
  refine lv_aload_n hx hb dL_law_780 rfl (lv_at hl 2 rfl) ?_
  refine f_callVi (As := []) F I1 (I1.1.sub [0, 1, 2] rfl) (cM_clearBuffer h Em Dm r h2 mf) kL_141 ⟨rfl, rfl⟩ ⟨Nat.le_trans (by decide) hRr.1, Nat.le_trans (by decide) hRr.2⟩ 0 12 rfl rfl rfl rfl rfl hl.1 (Nat.le_of_ble_eq_true rfl) ⟨Nat.le_trans (Nat.le_add_right _ _) hcs.1, Nat.le_trans (Nat.le_add_right _ _) hcs.2⟩ dL_law_781 (fun H3 lo3 I3 => ?_)
  replace I3 : sInv D (cT cI cJ cD cS) (lW ac am aO aD cI cJ cD cS) A s H3 lo3 ((G2, E, Dd, P, Z), (h2, Em, Dm), o, od) := sI_perm I3 lp_M.symm
  exact lv_icmp_eq (tgt := 1861) hx hb dL_law_784 (by decide) (fun _ => W.widen (Nat.le_add_right _ _) (Nat.le_add_right _ _) (K H3 lo3 d0 _ ls hd0 I3 ⟨hR2, hP2 Z hPZ⟩ hl)) (fun hne => absurd rfl hne)
end LawC
