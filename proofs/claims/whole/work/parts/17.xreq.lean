/-! REQUIREMENTS THAT THROW -/
theorem q789 : Cond.classLink RX11 349 "java/lang/IllegalArgumentException" ∈ gG := gG_at 789 (by decide +kernel) (by decide +kernel)
theorem q122 : Cond.initialized "java/lang/IllegalArgumentException" ∈ gG := gG_at 122 (by decide +kernel) (by decide +kernel)
theorem q868 : Cond.classLink RX11 344 "java/lang/IndexOutOfBoundsException" ∈ gG := gG_at 868 (by decide +kernel) (by decide +kernel)
theorem q123 : Cond.initialized "java/lang/IndexOutOfBoundsException" ∈ gG := gG_at 123 (by decide +kernel) (by decide +kernel)
theorem q938 : Cond.classLink RX11 106 "java/lang/IllegalStateException" ∈ gG := gG_at 938 (by decide +kernel) (by decide +kernel)
theorem q125 : Cond.initialized "java/lang/IllegalStateException" ∈ gG := gG_at 125 (by decide +kernel) (by decide +kernel)
section XThr
variable {D : va_G} {tys : List (ClassId × FieldType)} {Sg : Type} {Wd : Sg → va_W}
variable {p : Program} {l : Launch} {e : Env} {R : Room} {s : State} {m : MethodId} {args : Array Value} {below : List Frame} {meth : Method} {c : Code} {H : Heap} {locs : List Loc}
variable {A : Nat → Prop} {cc : ByteArray} {nL pc ik is ic : Nat} {σ : Sg} {ls : Array Slot} {X text : String}
theorem x_thrW (F : CallFix p m c cc nL s args gG RX11) (I : sInv D tys Wd A s H locs σ) (hX : xOK A s s.heap) (hl0 : l.stackTraces = false) (htab : ∀ x ∈ c.exceptionTable.toList, False) (hlocks : meth.locks = false) (hls : ls.size = nL) (hcls : Bundle.fit X = true) (hk : Cond.classLink RX11 ik X ∈ gG) (hini : Cond.initialized X ∈ gG) (hstr : (is, text) ∈ xS) (hat : ∀ w ∈ vx_atS RX11 ic X ["java/lang/RuntimeException", "java/lang/Exception"], w.before args s = true) (hgood : ∀ w ∈ Cond.classLink RX11 ik X :: Cond.initialized X :: vx_atS RX11 ic X ["java/lang/RuntimeException", "java/lang/Exception"], vx_ot w = true) (hRf : 6 ≤ R.frames) (hRl : 82 ≤ R.locals) (hRc : 1 ≤ R.cells) (hRs : 6 ≤ R.slots) (d0 : decode cc pc = .ok (.new ik, 3)) (d3 : decode cc (pc + 3) = .ok (.dup, 1)) (d4 : decode cc (pc + 4) = .ok (.ldc_w is, 3)) (d7 : decode cc (pc + 7) = .ok (.invokespecial ic, 3)) (d10 : decode cc (pc + 10) = .ok (.athrow, 1)) : W p l e R s m args below meth c H locs 0 0 (xQ D tys Wd σ X A below args s) (F0 m pc ls []) := by
  obtain ⟨sa, hsa⟩ := hX.2.2.2.1 _ hstr
  exact vx_throwSW (rest := []) F.1 F.2.1 hl0 F.2.2.2.1 hcls (by decide +kernel) (F.2.2.2.2 _ hk) (F.2.2.2.2 _ hini) hsa hat hgood hX.1 hX.2.1 I.2.2.2.1 (hls.trans F.2.2.1.symm) d0 d3 d4 d7 d10 (fun x hx => (htab x hx).elim) hRf hRl (by omega) (by omega) hlocks (fun t h1 h2 h3 => x_post I h1 h2 h3) I.2.2.2.1.2.2 (Nat.le_refl _) (Nat.le_refl _)
theorem x_thrS (F : CallFix p m c cc nL s args gG RX11) (I : sInv D tys Wd A s H locs σ) (hX : xOK A s s.heap) (hl0 : l.stackTraces = false) (htab : ∀ x ∈ c.exceptionTable.toList, False) (hlocks : meth.locks = false) (hls : ls.size = nL) (hcls : Bundle.fit X = true) (hk : Cond.classLink RX11 ik X ∈ gG) (hini : Cond.initialized X ∈ gG) (hstr : (is, text) ∈ xS) (hat : ∀ w ∈ vx_atS RX11 ic X ["java/lang/RuntimeException", "java/lang/Exception"], w.before args s = true) (hgood : ∀ w ∈ Cond.classLink RX11 ik X :: Cond.initialized X :: vx_atS RX11 ic X ["java/lang/RuntimeException", "java/lang/Exception"], vx_ot w = true) (hRf : 6 ≤ R.frames) (hRl : 82 ≤ R.locals) (hRc : 1 ≤ R.cells) (hRs : 6 ≤ R.slots) (d0 : decode cc pc = .ok (.new ik, 3)) (d3 : decode cc (pc + 3) = .ok (.dup, 1)) (d4 : decode cc (pc + 4) = .ok (.ldc is, 2)) (d7 : decode cc (pc + 6) = .ok (.invokespecial ic, 3)) (d10 : decode cc (pc + 9) = .ok (.athrow, 1)) : W p l e R s m args below meth c H locs 0 0 (xQ D tys Wd σ X A below args s) (F0 m pc ls []) := by
  obtain ⟨sa, hsa⟩ := hX.2.2.2.1 _ hstr
  exact vx_throwS (rest := []) F.1 F.2.1 hl0 F.2.2.2.1 hcls (by decide +kernel) (F.2.2.2.2 _ hk) (F.2.2.2.2 _ hini) hsa hat hgood hX.1 hX.2.1 I.2.2.2.1 (hls.trans F.2.2.1.symm) d0 d3 d4 d7 d10 (fun x hx => (htab x hx).elim) hRf hRl (by omega) (by omega) hlocks (fun t h1 h2 h3 => x_post I h1 h2 h3) I.2.2.2.1.2.2 (Nat.le_refl _) (Nat.le_refl _)
end XThr
section XReq
variable {D : va_G} {l : Launch} {ad : Nat → Nat} {cI cJ cD cS : ClassId}
set_option maxRecDepth 100000 in
set_option maxHeartbeats 4000000 in
theorem xC_LT_requireArgument (G : Nat → Nat → Int32) (E : Nat → Nat → Int64) (Dd : Nat → Nat → UInt64) (P : Nat → Option PRec) (Z : List PRec) (hl0 : l.stackTraces = false)   : sX D (cT cI cJ cD cS) (cW ad cI cJ cD cS) l yX11_requireArgument (ws1 yX11_requireArgument cX11_requireArgument 1 none) ({ frames := 6, cells := 1, slots := 6, locals := 82 }) [.int (0 : Int32)] (G, E, Dd, P, Z) (G, E, Dd, P, Z) "java/lang/IllegalArgumentException" := by
  refine sX_of (by decide) (Nat.le_of_ble_eq_true rfl) ?_
  intro p e R s m args below meth c A ls F hRf hRl hRc hRs htab hlk I hX hl
  obtain ⟨hx, hb, hml, hown, hG⟩ := id F
  replace hl : lv_has ls 1 [(0, .int (0 : Int32))] := hl
  refine lv_iload_n hx hb dX11_requireArgument_0 rfl (lv_at hl 0 rfl) ?_
  refine lv_if_ne (tgt := 15) hx hb dX11_requireArgument_1 (by decide) (fun h => absurd rfl h) (fun _ => ?_)
  exact x_thrW (ik := 349) (is := 351) (ic := 353) (text := "an argument is not allowed") F I hX hl0 htab hlk hl.1 (by decide +kernel) q789 q122 (by decide) (xatA hG hX) xgoA hRf hRl hRc hRs dX11_requireArgument_4 dX11_requireArgument_7 dX11_requireArgument_8 dX11_requireArgument_11 dX11_requireArgument_14
set_option maxRecDepth 100000 in
set_option maxHeartbeats 4000000 in
theorem xC_LT_requireIndex (G : Nat → Nat → Int32) (E : Nat → Nat → Int64) (Dd : Nat → Nat → UInt64) (P : Nat → Option PRec) (Z : List PRec) (hl0 : l.stackTraces = false) (a0 a1 : Int32) (hf : a0 < 0 ∨ ¬ a0 < a1) : sX D (cT cI cJ cD cS) (cW ad cI cJ cD cS) l yX11_requireIndex (ws1 yX11_requireIndex cX11_requireIndex 2 none) ({ frames := 6, cells := 1, slots := 6, locals := 82 }) [.int a0, .int a1] (G, E, Dd, P, Z) (G, E, Dd, P, Z) "java/lang/IndexOutOfBoundsException" := by
  refine sX_of (by decide) (Nat.le_of_ble_eq_true rfl) ?_
  intro p e R s m args below meth c A ls F hRf hRl hRc hRs htab hlk I hX hl
  obtain ⟨hx, hb, hml, hown, hG⟩ := id F
  replace hl : lv_has ls 2 [(0, .int a0), (1, .int a1)] := hl
  refine lv_iload_n hx hb dX11_requireIndex_0 rfl (lv_at hl 0 rfl) ?_
  refine lv_if_lt (tgt := 9) hx hb dX11_requireIndex_1 (by decide) (fun _ => ?_) (fun c1 => ?_)
  · exact x_thrW (ik := 344) (is := 346) (ic := 348) (text := "there is no such number") F I hX hl0 htab hlk hl.1 (by decide +kernel) q868 q123 (by decide) (xatB hG hX) xgoB hRf hRl hRc hRs dX11_requireIndex_9 dX11_requireIndex_12 dX11_requireIndex_13 dX11_requireIndex_16 dX11_requireIndex_19
  · refine lv_iload_n hx hb dX11_requireIndex_4 rfl (lv_at hl 0 rfl) ?_
    refine lv_iload_n hx hb dX11_requireIndex_5 rfl (lv_at hl 1 rfl) ?_
    refine lv_icmp_lt (tgt := 20) hx hb dX11_requireIndex_6 (by decide) (fun c2 => absurd hf (fun h => h.elim c1 (fun h => h c2))) (fun _ => ?_)
    exact x_thrW (ik := 344) (is := 346) (ic := 348) (text := "there is no such number") F I hX hl0 htab hlk hl.1 (by decide +kernel) q868 q123 (by decide) (xatB hG hX) xgoB hRf hRl hRc hRs dX11_requireIndex_9 dX11_requireIndex_12 dX11_requireIndex_13 dX11_requireIndex_16 dX11_requireIndex_19
set_option maxRecDepth 100000 in
set_option maxHeartbeats 4000000 in
theorem xC_LT_requireRoom (G : Nat → Nat → Int32) (E : Nat → Nat → Int64) (Dd : Nat → Nat → UInt64) (P : Nat → Option PRec) (Z : List PRec) (hl0 : l.stackTraces = false) (a0 : Int32) (hf : ¬ (G 5 0 + a0 : Int32) ≤ 48) : sX D (cT cI cJ cD cS) (cW ad cI cJ cD cS) l yX11_requireRoom (ws1 yX11_requireRoom cX11_requireRoom 2 none) ({ frames := 6, cells := 1, slots := 6, locals := 82 }) [.ref (ad 0), .int a0] (G, E, Dd, P, Z) (G, E, Dd, P, Z) "java/lang/IllegalStateException" := by
  refine sX_of (by decide) (Nat.le_of_ble_eq_true rfl) ?_
  intro p e R s m args below meth c A ls F hRf hRl hRc hRs htab hlk I hX hl
  obtain ⟨hx, hb, hml, hown, hG⟩ := id F
  replace hl : lv_has ls 2 [(0, .ref (ad 0)), (1, .int a0)] := hl
  refine lv_aload_n hx hb dX11_requireRoom_0 rfl (lv_at hl 0 rfl) ?_
  refine kgtX11_16_0 F I dX11_requireRoom_1 ?_
  refine kgtX11_149_2 F I dX11_requireRoom_4 ?_
  refine lv_iload_n hx hb dX11_requireRoom_7 rfl (lv_at hl 1 rfl) ?_
  refine lv_iadd hx hb dX11_requireRoom_8 ?_
  refine lv_bipush (v := (48 : Int32)) hx hb dX11_requireRoom_9 (by decide) ?_
  refine lv_icmp_le (tgt := 25) hx hb dX11_requireRoom_11 (by decide) (fun c1 => absurd c1 hf) (fun _ => ?_)
  exact x_thrW (ik := 106) (is := 342) (ic := 110) (text := "too many comparisons") F I hX hl0 htab hlk hl.1 (by decide +kernel) q938 q125 (by decide) (xatS hG hX) xgoS hRf hRl hRc hRs dX11_requireRoom_14 dX11_requireRoom_17 dX11_requireRoom_18 dX11_requireRoom_21 dX11_requireRoom_24
end XReq
