/-! THE LAW: calls inside a larger world X ++ Wd σ; the contract of a wrapper -/
abbrev fW {Sg : Type} (X : va_W) (Wd : Sg → va_W) : Sg → va_W := fun σ => X ++ Wd σ
def xN : List (String × String) := [("java/lang/IndexOutOfBoundsException", "java/lang/IllegalArgumentException"), ("java/lang/IllegalArgumentException", "java/lang/IndexOutOfBoundsException"), ("java/lang/IllegalStateException", "java/lang/IllegalArgumentException"), ("java/lang/IllegalArgumentException", "java/lang/IllegalStateException"), ("java/lang/IllegalStateException", "java/lang/IndexOutOfBoundsException"), ("java/lang/IndexOutOfBoundsException", "java/lang/IllegalStateException")]
def yOK (A : Nat → Prop) (U : State) (H : Heap) : Prop := xOK A U H ∧ ∀ t ∈ xN, va_Nc t.1 t.2 U
theorem yOK.warm {A : Nat → Prop} {s U : State} {H : Heap} (hW : s.WarmedH U.vm) (h : yOK A s H) : yOK A U H := ⟨h.1.warm hW, fun t ht => (h.2 t ht).moved hW.alike⟩
theorem yOK.same {A : Nat → Prop} {s U : State} {H : Heap} (hv : s.vm = U.vm) (h : yOK A s H) : yOK A U H := ⟨h.1.same hv, fun t ht => (h.2 t ht).moved (by rw [← hv]; exact Vm.Alike.refl _)⟩
theorem yOK.kept {A : Nat → Prop} {s : State} {H H1 : Heap} (h : yOK A s H) (hq : ∀ a : Nat, a < H.size → ¬ A a → H1[a]? = H[a]?) : yOK A s H1 := ⟨h.1.kept hq, h.2⟩
theorem yOK.narrow {A B : Nat → Prop} {s : State} {H : Heap} (h : yOK A s H) (hAB : ∀ q, B q → A q) : yOK B s H := ⟨h.1.narrow hAB, h.2⟩
section FCon
variable {D : va_G} {tyL tyc : List (ClassId × FieldType)} {Sg : Type} {Wd : Sg → va_W} {X : va_W} {Sm : Sg → Sg → Prop}
variable {p : Program} {l : Launch} {e : Env} {R rm : Room} {s : State} {m : MethodId} {args : Array Value} {below : List Frame} {meth : Method} {c : Code} {H : Heap} {locs : List Loc} {cells slots : Nat} {Q : State → Prop}
variable {A : Nat → Prop} {cc bytes : ByteArray} {nL maxL idx n pc : Nat} {own : String} {y : MethodName} {ret : Option FieldType} {b : Nat} {As rest st0 : List Value} {σ σ' : Sg} {ls : Array Slot} {d0 : Drawn} {E : String}
theorem kDr {tys : List (ClassId × FieldType)} (h : va_K D vwCl tys s) (d : Drawn) : va_K D vwCl tys (s.setDrawn d) := va_K.moved (u := s) (U := s.setDrawn d) (Vm.Alike.refl s.vm) h
theorem f_free (I : sInv D tyL (fW X Wd) A s H locs σ) : ∀ q, va_A (Wd σ) H.size q → A q := app_free I.2.2.1 I.2.2.2.1 I.2.2.2.2.1
theorem f_pre (I : sInv D tyL (fW X Wd) A s H locs σ) (hK : va_K D vwCl tyc s) {av : List Value} : ∀ U : State, U.heap = H → s.WarmedH U.vm → va_Pc av (sPre D tyc Wd σ H.size) av.toArray U := fun U hU hW => ⟨rfl, by rw [hU], by rw [hU]; exact app_right I.2.1, va_K.moved hW.alike hK, (app_rightD I.2.2.1).weaken (fun _ _ _ _ => trivial), nestOK.warm hW I.2.2.2.2.2⟩
theorem f_back (I : sInv D tyL (fW X Wd) A s H locs σ) {t : State} {H1 : Heap} {locs1 : List Loc} (ht : t.heap = H1) (hB : sB D tyc Wd (va_A (Wd σ) H.size) σ' t) (hk : ∀ q : Nat, q < H.size → ¬ va_A (Wd σ) H.size q → H1[q]? = H[q]?) (hS : va_S A s.heap H1 locs1) : sInv D tyL (fW X Wd) A s H1 locs1 σ' := by
  have hP1 := hB.1
  rw [ht] at hP1
  obtain ⟨a1, a2⟩ := app_join I.2.1 I.2.2.1 hk (f_free I) hP1 hB.2.2
  exact ⟨I.1, a1, a2, hS, I.2.2.2.2⟩
theorem f_callVi {Xr : Int32 × Sg} (F : CallFix p m c cc nL s args gG own) (I : sInv D tyL (fW X Wd) A s H locs σ) (hK : va_K D vwCl tyc s) (hM : sMi D tyc Wd l y (ws1 y bytes maxL ret) rm (.ref b :: As) σ Xr) (k : kV own idx y bytes maxL ret n) (hr0 : rm.cells = 0 ∧ rm.slots = 0) (hR : rm.frames + 1 ≤ R.frames ∧ 8 + (maxL + 11) + rm.locals ≤ R.locals) (pos ci : Nat) {q : vw_C} {fs : List Value} (hc : vwCl[ci]? = some q) (hq : q.1 = y.cls) (he : (Wd σ)[pos]? = some (b, .inr (ci, fs))) (hn : As.length = n) (hst : st0 = As.reverse ++ .ref b :: rest) (hls : ls.size = nL) (hW : (rest.map fun v => v.category).sum ≤ 8) (hcs : cells ≤ R.cells ∧ slots ≤ R.slots) (d : decode cc pc = .ok (.invokevirtual idx, 3))
    (kk : ∀ (H1 : Heap) (locs1 : List Loc), sInv D tyL (fW X Wd) A s H1 locs1 Xr.2 → W p l e R (s.setDrawn d0) m args below meth c H1 locs1 cells slots Q (F0 m (pc + 3) ls (.int Xr.1 :: rest))) : W p l e R (s.setDrawn d0) m args below meth c H locs cells slots Q (F0 m pc ls st0) :=
  va_calli (va_runV (As := As) (rest := rest) (Fdr F) (hM H.size) (kV_w k (dr_words F.2.2.2.2 _) hr0.1 hr0.2 hR) ⟨sPre_blind, hq ▸ va_recv (kDr I.1 _) (app_right I.2.1) hc he, f_pre (Idr I) (kDr hK _)⟩ rfl hn hls hst (lv_room hW) d hcs) I.2.2.2.1 (fun q _ h => f_free I q h) (f_free I) (fun r u t H1 locs1 ht hvm hw hB _ hk hS => by
    obtain rfl : r = Xr.1 := congrArg Prod.fst hw
    obtain rfl : u = Xr.2 := congrArg Prod.snd hw
    exact kk H1 locs1 (f_back I ht hB hk hS))
theorem f_callVl {Xr : Int64 × Sg} (F : CallFix p m c cc nL s args gG own) (I : sInv D tyL (fW X Wd) A s H locs σ) (hK : va_K D vwCl tyc s) (hM : sMl D tyc Wd l y (ws1 y bytes maxL ret) rm (.ref b :: As) σ Xr) (k : kV own idx y bytes maxL ret n) (hr0 : rm.cells = 0 ∧ rm.slots = 0) (hR : rm.frames + 1 ≤ R.frames ∧ 8 + (maxL + 11) + rm.locals ≤ R.locals) (pos ci : Nat) {q : vw_C} {fs : List Value} (hc : vwCl[ci]? = some q) (hq : q.1 = y.cls) (he : (Wd σ)[pos]? = some (b, .inr (ci, fs))) (hn : As.length = n) (hst : st0 = As.reverse ++ .ref b :: rest) (hls : ls.size = nL) (hW : (rest.map fun v => v.category).sum ≤ 8) (hcs : cells ≤ R.cells ∧ slots ≤ R.slots) (d : decode cc pc = .ok (.invokevirtual idx, 3))
    (kk : ∀ (H1 : Heap) (locs1 : List Loc), sInv D tyL (fW X Wd) A s H1 locs1 Xr.2 → W p l e R (s.setDrawn d0) m args below meth c H1 locs1 cells slots Q (F0 m (pc + 3) ls (.long Xr.1 :: rest))) : W p l e R (s.setDrawn d0) m args below meth c H locs cells slots Q (F0 m pc ls st0) :=
  va_calll (va_runV (As := As) (rest := rest) (Fdr F) (hM H.size) (kV_w k (dr_words F.2.2.2.2 _) hr0.1 hr0.2 hR) ⟨sPre_blind, hq ▸ va_recv (kDr I.1 _) (app_right I.2.1) hc he, f_pre (Idr I) (kDr hK _)⟩ rfl hn hls hst (lv_room hW) d hcs) I.2.2.2.1 (fun q _ h => f_free I q h) (f_free I) (fun r u t H1 locs1 ht hvm hw hB _ hk hS => by
    obtain rfl : r = Xr.1 := congrArg Prod.fst hw
    obtain rfl : u = Xr.2 := congrArg Prod.snd hw
    exact kk H1 locs1 (f_back I ht hB hk hS))
theorem f_callVx {Xr : Int32 → Sg → Prop} {mc ms : Nat} (F : CallFix p m c cc nL s args gG own) (I : sInv D tyL (fW X Wd) A s H locs σ) (hK : va_K D vwCl tyc s) (hM : sMx D tyc Wd l y (ws1 y bytes maxL ret) rm (.ref b :: As) σ Xr mc ms) (k : kV own idx y bytes maxL ret n) (hr0 : rm.cells = mc ∧ rm.slots = ms) (hR : rm.frames + 1 ≤ R.frames ∧ 8 + (maxL + 11) + rm.locals ≤ R.locals) (pos ci : Nat) {q : vw_C} {fs : List Value} (hc : vwCl[ci]? = some q) (hq : q.1 = y.cls) (he : (Wd σ)[pos]? = some (b, .inr (ci, fs))) (hn : As.length = n) (hst : st0 = As.reverse ++ .ref b :: rest) (hls : ls.size = nL) (hW : (rest.map fun v => v.category).sum ≤ 8) (hcs : cells + mc ≤ R.cells ∧ slots + ms ≤ R.slots) (d : decode cc pc = .ok (.invokevirtual idx, 3))
    (kk : ∀ (r : Int32) (u : Sg) (H1 : Heap) (locs1 : List Loc), Xr r u → sInv D tyL (fW X Wd) A s H1 locs1 u → W p l e R (s.setDrawn d0) m args below meth c H1 locs1 (cells + mc) (slots + ms) Q (F0 m (pc + 3) ls (.int r :: rest))) : W p l e R (s.setDrawn d0) m args below meth c H locs cells slots Q (F0 m pc ls st0) :=
  va_calli (va_runV (As := As) (rest := rest) (Fdr F) (hM H.size) (kV_w k (dr_words F.2.2.2.2 _) hr0.1 hr0.2 hR) ⟨sPre_blind, hq ▸ va_recv (kDr I.1 _) (app_right I.2.1) hc he, f_pre (Idr I) (kDr hK _)⟩ rfl hn hls hst (lv_room hW) d hcs) I.2.2.2.1 (fun q _ h => f_free I q h) (f_free I) (fun r u t H1 locs1 ht hvm hw hB _ hk hS => kk r u H1 locs1 hw (f_back I ht hB hk hS))
theorem f_callVD {Xr : UInt64 × Sg} (F : CallFix p m c cc nL s args gG own) (hd0 : s.drawn.sameBut d0 lw_cs) (I : sInv D tyL (fW X Wd) A s H locs σ) (hs : Sm σ σ) (hK : va_K D vwCl tyc s) (hM : sDd D tyc Wd Sm l y (ws1 y bytes maxL ret) rm (.ref b :: As) σ Xr) (k : kV own idx y bytes maxL ret n) (hr0 : rm.cells = 0 ∧ rm.slots = 0) (hR : rm.frames + 1 ≤ R.frames ∧ 8 + (maxL + 11) + rm.locals ≤ R.locals) (pos ci : Nat) {q : vw_C} {fs : List Value} (hc : vwCl[ci]? = some q) (hq : q.1 = y.cls) (he : (Wd σ)[pos]? = some (b, .inr (ci, fs))) (hn : As.length = n) (hst : st0 = As.reverse ++ .ref b :: rest) (hls : ls.size = nL) (hW : (rest.map fun v => v.category).sum ≤ 8) (hcs : cells ≤ R.cells ∧ slots ≤ R.slots) (d : decode cc pc = .ok (.invokevirtual idx, 3))
    (kk : ∀ (H1 : Heap) (locs1 : List Loc) (d1 : Drawn) (u : Sg) (r : UInt64), s.drawn.sameBut d1 lw_cs → sInv D tyL (fW X Wd) A s H1 locs1 u → Sm u Xr.2 → alike64 r Xr.1 = true → W p l e R (s.setDrawn d1) m args below meth c H1 locs1 cells slots Q (F0 m (pc + 3) ls (.double r :: rest))) : W p l e R (s.setDrawn d0) m args below meth c H locs cells slots Q (F0 m pc ls st0) :=
  va_calldD hd0 (va_runV_D (As := As) (rest := rest) (Fdr F) (hM H.size σ hs) (kV_w k (dr_words F.2.2.2.2 _) hr0.1 hr0.2 hR) ⟨sPre_blind, hq ▸ va_recv (kDr I.1 _) (app_right I.2.1) hc he, f_pre (Idr I) (kDr hK _)⟩ rfl hn hls hst (lv_room hW) d hcs) I.2.2.2.1 (fun q _ h => f_free I q h) (f_free I) (fun r u t H1 locs1 ht hvm hw hB _ hk hS d1 hd1 => kk H1 locs1 d1 u r hd1 (f_back I ht hB hk hS) hw.2 hw.1)
theorem f_callVL {Xr : Int64 × Sg} (F : CallFix p m c cc nL s args gG own) (hd0 : s.drawn.sameBut d0 lw_cs) (I : sInv D tyL (fW X Wd) A s H locs σ) (hs : Sm σ σ) (hK : va_K D vwCl tyc s) (hM : sDl D tyc Wd Sm l y (ws1 y bytes maxL ret) rm (.ref b :: As) σ Xr) (k : kV own idx y bytes maxL ret n) (hr0 : rm.cells = 0 ∧ rm.slots = 0) (hR : rm.frames + 1 ≤ R.frames ∧ 8 + (maxL + 11) + rm.locals ≤ R.locals) (pos ci : Nat) {q : vw_C} {fs : List Value} (hc : vwCl[ci]? = some q) (hq : q.1 = y.cls) (he : (Wd σ)[pos]? = some (b, .inr (ci, fs))) (hn : As.length = n) (hst : st0 = As.reverse ++ .ref b :: rest) (hls : ls.size = nL) (hW : (rest.map fun v => v.category).sum ≤ 8) (hcs : cells ≤ R.cells ∧ slots ≤ R.slots) (d : decode cc pc = .ok (.invokevirtual idx, 3))
    (kk : ∀ (H1 : Heap) (locs1 : List Loc) (d1 : Drawn) (u : Sg), s.drawn.sameBut d1 lw_cs → sInv D tyL (fW X Wd) A s H1 locs1 u → Sm u Xr.2 → W p l e R (s.setDrawn d1) m args below meth c H1 locs1 cells slots Q (F0 m (pc + 3) ls (.long Xr.1 :: rest))) : W p l e R (s.setDrawn d0) m args below meth c H locs cells slots Q (F0 m pc ls st0) :=
  va_calllD hd0 (va_runV_D (As := As) (rest := rest) (Fdr F) (hM H.size σ hs) (kV_w k (dr_words F.2.2.2.2 _) hr0.1 hr0.2 hR) ⟨sPre_blind, hq ▸ va_recv (kDr I.1 _) (app_right I.2.1) hc he, f_pre (Idr I) (kDr hK _)⟩ rfl hn hls hst (lv_room hW) d hcs) I.2.2.2.1 (fun q _ h => f_free I q h) (f_free I) (fun r u t H1 locs1 ht hvm hw hB _ hk hS d1 hd1 => by
    obtain rfl : r = Xr.1 := hw.1
    exact kk H1 locs1 d1 u hd1 (f_back I ht hB hk hS) hw.2)
/-- a call that surely throws: what is thrown hangs over the caller's frame -/
theorem f_callVX (F : CallFix p m c cc nL s args gG own) (I : sInv D tyL (fW X Wd) A s H locs σ) (hK : va_K D vwCl tyc s) (hX : xOK A s s.heap) (hM : sX D tyc Wd l y (ws1 y bytes maxL ret) rm (.ref b :: As) σ σ' E) (k : kV own idx y bytes maxL ret n) (hr0 : rm.cells = 1 ∧ rm.slots = 6) (hR : rm.frames + 1 ≤ R.frames ∧ 8 + (maxL + 11) + rm.locals ≤ R.locals) (pos ci : Nat) {q : vw_C} {fs : List Value} (hc : vwCl[ci]? = some q) (hq : q.1 = y.cls) (he : (Wd σ)[pos]? = some (b, .inr (ci, fs))) (hn : As.length = n) (hst : st0 = As.reverse ++ .ref b :: rest) (hls : ls.size = nL) (hW : (rest.map fun v => v.category).sum ≤ 8) (hcs : cells + 1 ≤ R.cells ∧ slots + 6 ≤ R.slots) (d : decode cc pc = .ok (.invokevirtual idx, 3))
    (kx : ∀ (ce : Cell) (q9 : Addr) (H1 : Heap) (locs1 : List Loc), sInv D tyL (fW X Wd) A s H1 locs1 σ' → H1[q9]? = some ce → ce.vm = .none → s.vm.findClass E = some ce.cls → vx_W p l e R (s.setDrawn d0) m args below meth c H1 locs1 (cells + 1) (slots + 6) Q (F0 m pc ls rest) q9) : W p l e R (s.setDrawn d0) m args below meth c H locs cells slots Q (F0 m pc ls st0) := by
  intro T hT Xs
  have hX9 : xOK (va_A (Wd σ) H.size) (s.setDrawn d0) H := xOK.same (s := s) (U := s.setDrawn d0) rfl ((hX.kept (fun a h1 h2 => I.2.2.2.1.2.1 a h1 h2)).narrow (f_free I))
  rcases vx_runV (As := As) (rest := rest) (g := F0 m pc ls st0) (locs := locs) (cells := cells) (slots := slots) (below := below) (meth := meth) (e := e) (Fdr (d := d0) F) (hM H.size) (kV_w k (dr_words F.2.2.2.2 _) hr0.1 hr0.2 hR) ⟨xPre_blind, hq ▸ va_recv (kDr I.1 _) (app_right I.2.1) hc he, fun U hU hW => ⟨f_pre (Idr I) (kDr hK _) U hU hW, by rw [hU]; exact hX9.warm hW⟩⟩ rfl hn hls hst (lv_room hW) d hcs T hT Xs with ⟨v, st₀, t, T', L, h0, X', hL, e1, e2, hq, st⟩ | ⟨q, st₀, t, T', L, E', ce, h0, X', hL, e1, e2, ⟨u, hp, ⟨hE, hB⟩, hF⟩, hce, hcv, hcl, st⟩
  · exact hq.elim
  · obtain ⟨k1, k2, k3⟩ := vx_keep h0 e1 I.2.2.2.1 (fun q _ h => f_free I q h) (f_free I) hL hF
    obtain ⟨t2, a1, b1⟩ := kx ce q T'.heap (locs ++ L) (f_back I (t := t) e1.symm hB k2 k3) (by rw [e1]; exact hce) hcv (hE ▸ hcl) T' rfl X'
    exact ⟨t2, st.trans a1, b1⟩
end FCon
/-! a wrapper: a static method with handlers, over the class's cells and one out array -/
abbrev ws2 (y : MethodName) (b : ByteArray) (n : Nat) (r : Option FieldType) (hh : List (Nat × Nat × Nat × Nat)) : List Cond := .codeWith y b n r hh :: gG
def wM (D : va_G) (tys : List (ClassId × FieldType)) {Sg : Type} (Wd : Sg → va_W) (l : Launch) (y : MethodName) (ws : List Cond) (rm : Room) (av : List Value) (σ : Sg) (Ψ : Int32 → Sg → Prop) : Prop := ∀ sz : Nat, MetD lw_cs l y ws rm (fun a U => va_Pc av (sPre D tys Wd σ sz) a U ∧ yOK (va_A (Wd σ) sz) U U.heap) (va_Qi Ψ (sB D tys Wd (va_A (Wd σ) sz)) (va_A (Wd σ) sz)) 2 58 (va_A (Wd σ) sz)
abbrev kSW (own : String) (idx : Nat) (y : MethodName) (b : ByteArray) (maxL : Nat) (ret : Option FieldType) (hh : List (Nat × Nat × Nat × Nat)) (n : Nat) : Prop := (Cond.methodLink own idx y ∈ gG ∧ Cond.static y ∈ gG ∧ Cond.initialized y.cls ∈ gG ∧ Cond.codeWith y b maxL ret hh ∈ gG) ∧ y.cls ≠ "java/lang/invoke/MethodHandle" ∧ y.cls ≠ "java/lang/invoke/VarHandle" ∧ (parseMethodDescriptor y.desc).map (fun d => d.parameters.length) = some n
section WCon
variable {D : va_G} {tyL tyc : List (ClassId × FieldType)} {Sg : Type} {Wd : Sg → va_W} {X : va_W}
theorem yPre_blind {σ : Sg} {sz : Nat} {av : List Value} : FrameBlind (fun a U => va_Pc av (sPre D tyc Wd σ sz) a U ∧ yOK (va_A (Wd σ) sz) U U.heap) := fun a U g mk q => ⟨sPre_blind a U g mk q.1, yOK.same (s := U) rfl q.2⟩
theorem wM_of {l : Launch} {y : MethodName} {cc : ByteArray} {maxL : Nat} {hh : List (Nat × Nat × Nat × Nat)} {rm : Room} {av : List Value} {σ : Sg} {Ψ : Int32 → Sg → Prop} (hy : plainName y.cls = true) (hn : (lg_sl av).length ≤ maxL)
    (body : ∀ (p : Program) (e : Env) (R : Room) (s : State) (m : MethodId) (args : Array Value) (below : List Frame) (meth : Method) (c : Code) (A : Nat → Prop) (Q : State → Prop) (ls : Array Slot),
      CallFix p m c cc maxL s args gG y.cls → rm.frames ≤ R.frames → rm.locals ≤ R.locals → rm.cells ≤ R.cells → rm.slots ≤ R.slots → c.exceptionTable.toList = tableOf hh → sInv D tyc Wd A s s.heap [] σ → yOK A s s.heap → lv_has ls maxL (lv_args 0 av) →
      (∀ (H : Heap) (locs : List Loc) (pc : Nat) (ls : Array Slot) (d : Drawn) (σ' : Sg) (r : Int32), s.drawn.sameBut d lw_cs → sInv D tyc Wd A s H locs σ' → Ψ r σ' → decode cc pc = .ok (.ireturn, 1) → W p l e R (s.setDrawn d) m args below meth c H locs 2 58 Q (F0 m pc ls [.int r])) →
      W p l e R (s.setDrawn s.drawn) m args below meth c s.heap [] 0 0 Q (F0 m 0 ls [])) : wM D tyc Wd l y (ws2 y cc maxL (some .int) hh) rm av σ Ψ := by
  intro sz
  refine mdW_of (cc := cc) (maxL := maxL) (ret := some .int) (hh := hh) hy rfl ?_
  intro p e s m args below meth c s₁ B hml hv
  obtain ⟨⟨rfl, hv⟩, hY⟩ := hv
  have hsz := hv.1
  subst hsz
  have hts := atoms_spec (ws := ws2 y cc maxL (some .int) hh) B.pre
  have hl := lv_entry av (n := maxL) hn
  have hlk : meth.locks = false := B.notSynchronized
  rw [lg_entry_eq]
  refine body p e _ s m _ below meth c (va_A (Wd σ) s.heap.size) _ _ ⟨B.exec, B.bytes, hml, findClass_of_methodNamed B.named, fun w h => hts w (List.mem_cons_of_mem _ h)⟩ (Nat.le_refl _) (Nat.le_refl _) (Nat.le_refl _) (Nat.le_refl _) (vx_table (x := y) B (hts _ List.mem_cons_self)) (sInv_entry hv) hY hl (fun H locs pc ls d σ' r hd I hΨ dd => ?_)
  refine W.endD hd ?_
  exact W.zret B.exec B.bytes B.returns rfl (fun t ht hW => ⟨⟨r, σ', rfl, hΨ, by rw [ht]; exact I.2.1, va_K.moved (u := s.setDrawn d) hW.alike (Idr I).1, I.2.2.1⟩, I.2.2.2.1.F ht⟩) I.2.2.2.1.2.2 dd hlk
variable {p : Program} {l : Launch} {e : Env} {R rm : Room} {s : State} {m : MethodId} {args : Array Value} {below : List Frame} {meth : Method} {c : Code} {H : Heap} {locs : List Loc} {cells slots : Nat} {Q : State → Prop}
variable {A : Nat → Prop} {cc bytes : ByteArray} {nL maxL idx n pc : Nat} {own : String} {y : MethodName} {ret : Option FieldType} {hh : List (Nat × Nat × Nat × Nat)} {As rest st0 : List Value} {σ : Sg} {ls : Array Slot} {d0 : Drawn} {Ψ : Int32 → Sg → Prop}
theorem f_callSW (F : CallFix p m c cc nL s args gG own) (hd0 : s.drawn.sameBut d0 lw_cs) (I : sInv D tyL (fW X Wd) A s H locs σ) (hK : va_K D vwCl tyc s) (hY : yOK A s s.heap) (hM : wM D tyc Wd l y (ws2 y bytes maxL ret hh) rm As σ Ψ) (k : kSW own idx y bytes maxL ret hh n) (hr0 : rm.cells = 2 ∧ rm.slots = 58) (hR : rm.frames + 1 ≤ R.frames ∧ 8 + (maxL + 11) + rm.locals ≤ R.locals) (hn : As.length = n) (hst : st0 = As.reverse ++ rest) (hls : ls.size = nL) (hW : (rest.map fun v => v.category).sum ≤ 8) (hcs : cells + 2 ≤ R.cells ∧ slots + 58 ≤ R.slots) (d : decode cc pc = .ok (.invokestatic idx, 3))
    (kk : ∀ (H1 : Heap) (locs1 : List Loc) (d1 : Drawn) (r : Int32) (u : Sg), s.drawn.sameBut d1 lw_cs → sInv D tyL (fW X Wd) A s H1 locs1 u → Ψ r u → W p l e R (s.setDrawn d1) m args below meth c H1 locs1 (cells + 2) (slots + 58) Q (F0 m (pc + 3) ls (.int r :: rest))) : W p l e R (s.setDrawn d0) m args below meth c H locs cells slots Q (F0 m pc ls st0) := by
  have hY9 : yOK (va_A (Wd σ) H.size) (s.setDrawn d0) H := yOK.same (s := s) (U := s.setDrawn d0) rfl ((hY.kept (fun a h1 h2 => I.2.2.2.1.2.1 a h1 h2)).narrow (f_free I))
  have hg : GoodIn gG (va_wsS own idx y (ws2 y bytes maxL ret hh)) := fun w hw => by
    have hm : w ∈ gG := by
      rcases List.mem_append.mp hw with h | h
      · simp only [List.mem_cons, List.not_mem_nil, or_false] at h
        rcases h with rfl | rfl | rfl
        · exact k.1.1
        · exact k.1.2.1
        · exact k.1.2.2.1
      · rcases List.mem_cons.mp h with rfl | h
        · exact k.1.2.2.2
        · exact h
    exact ⟨hm, gG_good hm⟩
  exact va_calliD hd0 (mdW_run (As := As) (rest := rest) (Fdr F) (hM H.size) (vx_cwSW n (dr_words F.2.2.2.2 _) hg rfl hr0.1 hr0.2 k.2 hR) ⟨yPre_blind, fun U hU hW => ⟨f_pre (Idr I) (kDr hK _) U hU hW, by rw [hU]; exact hY9.warm hW⟩⟩ rfl hn hls hst (lv_room hW) d hcs) I.2.2.2.1 (fun q _ h => f_free I q h) (f_free I) (fun r u t H1 locs1 ht hvm hw hB _ hk hS d1 hd1 => kk H1 locs1 d1 r u hd1 (f_back I ht hB hk hS) hw)
end WCon
