/-! METHODS THAT SURELY THROW: one cell more; the world σ' that they leave -/
abbrev xQ (D : va_G) (tys : List (ClassId × FieldType)) {Sg : Type} (Wd : Sg → va_W) (σ : Sg) (E : String) (A : Nat → Prop) (below : List Frame) (args : Array Value) (s : State) : State → Prop := vx_MQ below (fun _ _ _ _ => False) (vx_X (fun _ : Unit => True) (fun E' _ t => E' = E ∧ sB D tys Wd A σ t) A) args s 1 6 A
def sX (D : va_G) (tys : List (ClassId × FieldType)) {Sg : Type} (Wd : Sg → va_W) (l : Launch) (y : MethodName) (ws : List Cond) (rm : Room) (av : List Value) (σ σ' : Sg) (E : String) : Prop := ∀ sz : Nat, vx_Met l y ws rm (fun a U => va_Pc av (sPre D tys Wd σ sz) a U ∧ xOK (va_A (Wd σ) sz) U U.heap) (fun _ _ _ _ => False) (vx_X (fun _ : Unit => True) (fun E' _ t => E' = E ∧ sB D tys Wd (va_A (Wd σ) sz) σ' t) (va_A (Wd σ) sz)) 1 6 (va_A (Wd σ) sz)
section XCon
variable {D : va_G} {tys : List (ClassId × FieldType)} {Sg : Type} {Wd : Sg → va_W}
theorem xPre_blind {σ : Sg} {sz : Nat} {av : List Value} : FrameBlind (fun a U => va_Pc av (sPre D tys Wd σ sz) a U ∧ xOK (va_A (Wd σ) sz) U U.heap) := fun a U g mk q => ⟨sPre_blind a U g mk q.1, xOK.same (s := U) rfl q.2⟩
theorem sX_of {l : Launch} {y : MethodName} {cc : ByteArray} {maxL : Nat} {ret : Option FieldType} {rm : Room} {av : List Value} {σ σ' : Sg} {E : String} (hy : plainName y.cls = true) (hn : (lg_sl av).length ≤ maxL)
    (body : ∀ (p : Program) (e : Env) (R : Room) (s : State) (m : MethodId) (args : Array Value) (below : List Frame) (meth : Method) (c : Code) (A : Nat → Prop) (ls : Array Slot),
      CallFix p m c cc maxL s args gG y.cls → rm.frames ≤ R.frames → rm.locals ≤ R.locals → rm.cells ≤ R.cells → rm.slots ≤ R.slots → (∀ x ∈ c.exceptionTable.toList, False) → meth.locks = false → sInv D tys Wd A s s.heap [] σ → xOK A s s.heap → lv_has ls maxL (lv_args 0 av) →
      W p l e R s m args below meth c s.heap [] 0 0 (xQ D tys Wd σ' E A below args s) (F0 m 0 ls [])) : sX D tys Wd l y (ws1 y cc maxL ret) rm av σ σ' E := by
  intro sz
  refine vx_ofW (cc := cc) (maxL := maxL) (ret := ret) hy rfl ?_
  intro p e s m args below meth c s₁ B hml htab hv
  obtain ⟨⟨rfl, hv⟩, hX⟩ := hv
  have hsz := hv.1
  subst hsz
  have hts := atoms_spec (ws := ws1 y cc maxL ret) B.pre
  have hl := lv_entry av (n := maxL) hn
  rw [lg_entry_eq]
  exact body p e _ s m _ below meth c (va_A (Wd σ) s.heap.size) _ ⟨B.exec, B.bytes, hml, findClass_of_methodNamed B.named, fun w h => hts w (List.mem_cons_of_mem _ h)⟩ (Nat.le_refl _) (Nat.le_refl _) (Nat.le_refl _) (Nat.le_refl _) htab B.notSynchronized (sInv_entry hv) hX hl
variable {p : Program} {l : Launch} {e : Env} {R rm : Room} {s : State} {m : MethodId} {args : Array Value} {below : List Frame} {meth : Method} {c : Code} {H : Heap} {locs : List Loc}
variable {A : Nat → Prop} {cc bytes : ByteArray} {nL maxL idx n pc : Nat} {own : String} {y : MethodName} {ret : Option FieldType} {b : Nat} {As rest st0 : List Value} {σ σ' : Sg} {ls : Array Slot} {E : String}
theorem x_post (I : sInv D tys Wd A s H locs σ) {t : State} (hvm : s.vm.Alike t.vm) (hz : H.size ≤ t.heap.size) (hk : ∀ q : Nat, q < H.size → t.heap[q]? = H[q]?) : vx_X (fun _ : Unit => True) (fun E' _ t => E' = E ∧ sB D tys Wd A σ t) A E s t :=
  ⟨(), trivial, ⟨rfl, fun k q hq => (I.2.1 k q hq).kept (hk q.1 (I.2.1 k q hq).lt), va_K.moved hvm I.1, I.2.2.1⟩, Nat.le_trans I.2.2.2.1.1 hz, fun q h1 h2 => (hk q (Nat.lt_of_lt_of_le h1 I.2.2.2.1.1)).trans (I.2.2.2.1.2.1 q h1 h2)⟩
theorem x_here (I : sInv D tys Wd A s H locs σ) (hX : xOK A s s.heap) : xOK (va_A (Wd σ) H.size) s H :=
  (hX.kept (fun a h1 h2 => I.2.2.2.1.2.1 a h1 h2)).narrow (sInv_free I)
theorem x_run (I : sInv D tys Wd A s H locs σ) (htab : ∀ x ∈ c.exceptionTable.toList, False) (hlocks : meth.locks = false)
    (hr : vx_Run p l e R s m args below meth c H locs 0 0 1 6 (F0 m pc ls st0) rest (fun _ _ _ => False) (vx_X (fun _ : Unit => True) (fun E' _ t => E' = E ∧ sB D tys Wd (va_A (Wd σ) H.size) σ' t) (va_A (Wd σ) H.size)) (va_A (Wd σ) H.size)) : W p l e R s m args below meth c H locs 0 0 (xQ D tys Wd σ' E A below args s) (F0 m pc ls st0) := by
  intro T hT X
  rcases hr T hT X with ⟨v, st₀, t, T', L, h0, X', hL, e1, e2, hq, st⟩ | ⟨q, st₀, t, T', L, E', ce, h0, X', hL, e1, e2, ⟨u, hp, ⟨hE, hB⟩, hF⟩, hce, hcv, hcl, st⟩
  · exact hq.elim
  · obtain ⟨k1, k2, k3⟩ := vx_keep h0 e1 I.2.2.2.1 (fun q _ h => sInv_free I q h) (sInv_free I) hL hF
    obtain ⟨t2, a1, b1⟩ := vx_out (E := E') (ce := ce) (Qc := fun _ _ _ _ => False) (XC := vx_X (fun _ : Unit => True) (fun E' _ t => E' = E ∧ sB D tys Wd A σ' t) A) (free := A) (mc := 1) (ms := 6) (fun x hx => (htab x hx).elim) hlocks (by rw [e1]; exact hce) hcv hcl
      (fun t9 h9 hvm => ⟨(), trivial, ⟨hE, by rw [h9, e1]; exact hB.1, va_K.moved hvm I.1, hB.2.2.weaken (fun k q _ h => sInv_free I q.1 h)⟩, by rw [h9]; exact k3.1, fun q h1 h2 => by rw [h9]; exact k3.2.1 q h1 h2⟩) k3.2.2 (Nat.le_refl _) (Nat.le_refl _) T' rfl X'
    exact ⟨t2, st.trans a1, b1⟩
theorem x_callS (F : CallFix p m c cc nL s args gG own) (I : sInv D tys Wd A s H locs σ) (hX : xOK A s s.heap) (htab : ∀ x ∈ c.exceptionTable.toList, False) (hlocks : meth.locks = false) (hM : sX D tys Wd l y (ws1 y bytes maxL ret) rm As σ σ' E) (k : kS own idx y bytes maxL ret n) (hr0 : rm.cells = 1 ∧ rm.slots = 6) (hR : rm.frames + 1 ≤ R.frames ∧ 8 + (maxL + 11) + rm.locals ≤ R.locals) (hn : As.length = n) (hst : st0 = As.reverse ++ rest) (hls : ls.size = nL) (hW : (rest.map fun v => v.category).sum ≤ 8) (hcs : 0 + 1 ≤ R.cells ∧ 0 + 6 ≤ R.slots) (d : decode cc pc = .ok (.invokestatic idx, 3)) : W p l e R s m args below meth c H locs 0 0 (xQ D tys Wd σ' E A below args s) (F0 m pc ls st0) :=
  x_run I htab hlocks (vx_runS (As := As) (rest := rest) F (hM H.size) (kS_w k F.2.2.2.2 hr0.1 hr0.2 hR) ⟨xPre_blind, fun U hU hW => ⟨sInv_pre I U hU hW, by rw [hU]; exact (x_here I hX).warm hW⟩⟩ rfl hn hls hst (lv_room hW) d hcs)
theorem x_callV (F : CallFix p m c cc nL s args gG own) (I : sInv D tys Wd A s H locs σ) (hX : xOK A s s.heap) (htab : ∀ x ∈ c.exceptionTable.toList, False) (hlocks : meth.locks = false) (hM : sX D tys Wd l y (ws1 y bytes maxL ret) rm (.ref b :: As) σ σ' E) (k : kV own idx y bytes maxL ret n) (hr0 : rm.cells = 1 ∧ rm.slots = 6) (hR : rm.frames + 1 ≤ R.frames ∧ 8 + (maxL + 11) + rm.locals ≤ R.locals) (pos ci : Nat) {q : vw_C} {fs : List Value} (hc : vwCl[ci]? = some q) (hq : q.1 = y.cls) (he : (Wd σ)[pos]? = some (b, .inr (ci, fs))) (hn : As.length = n) (hst : st0 = As.reverse ++ .ref b :: rest) (hls : ls.size = nL) (hW : (rest.map fun v => v.category).sum ≤ 8) (hcs : 0 + 1 ≤ R.cells ∧ 0 + 6 ≤ R.slots) (d : decode cc pc = .ok (.invokevirtual idx, 3)) : W p l e R s m args below meth c H locs 0 0 (xQ D tys Wd σ' E A below args s) (F0 m pc ls st0) :=
  x_run I htab hlocks (vx_runV (As := As) (rest := rest) F (hM H.size) (kV_w k F.2.2.2.2 hr0.1 hr0.2 hR) ⟨xPre_blind, hq ▸ va_recv I.1 I.2.1 hc he, fun U hU hW => ⟨sInv_pre I U hU hW, by rw [hU]; exact (x_here I hX).warm hW⟩⟩ rfl hn hls hst (lv_room hW) d hcs)
end XCon
