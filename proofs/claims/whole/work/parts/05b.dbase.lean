/-! DOUBLES: what a run may draw is which NaN it makes; contracts speak of numbers up to that ('alike64') -/
theorem dec_nan {b : UInt64} (h : isNaN64 b = true) : FP.Core.decode FP.Core.b64 b.toNat = .nan := by
  rw [isNaN64_iff] at h
  have h63 : b.toNat &&& 0x7fffffffffffffff = b.toNat % 2 ^ 63 := Nat.and_two_pow_sub_one_eq_mod b.toNat 63
  rw [h63] at h
  have hT : FP.Core.fieldT FP.Core.b64 b.toNat = b.toNat % 4503599627370496 := rfl
  have hE : FP.Core.fieldE FP.Core.b64 b.toNat = b.toNat / 4503599627370496 % 2048 := rfl
  have hX : FP.Core.b64.exps - 1 = 2047 := rfl
  unfold FP.Core.decode
  rw [hT, hE, hX]
  rw [if_pos (by omega), if_neg (by omega)]
theorem al_dec {x y : UInt64} (h : alike64 x y = true) : FP.Core.decode FP.Core.b64 x.toNat = FP.Core.decode FP.Core.b64 y.toNat := by
  simp only [alike64, Bool.or_eq_true, decide_eq_true_eq, Bool.and_eq_true] at h
  rcases h with h | ⟨h1, h2⟩
  · rw [h]
  · rw [dec_nan h1, dec_nan h2]
theorem al_rf (x : UInt64) : alike64 x x = true := alike64_refl x
theorem al_dadd {r x y a b : UInt64} (h : alike64 r (FP.dadd x y) = true) (hx : alike64 x a = true) (hy : alike64 y b = true) : alike64 r (FP.dadd a b) = true := by
  have e : FP.dadd x y = FP.dadd a b := by show FP.Core.dadd x y = FP.Core.dadd a b; unfold FP.Core.dadd FP.Core.add; rw [al_dec hx, al_dec hy]
  rw [← e]; exact h
theorem al_dsub {r x y a b : UInt64} (h : alike64 r (FP.dsub x y) = true) (hx : alike64 x a = true) (hy : alike64 y b = true) : alike64 r (FP.dsub a b) = true := by
  have e : FP.dsub x y = FP.dsub a b := by show FP.Core.dsub x y = FP.Core.dsub a b; unfold FP.Core.dsub FP.Core.sub; rw [al_dec hx, al_dec hy]
  rw [← e]; exact h
theorem al_dmul {r x y a b : UInt64} (h : alike64 r (FP.dmul x y) = true) (hx : alike64 x a = true) (hy : alike64 y b = true) : alike64 r (FP.dmul a b) = true := by
  have e : FP.dmul x y = FP.dmul a b := by show FP.Core.dmul x y = FP.Core.dmul a b; unfold FP.Core.dmul FP.Core.mul; rw [al_dec hx, al_dec hy]
  rw [← e]; exact h
theorem al_ddiv {r x y a b : UInt64} (h : alike64 r (FP.ddiv x y) = true) (hx : alike64 x a = true) (hy : alike64 y b = true) : alike64 r (FP.ddiv a b) = true := by
  have e : FP.ddiv x y = FP.ddiv a b := by show FP.Core.ddiv x y = FP.Core.ddiv a b; unfold FP.Core.ddiv FP.Core.div; rw [al_dec hx, al_dec hy]
  rw [← e]; exact h
theorem al_dcmp {x y a b : UInt64} (hx : alike64 x a = true) (hy : alike64 y b = true) : FP.dcmp x y = FP.dcmp a b := by
  show FP.Core.dcmp x y = FP.Core.dcmp a b
  unfold FP.Core.dcmp FP.Core.cmp
  rw [al_dec hx, al_dec hy]
theorem al_d2l {x a : UInt64} (hx : alike64 x a = true) : FP.d2l x = FP.d2l a := by
  show FP.Core.d2l x = FP.Core.d2l a
  unfold FP.Core.d2l
  rw [al_dec hx]
def alikeM (a b : Nat → Nat → UInt64) : Prop := ∀ k j, alike64 (a k j) (b k j) = true
theorem alikeM_rf (a : Nat → Nat → UInt64) : alikeM a a := fun _ _ => al_rf _
theorem al_wr {a b : Nat → Nat → UInt64} {k : Nat} {i : Int32} {x y : UInt64} (h : alikeM a b) (hx : alike64 x y = true) : alikeM (wr a k i x) (wr b k i y) := by
  intro k' j
  unfold wr va_up
  by_cases h1 : k' = k
  · simp only [if_pos h1]
    by_cases h2 : j = i.toNatClampNeg
    · simp only [if_pos h2]; exact hx
    · simp only [if_neg h2]; exact h _ _
  · simp only [if_neg h1]; exact h _ _
theorem al_eq {a b x : UInt64} (e : b = a) (h : alike64 a x = true) : alike64 b x = true := by rw [e]; exact h
theorem al_eq2 {a x y : UInt64} (e : y = x) (h : alike64 a x = true) : alike64 a y = true := by rw [e]; exact h
theorem alM_eq {a b c d : Nat → Nat → UInt64} (e1 : a = b) (e2 : c = d) (h : alikeM b d) : alikeM a c := by rw [e1, e2]; exact h
section DCon
variable {D : va_G} {tys : List (ClassId × FieldType)} {Sg : Type} {Wd : Sg → va_W} {Sm : Sg → Sg → Prop}
def sDi (D : va_G) (tys : List (ClassId × FieldType)) {Sg : Type} (Wd : Sg → va_W) (Sm : Sg → Sg → Prop) (l : Launch) (y : MethodName) (ws : List Cond) (rm : Room) (av : List Value) (σ : Sg) (X : Int32 × Sg) : Prop := ∀ (sz : Nat) (σm : Sg), Sm σm σ → MetD lw_cs l y ws rm (va_Pc av (sPre D tys Wd σm sz)) (va_Qi (fun (r : Int32) (u : Sg) => r = X.1 ∧ Sm u X.2) (sB D tys Wd (va_A (Wd σm) sz)) (va_A (Wd σm) sz)) 0 0 (va_A (Wd σm) sz)
def sDl (D : va_G) (tys : List (ClassId × FieldType)) {Sg : Type} (Wd : Sg → va_W) (Sm : Sg → Sg → Prop) (l : Launch) (y : MethodName) (ws : List Cond) (rm : Room) (av : List Value) (σ : Sg) (X : Int64 × Sg) : Prop := ∀ (sz : Nat) (σm : Sg), Sm σm σ → MetD lw_cs l y ws rm (va_Pc av (sPre D tys Wd σm sz)) (va_Ql (fun (r : Int64) (u : Sg) => r = X.1 ∧ Sm u X.2) (sB D tys Wd (va_A (Wd σm) sz)) (va_A (Wd σm) sz)) 0 0 (va_A (Wd σm) sz)
def sDd (D : va_G) (tys : List (ClassId × FieldType)) {Sg : Type} (Wd : Sg → va_W) (Sm : Sg → Sg → Prop) (l : Launch) (y : MethodName) (ws : List Cond) (rm : Room) (av : List Value) (σ : Sg) (X : UInt64 × Sg) : Prop := ∀ (sz : Nat) (σm : Sg), Sm σm σ → MetD lw_cs l y ws rm (va_Pc av (sPre D tys Wd σm sz)) (va_Qd (fun (r : UInt64) (u : Sg) => alike64 r X.1 = true ∧ Sm u X.2) (sB D tys Wd (va_A (Wd σm) sz)) (va_A (Wd σm) sz)) 0 0 (va_A (Wd σm) sz)
def sDv (D : va_G) (tys : List (ClassId × FieldType)) {Sg : Type} (Wd : Sg → va_W) (Sm : Sg → Sg → Prop) (l : Launch) (y : MethodName) (ws : List Cond) (rm : Room) (av : List Value) (σ : Sg) (X : Sg) : Prop := ∀ (sz : Nat) (σm : Sg), Sm σm σ → MetD lw_cs l y ws rm (va_Pc av (sPre D tys Wd σm sz)) (va_Qv (fun (u : Sg) => Sm u X) (sB D tys Wd (va_A (Wd σm) sz)) (va_A (Wd σm) sz)) 0 0 (va_A (Wd σm) sz)
theorem Fdr {p : Program} {m : MethodId} {c : Code} {cc : ByteArray} {nL : Nat} {s : State} {args : Array Value} {own : String} {d : Drawn} (F : CallFix p m c cc nL s args gG own) : CallFix p m c cc nL (s.setDrawn d) args gG own := ⟨F.1, F.2.1, F.2.2.1, F.2.2.2.1, dr_words F.2.2.2.2 d⟩
theorem Idr {A : Nat → Prop} {s : State} {H : Heap} {locs : List Loc} {σ : Sg} {d : Drawn} (I : sInv D tys Wd A s H locs σ) : sInv D tys Wd A (s.setDrawn d) H locs σ := ⟨va_K.moved (u := s) (U := s.setDrawn d) (Vm.Alike.refl s.vm) I.1, I.2.1, I.2.2.1, I.2.2.2.1, I.2.2.2.2.1, nestOK.same (u := s) (U := s.setDrawn d) rfl I.2.2.2.2.2⟩
theorem Irr {A : Nat → Prop} {s : State} {H : Heap} {locs : List Loc} {σ : Sg} {d : Drawn} (I : sInv D tys Wd A (s.setDrawn d) H locs σ) : sInv D tys Wd A s H locs σ := ⟨va_K.moved (u := s.setDrawn d) (U := s) (Vm.Alike.refl s.vm) I.1, I.2.1, I.2.2.1, I.2.2.2.1, I.2.2.2.2.1, nestOK.same (u := s.setDrawn d) (U := s) rfl I.2.2.2.2.2⟩
theorem sDd_of {l : Launch} {y : MethodName} {cc : ByteArray} {maxL : Nat} {rm : Room} {av : List Value} {σ : Sg} {X : UInt64 × Sg} (hy : plainName y.cls = true) (hn : (lg_sl av).length ≤ maxL)
    (body : ∀ (p : Program) (e : Env) (R : Room) (s : State) (m : MethodId) (args : Array Value) (below : List Frame) (meth : Method) (c : Code) (A : Nat → Prop) (Q : State → Prop) (ls : Array Slot) (H0 : Heap) (locs0 : List Loc) (d0 : Drawn) (σm : Sg),
      CallFix p m c cc maxL s args gG y.cls → rm.frames ≤ R.frames → rm.locals ≤ R.locals → s.drawn.sameBut d0 lw_cs → Sm σm σ → sInv D tys Wd A s H0 locs0 σm → lv_has ls maxL (lv_args 0 av) →
      (∀ (H : Heap) (locs : List Loc) (pc : Nat) (ls : Array Slot) (d : Drawn) (σ' : Sg) (r : UInt64), s.drawn.sameBut d lw_cs → sInv D tys Wd A s H locs σ' → Sm σ' X.2 → alike64 r X.1 = true → decode cc pc = .ok (.dreturn, 1) → W p l e R (s.setDrawn d) m args below meth c H locs 0 0 Q (F0 m pc ls [.double r])) →
      W p l e R (s.setDrawn d0) m args below meth c H0 locs0 0 0 Q (F0 m 0 ls [])) : sDd D tys Wd Sm l y (ws1 y cc maxL (some .double)) rm av σ X := by
  intro sz σm hs
  refine MetD.ofW (cc := cc) (maxL := maxL) (ret := some .double) hy rfl ?_
  intro p e s m args below meth c s₁ B hml hv hd0
  obtain ⟨rfl, hv⟩ := hv
  have hsz := hv.1
  subst hsz
  have hts := atoms_spec (ws := ws1 y cc maxL (some .double)) B.pre
  have hl := lv_entry av (n := maxL) hn
  have hlk : meth.locks = false := B.notSynchronized
  rw [lg_entry_eq]
  refine body p e _ s m _ below meth c (va_A (Wd σm) s.heap.size) _ _ s.heap [] s.drawn σm ⟨B.exec, B.bytes, hml, findClass_of_methodNamed B.named, fun w h => hts w (List.mem_cons_of_mem _ h)⟩ (Nat.le_refl _) (Nat.le_refl _) hd0 hs (sInv_entry hv) hl (fun H locs pc ls d σ' r hd I hs' hr dd => ?_)
  refine W.endD hd ?_
  exact W.dret B.exec B.bytes B.returns (fun t ht hW => ⟨⟨r, σ', rfl, ⟨hr, hs'⟩, by rw [ht]; exact I.2.1, va_K.moved (u := s.setDrawn d) hW.alike (Idr I).1, I.2.2.1⟩, I.2.2.2.1.F ht⟩) I.2.2.2.1.2.2 dd
theorem sDl_of {l : Launch} {y : MethodName} {cc : ByteArray} {maxL : Nat} {rm : Room} {av : List Value} {σ : Sg} {X : Int64 × Sg} (hy : plainName y.cls = true) (hn : (lg_sl av).length ≤ maxL)
    (body : ∀ (p : Program) (e : Env) (R : Room) (s : State) (m : MethodId) (args : Array Value) (below : List Frame) (meth : Method) (c : Code) (A : Nat → Prop) (Q : State → Prop) (ls : Array Slot) (H0 : Heap) (locs0 : List Loc) (d0 : Drawn) (σm : Sg),
      CallFix p m c cc maxL s args gG y.cls → rm.frames ≤ R.frames → rm.locals ≤ R.locals → s.drawn.sameBut d0 lw_cs → Sm σm σ → sInv D tys Wd A s H0 locs0 σm → lv_has ls maxL (lv_args 0 av) →
      (∀ (H : Heap) (locs : List Loc) (pc : Nat) (ls : Array Slot) (d : Drawn) (σ' : Sg), s.drawn.sameBut d lw_cs → sInv D tys Wd A s H locs σ' → Sm σ' X.2 → decode cc pc = .ok (.lreturn, 1) → W p l e R (s.setDrawn d) m args below meth c H locs 0 0 Q (F0 m pc ls [.long X.1])) →
      W p l e R (s.setDrawn d0) m args below meth c H0 locs0 0 0 Q (F0 m 0 ls [])) : sDl D tys Wd Sm l y (ws1 y cc maxL (some .long)) rm av σ X := by
  intro sz σm hs
  refine MetD.ofW (cc := cc) (maxL := maxL) (ret := some .long) hy rfl ?_
  intro p e s m args below meth c s₁ B hml hv hd0
  obtain ⟨rfl, hv⟩ := hv
  have hsz := hv.1
  subst hsz
  have hts := atoms_spec (ws := ws1 y cc maxL (some .long)) B.pre
  have hl := lv_entry av (n := maxL) hn
  have hlk : meth.locks = false := B.notSynchronized
  rw [lg_entry_eq]
  refine body p e _ s m _ below meth c (va_A (Wd σm) s.heap.size) _ _ s.heap [] s.drawn σm ⟨B.exec, B.bytes, hml, findClass_of_methodNamed B.named, fun w h => hts w (List.mem_cons_of_mem _ h)⟩ (Nat.le_refl _) (Nat.le_refl _) hd0 hs (sInv_entry hv) hl (fun H locs pc ls d σ' hd I hs' dd => ?_)
  refine W.endD hd ?_
  exact W.lret B.exec B.bytes B.returns (fun t ht hW => ⟨⟨X.1, σ', rfl, ⟨rfl, hs'⟩, by rw [ht]; exact I.2.1, va_K.moved (u := s.setDrawn d) hW.alike (Idr I).1, I.2.2.1⟩, I.2.2.2.1.F ht⟩) I.2.2.2.1.2.2 dd hlk
theorem sDi_of {l : Launch} {y : MethodName} {cc : ByteArray} {maxL : Nat} {rm : Room} {av : List Value} {σ : Sg} {X : Int32 × Sg} (hy : plainName y.cls = true) (hn : (lg_sl av).length ≤ maxL)
    (body : ∀ (p : Program) (e : Env) (R : Room) (s : State) (m : MethodId) (args : Array Value) (below : List Frame) (meth : Method) (c : Code) (A : Nat → Prop) (Q : State → Prop) (ls : Array Slot) (H0 : Heap) (locs0 : List Loc) (d0 : Drawn) (σm : Sg),
      CallFix p m c cc maxL s args gG y.cls → rm.frames ≤ R.frames → rm.locals ≤ R.locals → s.drawn.sameBut d0 lw_cs → Sm σm σ → sInv D tys Wd A s H0 locs0 σm → lv_has ls maxL (lv_args 0 av) →
      (∀ (H : Heap) (locs : List Loc) (pc : Nat) (ls : Array Slot) (d : Drawn) (σ' : Sg), s.drawn.sameBut d lw_cs → sInv D tys Wd A s H locs σ' → Sm σ' X.2 → decode cc pc = .ok (.ireturn, 1) → W p l e R (s.setDrawn d) m args below meth c H locs 0 0 Q (F0 m pc ls [.int X.1])) →
      W p l e R (s.setDrawn d0) m args below meth c H0 locs0 0 0 Q (F0 m 0 ls [])) : sDi D tys Wd Sm l y (ws1 y cc maxL (some .int)) rm av σ X := by
  intro sz σm hs
  refine MetD.ofW (cc := cc) (maxL := maxL) (ret := some .int) hy rfl ?_
  intro p e s m args below meth c s₁ B hml hv hd0
  obtain ⟨rfl, hv⟩ := hv
  have hsz := hv.1
  subst hsz
  have hts := atoms_spec (ws := ws1 y cc maxL (some .int)) B.pre
  have hl := lv_entry av (n := maxL) hn
  have hlk : meth.locks = false := B.notSynchronized
  rw [lg_entry_eq]
  refine body p e _ s m _ below meth c (va_A (Wd σm) s.heap.size) _ _ s.heap [] s.drawn σm ⟨B.exec, B.bytes, hml, findClass_of_methodNamed B.named, fun w h => hts w (List.mem_cons_of_mem _ h)⟩ (Nat.le_refl _) (Nat.le_refl _) hd0 hs (sInv_entry hv) hl (fun H locs pc ls d σ' hd I hs' dd => ?_)
  refine W.endD hd ?_
  exact W.zret B.exec B.bytes B.returns rfl (fun t ht hW => ⟨⟨X.1, σ', rfl, ⟨rfl, hs'⟩, by rw [ht]; exact I.2.1, va_K.moved (u := s.setDrawn d) hW.alike (Idr I).1, I.2.2.1⟩, I.2.2.2.1.F ht⟩) I.2.2.2.1.2.2 dd hlk
theorem sDv_of {l : Launch} {y : MethodName} {cc : ByteArray} {maxL : Nat} {rm : Room} {av : List Value} {σ : Sg} {X : Sg} (hy : plainName y.cls = true) (hn : (lg_sl av).length ≤ maxL)
    (body : ∀ (p : Program) (e : Env) (R : Room) (s : State) (m : MethodId) (args : Array Value) (below : List Frame) (meth : Method) (c : Code) (A : Nat → Prop) (Q : State → Prop) (ls : Array Slot) (H0 : Heap) (locs0 : List Loc) (d0 : Drawn) (σm : Sg),
      CallFix p m c cc maxL s args gG y.cls → rm.frames ≤ R.frames → rm.locals ≤ R.locals → s.drawn.sameBut d0 lw_cs → Sm σm σ → sInv D tys Wd A s H0 locs0 σm → lv_has ls maxL (lv_args 0 av) →
      (∀ (H : Heap) (locs : List Loc) (pc : Nat) (ls : Array Slot) (d : Drawn) (σ' : Sg), s.drawn.sameBut d lw_cs → sInv D tys Wd A s H locs σ' → Sm σ' X → decode cc pc = .ok (.return_, 1) → W p l e R (s.setDrawn d) m args below meth c H locs 0 0 Q (F0 m pc ls [])) →
      W p l e R (s.setDrawn d0) m args below meth c H0 locs0 0 0 Q (F0 m 0 ls [])) : sDv D tys Wd Sm l y (ws1 y cc maxL none) rm av σ X := by
  intro sz σm hs
  refine MetD.ofW (cc := cc) (maxL := maxL) (ret := none) hy rfl ?_
  intro p e s m args below meth c s₁ B hml hv hd0
  obtain ⟨rfl, hv⟩ := hv
  have hsz := hv.1
  subst hsz
  have hts := atoms_spec (ws := ws1 y cc maxL none) B.pre
  have hl := lv_entry av (n := maxL) hn
  have hlk : meth.locks = false := B.notSynchronized
  rw [lg_entry_eq]
  refine body p e _ s m _ below meth c (va_A (Wd σm) s.heap.size) _ _ s.heap [] s.drawn σm ⟨B.exec, B.bytes, hml, findClass_of_methodNamed B.named, fun w h => hts w (List.mem_cons_of_mem _ h)⟩ (Nat.le_refl _) (Nat.le_refl _) hd0 hs (sInv_entry hv) hl (fun H locs pc ls d σ' hd I hs' dd => ?_)
  refine W.endD hd ?_
  exact W.vret B.exec B.bytes B.returns (fun t ht hW => ⟨⟨σ', rfl, hs', by rw [ht]; exact I.2.1, va_K.moved (u := s.setDrawn d) hW.alike (Idr I).1, I.2.2.1⟩, I.2.2.2.1.F ht⟩) I.2.2.2.1.2.2 dd hlk
variable {p : Program} {l : Launch} {e : Env} {R rm : Room} {s : State} {m : MethodId} {args : Array Value} {below : List Frame} {meth : Method} {c : Code} {H : Heap} {locs : List Loc} {cells slots : Nat} {Q : State → Prop}
variable {A : Nat → Prop} {cc bytes : ByteArray} {nL maxL idx n pc : Nat} {own host : String} {y : MethodName} {ret : Option FieldType} {b : Nat} {As rest st0 : List Value} {σ σm : Sg} {ls : Array Slot} {d0 : Drawn}
theorem d_callVd {X : UInt64 × Sg} (F : CallFix p m c cc nL s args gG own) (hd0 : s.drawn.sameBut d0 lw_cs) (I : sInv D tys Wd A s H locs σm) (hs : Sm σm σ) (hM : sDd D tys Wd Sm l y (ws1 y bytes maxL ret) rm (.ref b :: As) σ X) (k : kV own idx y bytes maxL ret n) (hr0 : rm.cells = 0 ∧ rm.slots = 0) (hR : rm.frames + 1 ≤ R.frames ∧ 8 + (maxL + 11) + rm.locals ≤ R.locals) (pos ci : Nat) {q : vw_C} {fs : List Value} (hc : vwCl[ci]? = some q) (hq : q.1 = y.cls) (he : (Wd σm)[pos]? = some (b, .inr (ci, fs))) (hn : As.length = n) (hst : st0 = As.reverse ++ .ref b :: rest) (hls : ls.size = nL) (hW : (rest.map fun v => v.category).sum ≤ 8) (hcs : cells ≤ R.cells ∧ slots ≤ R.slots) (d : decode cc pc = .ok (.invokevirtual idx, 3))
    (kk : ∀ (H1 : Heap) (locs1 : List Loc) (d1 : Drawn) (σ1 : Sg) (r : UInt64), s.drawn.sameBut d1 lw_cs → sInv D tys Wd A s H1 locs1 σ1 → Sm σ1 X.2 → alike64 r X.1 = true → W p l e R (s.setDrawn d1) m args below meth c H1 locs1 cells slots Q (F0 m (pc + 3) ls (.double r :: rest))) : W p l e R (s.setDrawn d0) m args below meth c H locs cells slots Q (F0 m pc ls st0) :=
  va_calldD hd0 (va_runV_D (As := As) (rest := rest) (Fdr F) (hM H.size σm hs) (kV_w k (dr_words F.2.2.2.2 _) hr0.1 hr0.2 hR) ⟨sPre_blind, hq ▸ va_recv (Idr I).1 I.2.1 hc he, sInv_pre (Idr I)⟩ rfl hn hls hst (lv_room hW) d hcs) I.2.2.2.1 (fun q _ h => sInv_free I q h) (sInv_free I) (fun r u t H1 locs1 ht hvm hw hB _ _ hS d1 hd1 => kk H1 locs1 d1 u r hd1 (sInv_back I ht hvm hB hS) hw.2 hw.1)
theorem d_callVl {X : Int64 × Sg} (F : CallFix p m c cc nL s args gG own) (hd0 : s.drawn.sameBut d0 lw_cs) (I : sInv D tys Wd A s H locs σm) (hs : Sm σm σ) (hM : sDl D tys Wd Sm l y (ws1 y bytes maxL ret) rm (.ref b :: As) σ X) (k : kV own idx y bytes maxL ret n) (hr0 : rm.cells = 0 ∧ rm.slots = 0) (hR : rm.frames + 1 ≤ R.frames ∧ 8 + (maxL + 11) + rm.locals ≤ R.locals) (pos ci : Nat) {q : vw_C} {fs : List Value} (hc : vwCl[ci]? = some q) (hq : q.1 = y.cls) (he : (Wd σm)[pos]? = some (b, .inr (ci, fs))) (hn : As.length = n) (hst : st0 = As.reverse ++ .ref b :: rest) (hls : ls.size = nL) (hW : (rest.map fun v => v.category).sum ≤ 8) (hcs : cells ≤ R.cells ∧ slots ≤ R.slots) (d : decode cc pc = .ok (.invokevirtual idx, 3))
    (kk : ∀ (H1 : Heap) (locs1 : List Loc) (d1 : Drawn) (σ1 : Sg), s.drawn.sameBut d1 lw_cs → sInv D tys Wd A s H1 locs1 σ1 → Sm σ1 X.2 → W p l e R (s.setDrawn d1) m args below meth c H1 locs1 cells slots Q (F0 m (pc + 3) ls (.long X.1 :: rest))) : W p l e R (s.setDrawn d0) m args below meth c H locs cells slots Q (F0 m pc ls st0) :=
  va_calllD hd0 (va_runV_D (As := As) (rest := rest) (Fdr F) (hM H.size σm hs) (kV_w k (dr_words F.2.2.2.2 _) hr0.1 hr0.2 hR) ⟨sPre_blind, hq ▸ va_recv (Idr I).1 I.2.1 hc he, sInv_pre (Idr I)⟩ rfl hn hls hst (lv_room hW) d hcs) I.2.2.2.1 (fun q _ h => sInv_free I q h) (sInv_free I) (fun r u t H1 locs1 ht hvm hw hB _ _ hS d1 hd1 => by
    obtain rfl : r = X.1 := hw.1
    exact kk H1 locs1 d1 u hd1 (sInv_back I ht hvm hB hS) hw.2)
theorem d_callVi {X : Int32 × Sg} (F : CallFix p m c cc nL s args gG own) (hd0 : s.drawn.sameBut d0 lw_cs) (I : sInv D tys Wd A s H locs σm) (hs : Sm σm σ) (hM : sDi D tys Wd Sm l y (ws1 y bytes maxL ret) rm (.ref b :: As) σ X) (k : kV own idx y bytes maxL ret n) (hr0 : rm.cells = 0 ∧ rm.slots = 0) (hR : rm.frames + 1 ≤ R.frames ∧ 8 + (maxL + 11) + rm.locals ≤ R.locals) (pos ci : Nat) {q : vw_C} {fs : List Value} (hc : vwCl[ci]? = some q) (hq : q.1 = y.cls) (he : (Wd σm)[pos]? = some (b, .inr (ci, fs))) (hn : As.length = n) (hst : st0 = As.reverse ++ .ref b :: rest) (hls : ls.size = nL) (hW : (rest.map fun v => v.category).sum ≤ 8) (hcs : cells ≤ R.cells ∧ slots ≤ R.slots) (d : decode cc pc = .ok (.invokevirtual idx, 3))
    (kk : ∀ (H1 : Heap) (locs1 : List Loc) (d1 : Drawn) (σ1 : Sg), s.drawn.sameBut d1 lw_cs → sInv D tys Wd A s H1 locs1 σ1 → Sm σ1 X.2 → W p l e R (s.setDrawn d1) m args below meth c H1 locs1 cells slots Q (F0 m (pc + 3) ls (.int X.1 :: rest))) : W p l e R (s.setDrawn d0) m args below meth c H locs cells slots Q (F0 m pc ls st0) :=
  va_calliD hd0 (va_runV_D (As := As) (rest := rest) (Fdr F) (hM H.size σm hs) (kV_w k (dr_words F.2.2.2.2 _) hr0.1 hr0.2 hR) ⟨sPre_blind, hq ▸ va_recv (Idr I).1 I.2.1 hc he, sInv_pre (Idr I)⟩ rfl hn hls hst (lv_room hW) d hcs) I.2.2.2.1 (fun q _ h => sInv_free I q h) (sInv_free I) (fun r u t H1 locs1 ht hvm hw hB _ _ hS d1 hd1 => by
    obtain rfl : r = X.1 := hw.1
    exact kk H1 locs1 d1 u hd1 (sInv_back I ht hvm hB hS) hw.2)
theorem d_callVv {X : Sg} (F : CallFix p m c cc nL s args gG own) (hd0 : s.drawn.sameBut d0 lw_cs) (I : sInv D tys Wd A s H locs σm) (hs : Sm σm σ) (hM : sDv D tys Wd Sm l y (ws1 y bytes maxL ret) rm (.ref b :: As) σ X) (k : kV own idx y bytes maxL ret n) (hr0 : rm.cells = 0 ∧ rm.slots = 0) (hR : rm.frames + 1 ≤ R.frames ∧ 8 + (maxL + 11) + rm.locals ≤ R.locals) (pos ci : Nat) {q : vw_C} {fs : List Value} (hc : vwCl[ci]? = some q) (hq : q.1 = y.cls) (he : (Wd σm)[pos]? = some (b, .inr (ci, fs))) (hn : As.length = n) (hst : st0 = As.reverse ++ .ref b :: rest) (hls : ls.size = nL) (hW : (rest.map fun v => v.category).sum ≤ 8) (hcs : cells ≤ R.cells ∧ slots ≤ R.slots) (d : decode cc pc = .ok (.invokevirtual idx, 3))
    (kk : ∀ (H1 : Heap) (locs1 : List Loc) (d1 : Drawn) (σ1 : Sg), s.drawn.sameBut d1 lw_cs → sInv D tys Wd A s H1 locs1 σ1 → Sm σ1 X → W p l e R (s.setDrawn d1) m args below meth c H1 locs1 cells slots Q (F0 m (pc + 3) ls rest)) : W p l e R (s.setDrawn d0) m args below meth c H locs cells slots Q (F0 m pc ls st0) :=
  va_callvD hd0 (va_runV_D (As := As) (rest := rest) (Fdr F) (hM H.size σm hs) (kV_w k (dr_words F.2.2.2.2 _) hr0.1 hr0.2 hR) ⟨sPre_blind, hq ▸ va_recv (Idr I).1 I.2.1 hc he, sInv_pre (Idr I)⟩ rfl hn hls hst (lv_room hW) d hcs) I.2.2.2.1 (fun q _ h => sInv_free I q h) (sInv_free I) (fun u t H1 locs1 ht hvm hw hB _ _ hS d1 hd1 => kk H1 locs1 d1 u hd1 (sInv_back I ht hvm hB hS) hw)
theorem d_callSv {X : Sg} (F : CallFix p m c cc nL s args gG own) (hd0 : s.drawn.sameBut d0 lw_cs) (I : sInv D tys Wd A s H locs σm) (hs : Sm σm σ) (hM : sDv D tys Wd Sm l y (ws1 y bytes maxL ret) rm As σ X) (k : kS own idx y bytes maxL ret n) (hr0 : rm.cells = 0 ∧ rm.slots = 0) (hR : rm.frames + 1 ≤ R.frames ∧ 8 + (maxL + 11) + rm.locals ≤ R.locals) (hn : As.length = n) (hst : st0 = As.reverse ++ rest) (hls : ls.size = nL) (hW : (rest.map fun v => v.category).sum ≤ 8) (hcs : cells ≤ R.cells ∧ slots ≤ R.slots) (d : decode cc pc = .ok (.invokestatic idx, 3))
    (kk : ∀ (H1 : Heap) (locs1 : List Loc) (d1 : Drawn) (σ1 : Sg), s.drawn.sameBut d1 lw_cs → sInv D tys Wd A s H1 locs1 σ1 → Sm σ1 X → W p l e R (s.setDrawn d1) m args below meth c H1 locs1 cells slots Q (F0 m (pc + 3) ls rest)) : W p l e R (s.setDrawn d0) m args below meth c H locs cells slots Q (F0 m pc ls st0) :=
  va_callvD hd0 (va_runS_D (As := As) (rest := rest) (Fdr F) (hM H.size σm hs) (kS_w k (dr_words F.2.2.2.2 _) hr0.1 hr0.2 hR) ⟨sPre_blind, sInv_pre (Idr I)⟩ rfl hn hls hst (lv_room hW) d hcs) I.2.2.2.1 (fun q _ h => sInv_free I q h) (sInv_free I) (fun u t H1 locs1 ht hvm hw hB _ _ hS d1 hd1 => kk H1 locs1 d1 u hd1 (sInv_back I ht hvm hB hS) hw)
end DCon
