/-! REFERENCES that may be null come back; calls into the world of another system that lies in this one -/
def oc {α β : Type} (o : Option α) (a : β) (b : α → β) : β := match o with
  | none => a
  | some z => b z
theorem oc_none {α β : Type} {o : Option α} {a : β} {b : α → β} (h : o = none) : oc o a b = a := by rw [h]; rfl
theorem oc_some {α β : Type} {o : Option α} {a : β} {b : α → β} {z : α} (h : o = some z) : oc o a b = b z := by rw [h]; rfl
section QCon
variable {D : va_G} {tys typ : List (ClassId × FieldType)} {Sg Sp : Type} {Wd : Sg → va_W} {Wp : Sp → va_W}
def sMq (D : va_G) (tys : List (ClassId × FieldType)) {Sg : Type} (Wd : Sg → va_W) (l : Launch) (y : MethodName) (ws : List Cond) (rm : Room) (av : List Value) (σ : Sg) (X : Option Nat × Sg) : Prop := ∀ sz : Nat, Met l y ws rm (va_Pc av (sPre D tys Wd σ sz)) (va_Qq (fun (r : Option Nat) (u : Sg) => (r, u) = X) (sB D tys Wd (va_A (Wd σ) sz)) (va_A (Wd σ) sz)) 0 0 (va_A (Wd σ) sz)
theorem sMq_of {l : Launch} {y : MethodName} {cc : ByteArray} {maxL : Nat} {ty : String} {rm : Room} {av : List Value} {σ : Sg} {X : Option Nat × Sg} (hy : plainName y.cls = true) (hn : (lg_sl av).length ≤ maxL)
    (body : ∀ (p : Program) (e : Env) (R : Room) (s : State) (m : MethodId) (args : Array Value) (below : List Frame) (meth : Method) (c : Code) (A : Nat → Prop) (Q : State → Prop) (ls : Array Slot) (H0 : Heap) (locs0 : List Loc),
      CallFix p m c cc maxL s args gG y.cls → rm.frames ≤ R.frames → rm.locals ≤ R.locals → sInv D tys Wd A s H0 locs0 σ → lv_has ls maxL (lv_args 0 av) →
      (∀ (H : Heap) (locs : List Loc) (pc : Nat) (ls : Array Slot), sInv D tys Wd A s H locs X.2 → decode cc pc = .ok (.areturn, 1) → W p l e R s m args below meth c H locs 0 0 Q (F0 m pc ls [va_rf X.1])) →
      W p l e R s m args below meth c H0 locs0 0 0 Q (F0 m 0 ls [])) : sMq D tys Wd l y (ws1 y cc maxL (some (.object ty))) rm av σ X := by
  intro sz
  refine Met.ofW (cc := cc) (maxL := maxL) (ret := some (.object ty)) hy rfl ?_
  intro p e s m args below meth c s₁ B hml hv
  obtain ⟨rfl, hv⟩ := hv
  have hsz := hv.1
  subst hsz
  have hts := atoms_spec (ws := ws1 y cc maxL (some (.object ty))) B.pre
  have hl := lv_entry av (n := maxL) hn
  have hlk : meth.locks = false := B.notSynchronized
  rw [lg_entry_eq]
  refine body p e _ s m _ below meth c (va_A (Wd σ) s.heap.size) _ _ s.heap [] ⟨B.exec, B.bytes, hml, findClass_of_methodNamed B.named, fun w h => hts w (List.mem_cons_of_mem _ h)⟩ (Nat.le_refl _) (Nat.le_refl _) (sInv_entry hv) hl (fun H locs pc ls I d => ?_)
  refine W.aret (rt := .object ty) B.exec B.bytes B.returns (Or.inl ⟨_, rfl⟩) ?_ (fun t ht hW => ⟨⟨X.1, X.2, rfl, rfl, by rw [ht]; exact I.2.1, va_K.moved hW.alike I.1, I.2.2.1⟩, I.2.2.2.1.F ht⟩) I.2.2.2.1.2.2 d
  cases X.1 with
  | none => exact Or.inl rfl
  | some a => exact Or.inr ⟨a, rfl⟩
variable {p : Program} {l : Launch} {e : Env} {R rm : Room} {s : State} {m : MethodId} {args : Array Value} {below : List Frame} {meth : Method} {c : Code} {H : Heap} {locs : List Loc} {cells slots : Nat} {Q : State → Prop}
variable {A : Nat → Prop} {cc bytes : ByteArray} {nL maxL idx n pc : Nat} {own host : String} {y : MethodName} {ret : Option FieldType} {b : Nat} {As rest st0 : List Value} {σ : Sg} {τ : Sp} {ls : Array Slot}
theorem s_callVq {X : Option Nat × Sg} (F : CallFix p m c cc nL s args gG own) (I : sInv D tys Wd A s H locs σ) (hM : sMq D tys Wd l y (ws1 y bytes maxL ret) rm (.ref b :: As) σ X) (k : kV own idx y bytes maxL ret n) (hr0 : rm.cells = 0 ∧ rm.slots = 0) (hR : rm.frames + 1 ≤ R.frames ∧ 8 + (maxL + 11) + rm.locals ≤ R.locals) (pos ci : Nat) {q : vw_C} {fs : List Value} (hc : vwCl[ci]? = some q) (hq : q.1 = y.cls) (he : (Wd σ)[pos]? = some (b, .inr (ci, fs))) (hn : As.length = n) (hst : st0 = As.reverse ++ .ref b :: rest) (hls : ls.size = nL) (hW : (rest.map fun v => v.category).sum ≤ 8) (hcs : cells ≤ R.cells ∧ slots ≤ R.slots) (d : decode cc pc = .ok (.invokevirtual idx, 3))
    (kk : ∀ (H1 : Heap) (locs1 : List Loc), sInv D tys Wd A s H1 locs1 X.2 → W p l e R s m args below meth c H1 locs1 cells slots Q (F0 m (pc + 3) ls (va_rf X.1 :: rest))) : W p l e R s m args below meth c H locs cells slots Q (F0 m pc ls st0) :=
  va_callq (va_runV (As := As) (rest := rest) F (hM H.size) (kV_w k F.2.2.2.2 hr0.1 hr0.2 hR) ⟨sPre_blind, hq ▸ va_recv I.1 I.2.1 hc he, sInv_pre I⟩ rfl hn hls hst (lv_room hW) d hcs) I.2.2.2.1 (fun q _ h => sInv_free I q h) (sInv_free I) (fun r u t H1 locs1 ht hvm hw hB _ _ hS => by
    obtain rfl : r = X.1 := congrArg Prod.fst hw
    obtain rfl : u = X.2 := congrArg Prod.snd hw
    exact kk H1 locs1 (sInv_back I ht hvm hB hS))
/-- a world that lies in another one: its cells are that one's -/
theorem sInv_in (I : sInv D tys Wd A s H locs σ) (hK : va_K D vwCl typ s) (hsub : ∀ q ∈ Wp τ, q ∈ Wd σ) (hd : va_D (fun _ => True) (Wp τ)) : sInv D typ Wp A s H locs τ := by
  refine ⟨hK, fun k q hq => ?_, ⟨hd.1, fun k q hq => ?_⟩, I.2.2.2⟩
  · obtain ⟨i, hi⟩ := List.getElem?_of_mem (hsub q (List.mem_of_getElem? hq))
    exact I.2.1 i q hi
  · obtain ⟨i, hi⟩ := List.getElem?_of_mem (hsub q (List.mem_of_getElem? hq))
    exact I.2.2.1.2 i q hi
/-- a call that leaves the inner world as it was leaves the outer one so -/
theorem x_callVi {x : Int32} (F : CallFix p m c cc nL s args gG own) (I : sInv D tys Wd A s H locs σ) (hK : va_K D vwCl typ s) (hsub : ∀ q ∈ Wp τ, q ∈ Wd σ) (hd : va_D (fun _ => True) (Wp τ)) (hM : sMi D typ Wp l y (ws1 y bytes maxL ret) rm (.ref b :: As) τ (x, τ)) (k : kV own idx y bytes maxL ret n) (hr0 : rm.cells = 0 ∧ rm.slots = 0) (hR : rm.frames + 1 ≤ R.frames ∧ 8 + (maxL + 11) + rm.locals ≤ R.locals) (pos ci : Nat) {q : vw_C} {fs : List Value} (hc : vwCl[ci]? = some q) (hq : q.1 = y.cls) (he : (Wp τ)[pos]? = some (b, .inr (ci, fs))) (hn : As.length = n) (hst : st0 = As.reverse ++ .ref b :: rest) (hls : ls.size = nL) (hW : (rest.map fun v => v.category).sum ≤ 8) (hcs : cells ≤ R.cells ∧ slots ≤ R.slots) (d : decode cc pc = .ok (.invokevirtual idx, 3))
    (kk : ∀ (H1 : Heap) (locs1 : List Loc), sInv D tys Wd A s H1 locs1 σ → W p l e R s m args below meth c H1 locs1 cells slots Q (F0 m (pc + 3) ls (.int x :: rest))) : W p l e R s m args below meth c H locs cells slots Q (F0 m pc ls st0) := by
  have I2 : sInv D typ Wp A s H locs τ := sInv_in I hK hsub hd
  refine va_calli (va_runV (As := As) (rest := rest) F (hM H.size) (kV_w k F.2.2.2.2 hr0.1 hr0.2 hR) ⟨sPre_blind, hq ▸ va_recv I2.1 I2.2.1 hc he, sInv_pre I2⟩ rfl hn hls hst (lv_room hW) d hcs) I.2.2.2.1 (fun q _ h => sInv_free I2 q h) (sInv_free I2) (fun r u t H1 locs1 ht hvm hw hB hz hk hS => ?_)
  obtain rfl : r = x := congrArg Prod.fst hw
  obtain rfl : u = τ := congrArg Prod.snd hw
  refine kk H1 locs1 ⟨I.1, fun k q hq => ?_, I.2.2.1, hS, I.2.2.2.2⟩
  by_cases hin : ∃ (k2 : Nat) (e : va_E), (Wp u)[k2]? = some (q.1, e)
  · obtain ⟨k2, e2, h2⟩ := hin
    obtain ⟨i, hi⟩ := List.getElem?_of_mem (hsub _ (List.mem_of_getElem? h2))
    have hki := I.2.2.1.1 k i q (q.1, e2) hq hi rfl
    subst hki
    have he2 : q = (q.1, e2) := Option.some.inj (hq.symm.trans hi)
    rw [he2]
    have h3 := hB.1 k2 _ h2
    rw [ht] at h3
    exact h3
  · have hlt := (I.2.1 k q hq).lt
    refine (I.2.1 k q hq).kept (hk q.1 hlt (fun h => ?_))
    rcases h with h | h
    · exact hin h
    · omega
end QCon
