/-! PLANS: an object and its row -/
abbrev PRec : Type := Nat × Nat × Int32 × Nat × (Nat → Int32)
abbrev pT (cI : ClassId) : List (ClassId × FieldType) := [(cI, .int)]
def pWd (q a n : Nat) (cI : ClassId) (G : Nat → Nat → Int32) : va_W := [(q, .inr (4, [.int (G 0 0), .ref a])), (a, .inl (cI, n, .inl (G 1)))]
def pG (z : PRec) : Nat → Nat → Int32 := fun k => match k with
  | 0 => fun _ => z.2.2.1
  | _ => z.2.2.2.2
def pW (cI : ClassId) (z : PRec) : va_W := pWd z.1 z.2.1 z.2.2.2.1 cI (pG z)
section Rows
variable {tq ta tn : Nat} {cI : ClassId} {G : Nat → Nat → Int32} {D : va_G} {p : Program} {l : Launch} {e : Env} {R : Room} {s : State} {m : MethodId} {args : Array Value} {below : List Frame} {meth : Method} {c : Code} {H : Heap} {locs : List Loc} {cells slots : Nat} {Q : State → Prop} {A : Nat → Prop} {cc : ByteArray} {nL pc : Nat} {own : String} {rest : List Value} {ls : Array Slot}
theorem pgtX4_13_0 (F : CallFix p m c cc nL s args gG RX4) (I : sInv D (pT cI) (pWd tq ta tn cI) A s H locs (G)) (d : decode cc pc = .ok (.getfield 13, 3)) (k : W p l e R s m args below meth c H locs cells slots Q (F0 m (pc + 3) ls (.ref (ta) :: rest))) : W p l e R s m args below meth c H locs cells slots Q (F0 m (pc) ls (.ref (tq) :: rest)) := va_get (ci := 4) (C := RX4) (T := TX4) (N := 2) F.1 F.2.1 F.2.2.2.2 iX4 F.2.2.2.1 I.1 I.2.1 0 rfl rfl 1 (by decide) (F.2.2.2.2 _ q924) (fun _ h9 => h9) rfl d k
theorem pln1 (F : CallFix p m c cc nL s args gG own) (I : sInv D (pT cI) (pWd tq ta tn cI) A s H locs (G)) (d : decode cc pc = .ok (.arraylength, 1)) (k : W p l e R s m args below meth c H locs cells slots Q (F0 m (pc + 1) ls (.int (nI tn) :: rest))) : W p l e R s m args below meth c H locs cells slots Q (F0 m (pc) ls (.ref (ta) :: rest)) := va_alen F.1 F.2.1 I.1 I.2.1 1 0 rfl rfl rfl d k
theorem pal1 (F : CallFix p m c cc nL s args gG own) (I : sInv D (pT cI) (pWd tq ta tn cI) A s H locs (G)) {i : Int32} (hin : vp_in i tn) (d : decode cc pc = .ok (.iaload, 1)) (k : W p l e R s m args below meth c H locs cells slots Q (F0 m (pc + 1) ls (.int (G 1 i.toNatClampNeg) :: rest))) : W p l e R s m args below meth c H locs cells slots Q (F0 m (pc) ls (.int i :: .ref (ta) :: rest)) := va_iald F.1 F.2.1 I.1 I.2.1 1 0 rfl rfl hin d k
theorem pas1 (F : CallFix p m c cc nL s args gG own) (I : sInv D (pT cI) (pWd tq ta tn cI) A s H locs (G)) {i : Int32} {x : Int32} (hin : vp_in i tn) (d : decode cc pc = .ok (.iastore, 1)) (k : ∀ (H1 : Heap) (locs1 : List Loc) (M1 : Nat → Nat → Int32), M1 = wr G 1 i x → sInv D (pT cI) (pWd tq ta tn cI) A s H1 locs1 (M1) → W p l e R s m args below meth c H1 locs1 cells slots Q (F0 m (pc + 1) ls (rest))) : W p l e R s m args below meth c H locs cells slots Q (F0 m (pc) ls (.int x :: .int i :: .ref (ta) :: rest)) := va_iast F.1 F.2.1 I.1 I.2.1 I.2.2.1 I.2.2.2.1 1 0 rfl rfl hin d (fun H1 locs1 hP hD hS => k H1 locs1 _ rfl ⟨I.1, hP, hD, hS, I.2.2.2.2⟩)
end Rows
