/-! THE LAW, its base: worlds side by side in any order; calls inside a larger world; methods with handlers that may draw -/
theorem vP_perm {D : va_G} {cl : List vw_C} {a b : va_W} {H : Heap} (h : a.Perm b) (hP : va_P D cl a H) : va_P D cl b H := fun k q hq => by
  obtain ⟨i, hi⟩ := List.mem_iff_getElem?.mp (h.mem_iff.mpr (List.mem_of_getElem? hq))
  exact hP i q hi
theorem vD_pw {A : Nat → Prop} {a : va_W} : va_D A a ↔ a.Pairwise (fun x y => x.1 ≠ y.1) ∧ ∀ q ∈ a, A q.1 := by
  constructor
  · intro h
    refine ⟨List.pairwise_iff_getElem.mpr (fun i j hi hj hij e => ?_), fun q hq => ?_⟩
    · have := h.1 i j a[i] a[j] (List.getElem?_eq_getElem hi) (List.getElem?_eq_getElem hj) e
      omega
    · obtain ⟨i, hi⟩ := List.mem_iff_getElem?.mp hq
      exact h.2 i q hi
  · intro h
    refine ⟨fun i j p q hi hj e => ?_, fun k q hq => h.2 q (List.mem_of_getElem? hq)⟩
    obtain ⟨li, rfl⟩ := List.getElem?_eq_some_iff.mp hi
    obtain ⟨lj, rfl⟩ := List.getElem?_eq_some_iff.mp hj
    have hp := List.pairwise_iff_getElem.mp h.1
    rcases Nat.lt_trichotomy i j with g | g | g
    · exact (hp i j li lj g e).elim
    · exact g
    · exact (hp j i lj li g e.symm).elim
theorem vD_perm {A : Nat → Prop} {a b : va_W} (h : a.Perm b) (hD : va_D A a) : va_D A b := by
  rw [vD_pw] at hD ⊢
  exact ⟨(List.Perm.pairwise_iff (fun h => Ne.symm h) h).mp hD.1, fun q hq => hD.2 q (h.mem_iff.mpr hq)⟩
theorem sI_perm {D : va_G} {tys : List (ClassId × FieldType)} {Sg S2 : Type} {Wd : Sg → va_W} {W2 : S2 → va_W} {A : Nat → Prop} {s : State} {H : Heap} {locs : List Loc} {σ : Sg} {τ : S2} (I : sInv D tys Wd A s H locs σ) (h : (Wd σ).Perm (W2 τ)) : sInv D tys W2 A s H locs τ := ⟨I.1, vP_perm h I.2.1, vD_perm h I.2.2.1, I.2.2.2⟩
/-! a method with handlers that may draw: its contract, its call -/
theorem mdW_of {cs : List Choice} {l : Launch} {y : MethodName} {ws ws' : List Cond} {rm : Room} {Pc : Array Value → State → Prop} {Qc : Array Value → State → Outcome → State → Prop} {mc ms : Nat} {free : Addr → Prop} {cc : ByteArray} {maxL : Nat} {ret : Option FieldType} {hh : List (Nat × Nat × Nat × Nat)}
    (hy : plainName y.cls = true) (hw : ws = Cond.codeWith y cc maxL ret hh :: ws')
    (body : ∀ p e s m args below meth c s₁, BodyLoose p l y (headSpec ws rm) cc maxL ret e s m args below meth c s₁ → c.maxLocals = maxL → Pc args s →
      W p l e (headSpec ws rm).room (s.setDrawn s.drawn) m args below meth c s.heap [] 0 0 (MQD cs below Qc args s mc ms free) (entryFrame m args maxL)) : MetD cs l y ws rm Pc Qc mc ms free := by
  refine MetFree.of_bodyS (code := cc) (maxLocals := maxL) (ret := ret) hy (fun args s m h hn => ?_) (fun p e s m args below meth c s₁ B hml hP _ => ?_)
  · obtain ⟨m9, meth, c, hn9, h1, h2, h3, h4, -, h5, h6, -⟩ := Cond.codeWith_spec (atoms_spec (ws := ws) h _ (by rw [hw]; exact List.mem_cons_self))
    cases hn.symm.trans hn9
    exact ⟨meth, c, h1, h2, h3, h4, h5, h6⟩
  · have X0 : Stand p l e (headSpec ws rm).room (s.setDrawn s.drawn) m args below meth c s₁ [] 0 0 := Stand.of_body B
    obtain ⟨t, a1, d, hd, o, b1, b2, b3, b4⟩ := body p e s m args below meth c s₁ B hml hP s₁ (by rw [B.state]; rfl) X0
    exact ⟨t, o, a1, b1, b2, d, hd, b3, b4⟩
section MdW
variable {cs : List Choice} {l : Launch} {R rm : Room} {p : Program} {e : Env} {below : List Frame} {s : State} {args : Array Value} {y : MethodName} {m : MethodId} {meth : Method} {c : Code} {H : Heap} {locs : List Loc} {cells slots : Nat}
variable {ws : List Cond} {Pc : Array Value → State → Prop} {Qc : Array Value → State → Outcome → State → Prop} {mc ms maxL nL idx n : Nat} {free : Addr → Prop} {bytes cc : ByteArray} {ret : Option FieldType} {hh : List (Nat × Nat × Nat × Nat)} {own : String} {Ts : List Cond} {As rest : List Value} {g : JFrame}
/-- the road of the kit's own 'back' for methods that draw, its one fact of the callee's code read off a method with handlers -/
theorem mdW_back (hM : MetD cs l y ws rm Pc Qc mc ms free) (hblind : FrameBlind Pc) (hrc : rm.cells = mc) (hrs : rm.slots = ms) (hframes : rm.frames + 1 ≤ R.frames) (hlocals : 8 + (maxL + 11) + rm.locals ≤ R.locals)
    (hws : ∀ w ∈ ws, ∀ (a' : Array Value) (U : State), s.WarmedH U.vm → w.before a' U = true) (hcode : Cond.codeWith y bytes maxL ret hh ∈ ws) (hinit : ∀ (a' : Array Value) (U : State), s.WarmedH U.vm → (Cond.initialized y.cls).before a' U = true) :
    BackD cs l R p e below s args y 3 8 (PreOf R mc ms Pc) (PostOf Qc mc ms free) := by
  intro m meth c A g ig mk a X hg hsize hdg hW hn hp
  obtain ⟨U, Ls, c0, s0⟩ := A
  have hP0 : Pc a (U.calling g mk a) := hblind _ _ _ _ hp.2.2
  have h4 : c0 + rm.cells ≤ R.cells := by rw [hrc]; exact hp.1
  have h5 : s0 + rm.slots ≤ R.slots := by rw [hrs]; exact hp.2.1
  dsimp only [Pt.U, Pt.locs, Pt.cells, Pt.slots] at X hn ⊢
  obtain ⟨m9, methY, cY, hn9, hmY, hcY, -, hlY, -⟩ := Cond.codeWith_spec (hws _ hcode a _ X.warmed)
  cases hn.symm.trans hn9
  obtain ⟨kY, hkY, -⟩ := className_of_methodNamed hn
  have hinitY : kY.init = .initialized := Cond.initialized_spec (findClass_of_methodNamed hn) hkY (hinit a _ X.warmed)
  have h : At U g.method c below := by rw [hg]; exact X.here
  have happ : (headSpec ws rm).appliesLoose y e.platform (U.calling g mk a) = true := Spec.appliesLoose_calling (g := g) h hdg hn hkY hinitY (X.room_calling (g := g) (R' := (headSpec ws rm).room) hsize hmY hcY hframes (by have : (headSpec ws rm).room.locals = rm.locals := rfl; rw [hlY, this]; omega) h4 h5) (atoms_intro fun w hw => hws w hw _ _ X.warmed)
  obtain ⟨mid, hmid⟩ := h.above
  have hfr : (U.setTop g).frames = (.java g :: mid) ++ below := by rw [State.frames_setTop' g h.top, hmid]; rfl
  obtain ⟨o, s₂, hsteps, -, hend, d, hd, hqd, L, hfe, hL⟩ := Steps.callFree hM p X.admits X.cas X.clock (acts := []) hfr happ hP0 trivial
  rw [State.frames_setTop' g h.top] at hend
  replace hd : (U.calling g mk a).drawn.sameBut d cs := hd
  replace hqd : Qc a ((U.calling g mk a).setDrawn d) o s₂ := hqd
  replace hfe : FrameEnd ((U.calling g mk a).setDrawn d) o s₂ L mc ms := hfe
  have h' : At (U.setDrawn d) g.method c below := h.setDrawn d
  have X' : Stand p l e R (s.setDrawn d) m args below meth c (U.setDrawn d) Ls c0 s0 := X.drew d
  rw [show (U.calling g mk a).drawn = s.drawn by rw [State.calling_eq h.top]; exact X.drawn_eq] at hd
  rw [show (U.calling g mk a).setDrawn d = (U.setDrawn d).calling g mk a by rw [State.calling_eq h.top, State.calling_eq h'.top]; rfl] at hqd hfe
  obtain ⟨⟨v, rfl⟩, hW₂, e2, q2, q3, q4, q5, q6⟩ := id hfe
  have e3 : s₂ = ({ ((U.setDrawn d).calling g mk a).setFrames s₂.frames with heap := s₂.heap, slotsUsed := s₂.slotsUsed } : State).setVm s₂.vm := by
    have e9 : s₂ = ({ s₂ with vm := ((U.setDrawn d).calling g mk a).vm } : State).setVm s₂.vm := rfl
    rw [e2] at e9
    exact e9
  obtain ⟨c₂, i₂, len₂, hc₂, hd₂, hf₂⟩ := hend
  have hW' : (U.setDrawn d).WarmedH s₂.vm := hW₂
  have hcc : c₂ = c := Option.some.inj (hc₂.symm.trans ((by rw [State.code?_eq, State.code?_eq, hW'.alike.method?] : s₂.code? g.method = (U.setDrawn d).code? g.method).trans h'.code))
  subst hcc
  have hlen : len₂ = 3 := by rw [hdg] at hd₂; cases hd₂; rfl
  subst hlen
  obtain ⟨g₀, hg0⟩ := Option.isSome_iff_exists.mp h.top
  obtain ⟨r, hr⟩ := State.topJava?_eq_some.mp hg0
  have hrV : (U.setDrawn d).frames = .java g₀ :: r := hr
  have hs₂ : s₂ = (({ U.setDrawn d with heap := s₂.heap, slotsUsed := s₂.slotsUsed } : State).setVm s₂.vm).setTop { g with pc := g.pc + 3, stack := v.toList ++ g.stack } := by
    have hr' : (({ U.setDrawn d with heap := s₂.heap, slotsUsed := s₂.slotsUsed } : State).setVm s₂.vm).frames = .java g₀ :: r := hr
    refine e3.trans ?_
    rw [hf₂, State.calling_eq h'.top, State.setFrames_setFrames, State.setTop_of_frames _ hr', hr]
    rfl
  have hsame : (U.setDrawn d).sameButNew ({ U.setDrawn d with heap := s₂.heap, slotsUsed := s₂.slotsUsed } : State) L mc ms := by
    refine ⟨?_, q2, q3, q4, q5, q6⟩
    obtain ⟨t, ht, -⟩ := State.frames_cons hrV
    show ({ U.setDrawn d with heap := s₂.heap, slotsUsed := s₂.slotsUsed } : State) = { (U.setDrawn d).setFrames (U.setDrawn d).frames with heap := s₂.heap, slotsUsed := s₂.slotsUsed }
    rw [State.setFrames_self ht]
  subst hg
  refine ⟨v, ⟨(({ U.setDrawn d with heap := s₂.heap, slotsUsed := s₂.slotsUsed } : State).setVm s₂.vm), Ls ++ L, c0 + mc, s0 + ms⟩, d, hd,
    ⟨X'.admits, X'.cas, X'.clock, X'.frames, X'.room, X'.hears, X'.method, X'.code, (X'.here.setHeapUsed s₂.heap s₂.slotsUsed).setVm hW'.alike, X'.tail, State.WarmedH.trans X'.warmed hW', X'.limits, X'.bytes, X'.same.trans (hsame.setVm (s.setDrawn d).vm)⟩,
    ⟨g, mk, s₂, L, rfl, rfl, hqd, rfl, hL, rfl, rfl⟩, ?_⟩
  show Steps p.tables e below _ ((({ U.setDrawn d with heap := s₂.heap, slotsUsed := s₂.slotsUsed } : State).setVm s₂.vm).setTop { g with pc := g.pc + 3, stack := v.toList ++ g.stack })
  rw [← hs₂]
  exact hsteps
theorem mdW_run (S : CallFix p m c cc nL s args Ts own) (hM : MetD cs l y ws rm Pc Qc mc ms free) (cw : vx_CSW R s args own idx y bytes maxL ret hh ws rm mc ms n) (hp : PreS s H Pc As)
    (hg : g.method = m) (hn : As.length = n) (hsize : g.locals.size = nL) (hstack : g.stack = As.reverse ++ rest) (hW : 2 * g.monitorRoom + (rest.map fun v => v.category).sum ≤ 8) (hdg : decode cc g.pc = .ok (.invokestatic idx, 3)) (hf : cells + mc ≤ R.cells ∧ slots + ms ≤ R.slots) :
    va_RunD cs p l e R s m args below meth c H locs cells slots mc ms g rest (Qc As.toArray) free := by
  obtain ⟨⟨hrc, hrs, hfr, hlo, hws, hcw⟩, hcode, hini, hy, hlen, hl, hstt⟩ := cw
  obtain ⟨hx, hb, hml, ho, -⟩ := S
  intro T hT X
  have hK : BackD cs l R p e below s args y 3 8 (PreOf R mc ms Pc) (PostOf Qc mc ms free) := mdW_back hM hp.1 hrc hrs hfr hlo hws hcw (fun a' U hW => word_at hW (Or.inl (by first | rfl | simp [Cond.onTables, Cond.keeps, Cond.steady])) hini)
  obtain ⟨mk, methM, cM, hnamed, hmethM, -, -, -, -, -, -, hsigM⟩ := Cond.codeWith_spec hcode
  obtain ⟨kP, hkP, -⟩ := className_of_methodNamed hnamed
  obtain ⟨vm₁, X₁, hstep₁⟩ := X.invokestatic hx ho hl hnamed hmethM (Cond.static_spec hnamed hmethM hstt) hkP (Cond.initialized_spec (findClass_of_methodNamed hnamed) hkP hini) hy (g := g) hg (argsL := As) (rest := rest) (hn.trans (hlen _ hsigM)) hstack (by rw [hb]; exact hdg)
  obtain ⟨v, ⟨U', l2, c2, s2⟩, d', hd', X', ⟨g', mk', t, L, e1, e2, hq, h1, hL, h2, h3⟩, hsteps⟩ := hK m meth c ⟨T.setVm vm₁, locs, cells, slots⟩ { g with stack := rest } (.invokestatic idx) mk As.toArray X₁ hg (hsize.trans hml.symm) (by rw [hb]; exact hdg) hW (X₁.named hnamed) ⟨hf.1, hf.2, hp.2 (T.setVm vm₁) hT X₁.warmed⟩
  dsimp only [Pt.U, Pt.locs, Pt.cells, Pt.slots] at X' e1 e2 h1 h2 h3 hsteps
  subst h1; subst h2; subst h3
  exact ⟨v, ((T.setVm vm₁).setDrawn d').calling g' mk' As.toArray, t, U', L, d', hd', hT, X', hL, e1, e2, hq, fun target h => hstep₁ _ fun acts => by rw [doInvoke_state]; exact hsteps.trans h⟩
end MdW
