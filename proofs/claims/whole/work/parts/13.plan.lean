/-! PLAN: its constructor -/
theorem q897 : Cond.methodLink RX4 17 yX4_listTrials ∈ gG := gG_at 897 (by decide +kernel) (by decide +kernel)
theorem q899 : Cond.instanceMethod yX4_listTrials ∈ gG := gG_at 899 (by decide +kernel) (by decide +kernel)
theorem q32 : Cond.selects RX4 yX4_listTrials yX4_listTrials ∈ gG := gG_at 32 (by decide +kernel) (by decide +kernel)
theorem q900 : Cond.code yX4_listTrials cX4_listTrials 7 none ∈ gG := gG_at 900 (by decide +kernel) (by decide +kernel)
theorem q902 : Cond.methodLink RX4 21 yX4_exchangeSamples ∈ gG := gG_at 902 (by decide +kernel) (by decide +kernel)
theorem q904 : Cond.instanceMethod yX4_exchangeSamples ∈ gG := gG_at 904 (by decide +kernel) (by decide +kernel)
theorem q33 : Cond.selects RX4 yX4_exchangeSamples yX4_exchangeSamples ∈ gG := gG_at 33 (by decide +kernel) (by decide +kernel)
theorem q905 : Cond.code yX4_exchangeSamples cX4_exchangeSamples 5 (some .long) ∈ gG := gG_at 905 (by decide +kernel) (by decide +kernel)
theorem q918 : Cond.methodLink RX4 25 yX4_shuffle ∈ gG := gG_at 918 (by decide +kernel) (by decide +kernel)
theorem q920 : Cond.instanceMethod yX4_shuffle ∈ gG := gG_at 920 (by decide +kernel) (by decide +kernel)
theorem q34 : Cond.selects RX4 yX4_shuffle yX4_shuffle ∈ gG := gG_at 34 (by decide +kernel) (by decide +kernel)
theorem q921 : Cond.code yX4_shuffle cX4_shuffle 8 none ∈ gG := gG_at 921 (by decide +kernel) (by decide +kernel)
theorem q896 : Cond.methodLink RX4 1 ⟨"java/lang/Object", "<init>", "()V"⟩ ∈ gG := gG_at 896 (by decide +kernel) (by decide +kernel)
theorem q922 : Cond.fieldLink RX4 7 "ListeningTrials$Plan" "listener" "I" ∈ gG := gG_at 922 (by decide +kernel) (by decide +kernel)
theorem kX4_17 : kV RX4 17 yX4_listTrials cX4_listTrials 7 none 2 := ⟨⟨q897, q899, q32, q124, q900⟩, by decide +kernel⟩
theorem kX4_21 : kV RX4 21 yX4_exchangeSamples cX4_exchangeSamples 5 (some .long) 1 := ⟨⟨q902, q904, q33, q124, q905⟩, by decide +kernel⟩
theorem kX4_25 : kV RX4 25 yX4_shuffle cX4_shuffle 8 none 1 := ⟨⟨q918, q920, q34, q124, q921⟩, by decide +kernel⟩
section PlanI
variable {D : va_G} {l : Launch} {cI cJ cD cS : ClassId}
def P_init (a0 a1 a2 a3 : Int32) : Option (Nat × (Nat → Nat → Int32)) :=
gd (¬ (a2 * (a1 * (a1 - (1 : Int32)) / (2 : Int32))) < 0 ∧ ((a2 * (a1 * (a1 - (1 : Int32)) / (2 : Int32)))).toNatClampNeg ≤ 56) <|
nm (((a2 * (a1 * (a1 - (1 : Int32)) / (2 : Int32)))).toNatClampNeg) fun n =>
bd (P_listTrials n (wf (fun _ _ => 0) 0 a0) a1 a2) fun G1 =>
bd2 (P_exchangeSamples n G1 a3) fun x G2 =>
bd (P_shuffle n G2 x) fun G3 => some (n, G3)
set_option maxRecDepth 100000 in
set_option maxHeartbeats 8000000 in
theorem nX4 (h0 : Nat) (a0 a1 a2 a3 : Int32) (n : Nat) (G3 : Nat → Nat → Int32) (hf : P_init a0 a1 a2 a3 = some (n, G3)) : n ≤ 56 ∧ nC D (cT cI cJ cD cS) l yX4_init (ws1 yX4_init cX4_init 5 none) ({ frames := 2, cells := 1, slots := 56, locals := 49 }) [.ref h0, .int a0, .int a1, .int a2, .int a3] [(h0, .inr (4, [.int 0, .null]))] (fun u => pWd h0 (u 0) n cI G3) 1 56 := by
  unfold P_init at hf
  obtain ⟨⟨g1, g2⟩, hf⟩ := gd_some hf
  generalize hn0 : ((a2 * (a1 * (a1 - (1 : Int32)) / (2 : Int32)))).toNatClampNeg = n0 at hf g2
  replace hf := nm_some (x := n0) rfl hf
  obtain ⟨G1, h1, hf⟩ := bd_some hf
  obtain ⟨x, G2, h2, hf⟩ := bd2_some hf
  obtain ⟨G3', h3, hf⟩ := bd_some hf
  obtain ⟨e1, e2⟩ := Prod.mk.inj (Option.some.inj hf)
  rw [e1] at hn0 g2 h1 h2 h3
  rw [e2] at h3
  refine ⟨g2, ?_⟩
  intro sz
  refine Met.ofW (cc := cX4_init) (maxL := 5) (ret := none) (by decide) rfl ?_
  intro p e s m args below meth c s₁ B hml hv
  obtain ⟨rfl, hsz, hP, hK, hD0, hN⟩ := hv
  have hx := B.exec
  have hb := B.bytes
  have hr := B.returns
  have hts := atoms_spec (ws := ws1 yX4_init cX4_init 5 none) B.pre
  have hG : ∀ w ∈ gG, w.before _ s = true := fun w h => hts w (List.mem_cons_of_mem _ h)
  have hown : s.vm.findClass RX4 = some m.cls := findClass_of_methodNamed B.named
  have hlocks := B.notSynchronized
  have hin : meth.name = "<init>" := (name_of_methodNamed B.named B.method).1
  subst hsz
  replace hP : va_P D vwCl [(h0, .inr (4, [.int 0, .null]))] s.heap := hP
  have hD := hD0.self (sz := s.heap.size)
  generalize hAe : va_A ((fun _ : Unit => [(h0, .inr (4, [.int 0, .null]))]) ()) s.heap.size = A at hD ⊢
  have hA : ∀ q : Nat, s.heap.size ≤ q → A q := fun q h => by rw [← hAe]; exact Or.inr h
  replace hD : va_D A [(h0, .inr (4, [.int 0, .null]))] := hD
  have hS : va_S A s.heap s.heap [] := va_S.rf
  have F : CallFix p m c cX4_init 5 s ([.ref h0, .int a0, .int a1, .int a2, .int a3] : List Value).toArray gG RX4 := ⟨hx, hb, hml, hown, hG⟩
  have hl := lv_entry ([.ref h0, .int a0, .int a1, .int a2, .int a3]) (n := 5) (Nat.le_of_ble_eq_true rfl)
  rw [lg_entry_eq]
  generalize (lg_sl ([.ref h0, .int a0, .int a1, .int a2, .int a3]) ++ List.replicate (5 - (lg_sl ([.ref h0, .int a0, .int a1, .int a2, .int a3])).length) Slot.unset).toArray = ls at hl ⊢
  replace hl : lv_has ls 5 [(0, .ref h0), (1, .int a0), (2, .int a1), (3, .int a2), (4, .int a3)] := hl
  refine lv_aload_n hx hb dX4_init_0 rfl (lv_at hl 0 rfl) ?_
  refine W.objInit hx hb hown (hG _ q896) (hG _ q135) (hG _ q136) rfl (by rw [hml]; exact hl.1) rfl dX4_init_1 (Nat.le_of_ble_eq_true rfl) (Nat.le_of_ble_eq_true rfl) ?_
  refine W.eq (g2 := F0 m 4 ls []) rfl ?_
  refine lv_aload_n hx hb dX4_init_4 rfl (lv_at hl 0 rfl) ?_
  refine lv_iload_n hx hb dX4_init_5 rfl (lv_at hl 1 rfl) ?_
  refine va_putF (ci := 4) (v := .int a0) (ty := .int) (C := RX4) (T := TX4) (N := 2) hx hb hG iX4 tyX4 tyX4_ok nmX4 hown hK hP hD hS 0 rfl rfl 0 (by decide) (hG _ q922) (fun _ h9 => h9) rfl hin rfl (by decide +kernel) rfl rfl (Nat.le_of_ble_eq_true rfl) dX4_init_6 (fun H1 lo1 hP hD hS => ?_)
  replace hP : va_P D vwCl ((h0, .inr (4, [.int a0, .null])) :: []) H1 := hP
  replace hD : va_D A ((h0, .inr (4, [.int a0, .null])) :: []) := hD
  refine lv_aload_n hx hb dX4_init_9 rfl (lv_at hl 0 rfl) ?_
  refine lv_iload_n hx hb dX4_init_10 rfl (lv_at hl 3 rfl) ?_
  refine lv_iload_n hx hb dX4_init_11 rfl (lv_at hl 2 rfl) ?_
  refine lv_iload_n hx hb dX4_init_12 rfl (lv_at hl 2 rfl) ?_
  refine lv_iconst (v := (1 : Int32)) hx hb dX4_init_13 (by decide) ?_
  refine lv_isub hx hb dX4_init_14 ?_
  refine lv_imul hx hb dX4_init_15 ?_
  refine lv_iconst (v := (2 : Int32)) hx hb dX4_init_16 (by decide) ?_
  refine lv_idiv hx hb dX4_init_17 (by decide) ?_
  refine lv_imul hx hb dX4_init_18 ?_
  refine n_newi (N := n) F (t0 := 0) rfl q154 hK hP hD hS hA g1 hn0 (by show n * 4 ≤ 536870912; omega) (Nat.le_of_ble_eq_true rfl) (by show 0 + n ≤ 56; omega) dX4_init_19 (fun q1 H2 hP hD hS => ?_)
  replace hP : va_P D vwCl ((h0, .inr (4, [.int a0, .null])) :: (q1, .inl (cI, n, .inl (fun _ => 0))) :: []) H2 := hP
  replace hD : va_D A ((h0, .inr (4, [.int a0, .null])) :: (q1, .inl (cI, n, .inl (fun _ => 0))) :: []) := hD
  refine va_putF (ci := 4) (v := .ref q1) (ty := .array .int) (C := RX4) (T := TX4) (N := 2) hx hb hG iX4 tyX4 tyX4_ok nmX4 hown hK hP hD hS 0 rfl rfl 1 (by decide) (hG _ q924) (fun _ h9 => h9) rfl hin rfl (by decide +kernel) rfl rfl (Nat.le_of_ble_eq_true rfl) dX4_init_21 (fun H3 lo3 hP hD hS => ?_)
  replace hP : va_P D vwCl (pWd h0 q1 n cI (wf (fun _ _ => 0) 0 a0)) H3 := hP
  replace hD : va_D A (pWd h0 q1 n cI (wf (fun _ _ => 0) 0 a0)) := hD
  refine W.widen (k := 1) (n := 56) (Nat.le_of_ble_eq_true rfl) (by show 0 + n ≤ 56; omega) ?_
  have I : sInv D (pT cI) (pWd h0 q1 n cI) A s H3 _ (wf (fun _ _ => 0) 0 a0) := ⟨hK.sub [0] rfl, hP, hD, hS, hA, hN⟩
  refine lv_aload_n hx hb dX4_init_24 rfl (lv_at hl 0 rfl) ?_
  refine lv_iload_n hx hb dX4_init_25 rfl (lv_at hl 2 rfl) ?_
  refine lv_iload_n hx hb dX4_init_26 rfl (lv_at hl 3 rfl) ?_
  refine s_callVv (As := [.int a1, .int a2]) (rest := []) F I (cP_listTrials _ a1 a2 G1 h1) kX4_17 ⟨rfl, rfl⟩ ⟨(Nat.le_of_ble_eq_true rfl), (Nat.le_of_ble_eq_true rfl)⟩ 0 4 rfl rfl rfl rfl rfl hl.1 (Nat.le_of_ble_eq_true rfl) ⟨(Nat.le_of_ble_eq_true rfl), (Nat.le_of_ble_eq_true rfl)⟩ dX4_init_27 ?_
  intro H4 lo4 I
  refine lv_aload_n hx hb dX4_init_30 rfl (lv_at hl 0 rfl) ?_
  refine lv_aload_n hx hb dX4_init_31 rfl (lv_at hl 0 rfl) ?_
  refine lv_iload hx hb dX4_init_32 (lv_at hl 4 rfl) ?_
  refine s_callVl (As := [.int a3]) (rest := [.ref h0]) F I (cP_exchangeSamples _ a3 x G2 h2) kX4_21 ⟨rfl, rfl⟩ ⟨(Nat.le_of_ble_eq_true rfl), (Nat.le_of_ble_eq_true rfl)⟩ 0 4 rfl rfl rfl rfl rfl hl.1 (Nat.le_of_ble_eq_true rfl) ⟨(Nat.le_of_ble_eq_true rfl), (Nat.le_of_ble_eq_true rfl)⟩ dX4_init_34 ?_
  intro H5 lo5 I
  refine s_callVv (As := [.long x]) (rest := []) F I (cP_shuffle _ x G3 h3) kX4_25 ⟨rfl, rfl⟩ ⟨(Nat.le_of_ble_eq_true rfl), (Nat.le_of_ble_eq_true rfl)⟩ 0 4 rfl rfl rfl rfl rfl hl.1 (Nat.le_of_ble_eq_true rfl) ⟨(Nat.le_of_ble_eq_true rfl), (Nat.le_of_ble_eq_true rfl)⟩ dX4_init_37 ?_
  intro H6 lo6 I
  exact W.vret hx hb hr (fun t ht hW => ⟨⟨fun _ => q1, rfl, trivial, by rw [ht]; exact I.2.1, va_K.moved hW.alike hK, I.2.2.1⟩, I.2.2.2.1.F ht⟩) I.2.2.2.1.2.2 dX4_init_40
end PlanI
