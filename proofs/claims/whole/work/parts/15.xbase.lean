/-! THROWING: what a throw needs of the state; contracts of methods that surely throw -/
def xD : List Cond := [.declares ⟨"java/lang/RuntimeException", "<init>", "(Ljava/lang/String;)V"⟩, .declares ⟨"java/lang/Exception", "<init>", "(Ljava/lang/String;)V"⟩, .declares ⟨"java/lang/Throwable", "<init>", "(Ljava/lang/String;)V"⟩]
def xL : List Cond := xD ++ [.castable "java/lang/IllegalArgumentException" "java/lang/IllegalArgumentException", .castable "java/lang/IndexOutOfBoundsException" "java/lang/IndexOutOfBoundsException", .castable "java/lang/IllegalStateException" "java/lang/IllegalStateException"]
theorem xL_kind : ∀ w ∈ xL, w.warmB w.codeNames = true ∧ w.onTables = true := by decide +kernel
def xS : List (Nat × String) := [(351, "an argument is not allowed"), (346, "there is no such number"), (108, "there is no plan"), (124, "no trial can be answered"), (342, "too many comparisons"), (158, "no step can be undone"), (170, "the buffer is full"), (241, "the listener is not complete")]
def xOK (A : Nat → Prop) (U : State) (H : Heap) : Prop := vx_Zq Bundle.tN "UNASSIGNED_STACK" Bundle.steD A U H ∧ vx_Zq Bundle.tN "SUPPRESSED_SENTINEL" Bundle.listD A U H ∧ (∀ w ∈ xL, w.before #[] U = true) ∧ (∀ t ∈ xS, ∃ sa, vk_R RX11 t.1 t.2 sa U) ∧ U.vm.Alike U.vm
theorem xOK.warm {A : Nat → Prop} {s U : State} {H : Heap} (hW : s.WarmedH U.vm) (h : xOK A s H) : xOK A U H := ⟨h.1.moved hW.alike, h.2.1.moved hW.alike, fun w hw => va_tabs (xL_kind w hw).2 (u := s.setVm U.vm) rfl (Cond.pre_warmed hW (xL_kind w hw).1 (h.2.2.1 w hw)), fun t ht => (h.2.2.2.1 t ht).imp fun _ r => vk_R.warm hW r, Vm.Alike.refl _⟩
theorem xOK.same {A : Nat → Prop} {s U : State} {H : Heap} (hv : s.vm = U.vm) (h : xOK A s H) : xOK A U H := ⟨h.1.moved (by rw [← hv]; exact Vm.Alike.refl _), h.2.1.moved (by rw [← hv]; exact Vm.Alike.refl _), fun w hw => va_tabs (xL_kind w hw).2 hv (h.2.2.1 w hw), fun t ht => (h.2.2.2.1 t ht).imp fun _ r => vk_R.same hv.symm r, Vm.Alike.refl _⟩
theorem xOK.kept {A : Nat → Prop} {s : State} {H H1 : Heap} (h : xOK A s H) (hq : ∀ a : Nat, a < H.size → ¬ A a → H1[a]? = H[a]?) : xOK A s H1 := ⟨h.1.kept hq, h.2.1.kept hq, h.2.2⟩
theorem xOK.narrow {A B : Nat → Prop} {s : State} {H : Heap} (h : xOK A s H) (hAB : ∀ q, B q → A q) : xOK B s H := ⟨h.1.narrow hAB, h.2.1.narrow hAB, h.2.2⟩
theorem gG_xt {ws : List Cond} (ps : List Nat) (hp : ws = ps.filterMap (fun i => lw_tbl[i]?)) : ∀ w ∈ ws.filter goodWord, w ∈ gG := fun w hw => by
  obtain ⟨h1, h2⟩ := List.mem_filter.mp hw
  rw [hp] at h1
  obtain ⟨i, _, hi⟩ := List.mem_filterMap.mp h1
  exact List.mem_filter.mpr ⟨List.mem_of_getElem? hi, h2⟩
theorem xatA {args : Array Value} {s : State} {A : Nat → Prop} {H : Heap} (hG : ∀ w ∈ gG, w.before args s = true) (h : xOK A s H) : ∀ w ∈ vx_atS RX11 353 "java/lang/IllegalArgumentException" ["java/lang/RuntimeException", "java/lang/Exception"], w.before args s = true :=
  vx_hat (B := xL) (fun w hw => hG w (gG_xt [119, 811, 820, 824, 827, 829, 812, 813, 135, 136, 814, 819, 825, 845, 801, 846, 803, 847, 805, 815, 817, 807, 841, 842, 844, 807, 832, 833, 834, 835, 793, 835, 836, 837, 838, 795, 838, 839, 840, 841, 797, 831, 790, 791, 798, 799, 800, 802, 804, 806, 810, 809, 808] (by decide +kernel) w hw)) (fun w hw => by
    have e : (vx_atS RX11 353 "java/lang/IllegalArgumentException" ["java/lang/RuntimeException", "java/lang/Exception"]).filter (fun w => !goodWord w) = xD ++ [.castable "java/lang/IllegalArgumentException" "java/lang/IllegalArgumentException"] := by decide +kernel
    rw [e] at hw
    simp only [xL, xD, List.mem_append, List.mem_cons, List.not_mem_nil, or_false] at hw ⊢
    rcases hw with h | h
    · exact Or.inl h
    · exact Or.inr (by simp [h]))
    (fun w hw => va_tabs (xL_kind w hw).2 rfl (h.2.2.1 w hw))
theorem xgoA : ∀ w ∈ Cond.classLink RX11 349 "java/lang/IllegalArgumentException" :: Cond.initialized "java/lang/IllegalArgumentException" :: vx_atS RX11 353 "java/lang/IllegalArgumentException" ["java/lang/RuntimeException", "java/lang/Exception"], vx_ot w = true := List.all_eq_true.mp (by decide +kernel)
theorem xatB {args : Array Value} {s : State} {A : Nat → Prop} {H : Heap} (hG : ∀ w ∈ gG, w.before args s = true) (h : xOK A s H) : ∀ w ∈ vx_atS RX11 348 "java/lang/IndexOutOfBoundsException" ["java/lang/RuntimeException", "java/lang/Exception"], w.before args s = true :=
  vx_hat (B := xL) (fun w hw => hG w (gG_xt [119, 811, 820, 824, 827, 829, 812, 813, 135, 136, 814, 819, 825, 845, 801, 846, 803, 847, 805, 815, 817, 807, 841, 842, 844, 807, 879, 880, 881, 835, 793, 835, 836, 837, 838, 795, 838, 839, 840, 841, 797, 878, 869, 870, 871, 823, 872, 873, 874, 875, 810, 809, 876] (by decide +kernel) w hw)) (fun w hw => by
    have e : (vx_atS RX11 348 "java/lang/IndexOutOfBoundsException" ["java/lang/RuntimeException", "java/lang/Exception"]).filter (fun w => !goodWord w) = xD ++ [.castable "java/lang/IndexOutOfBoundsException" "java/lang/IndexOutOfBoundsException"] := by decide +kernel
    rw [e] at hw
    simp only [xL, xD, List.mem_append, List.mem_cons, List.not_mem_nil, or_false] at hw ⊢
    rcases hw with h | h
    · exact Or.inl h
    · exact Or.inr (by simp [h]))
    (fun w hw => va_tabs (xL_kind w hw).2 rfl (h.2.2.1 w hw))
theorem xgoB : ∀ w ∈ Cond.classLink RX11 344 "java/lang/IndexOutOfBoundsException" :: Cond.initialized "java/lang/IndexOutOfBoundsException" :: vx_atS RX11 348 "java/lang/IndexOutOfBoundsException" ["java/lang/RuntimeException", "java/lang/Exception"], vx_ot w = true := List.all_eq_true.mp (by decide +kernel)
theorem xatS {args : Array Value} {s : State} {A : Nat → Prop} {H : Heap} (hG : ∀ w ∈ gG, w.before args s = true) (h : xOK A s H) : ∀ w ∈ vx_atS RX11 110 "java/lang/IllegalStateException" ["java/lang/RuntimeException", "java/lang/Exception"], w.before args s = true :=
  vx_hat (B := xL) (fun w hw => hG w (gG_xt [119, 811, 820, 824, 827, 829, 812, 813, 135, 136, 814, 819, 825, 845, 801, 846, 803, 847, 805, 815, 817, 807, 841, 842, 844, 807, 949, 950, 951, 835, 793, 835, 836, 837, 838, 795, 838, 839, 840, 841, 797, 948, 939, 940, 941, 822, 942, 943, 944, 945, 810, 809, 946] (by decide +kernel) w hw)) (fun w hw => by
    have e : (vx_atS RX11 110 "java/lang/IllegalStateException" ["java/lang/RuntimeException", "java/lang/Exception"]).filter (fun w => !goodWord w) = xD ++ [.castable "java/lang/IllegalStateException" "java/lang/IllegalStateException"] := by decide +kernel
    rw [e] at hw
    simp only [xL, xD, List.mem_append, List.mem_cons, List.not_mem_nil, or_false] at hw ⊢
    rcases hw with h | h
    · exact Or.inl h
    · exact Or.inr (by simp [h]))
    (fun w hw => va_tabs (xL_kind w hw).2 rfl (h.2.2.1 w hw))
theorem xgoS : ∀ w ∈ Cond.classLink RX11 106 "java/lang/IllegalStateException" :: Cond.initialized "java/lang/IllegalStateException" :: vx_atS RX11 110 "java/lang/IllegalStateException" ["java/lang/RuntimeException", "java/lang/Exception"], vx_ot w = true := List.all_eq_true.mp (by decide +kernel)
