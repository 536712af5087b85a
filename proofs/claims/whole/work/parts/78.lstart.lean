/-! THE LAW, from its entry -/
set_option maxHeartbeats 8000000 in
set_option maxRecDepth 100000 in
theorem whole_start {p : Program} {e : Env} {s : State} {m : MethodId} {below : List Frame} {meth : Method} {c : Code} (l : Launch) (hflags : l.flags = flags0) {b L : Nat} {xs : Nat → Int32} (hL : L ≤ 2560) (C0 : lw_At p s m meth c b L xs) : W p l e room_1 s m #[Value.ref b] below meth c s.heap [] 0 0 (lw_Z below #[Value.ref b] s) (entryFrame m ([Value.ref b] : List Value).toArray 9) := by
  obtain ⟨hx, hb, hr, hml, hown, hT, hX, hbl, hlocks, hgv⟩ := id C0
  replace hown : s.vm.findClass RL = some m.cls := hown
  have hG : ∀ w ∈ gG, w.before #[Value.ref b] s = true := fun w h => hT w (gG_tbl h)
  have hl0 : l.stackTraces = false := by unfold Launch.stackTraces; rw [hflags]; decide
  obtain ⟨D, cI, cJ, cD, cS, hK⟩ := start_K hT
  obtain ⟨G0, P0, h0, hf1, hf2, hRR, hPZ⟩ := start_RR
  have hY := start_Y hT hgv
  have hN : nestOK s := nestOK.of hT
  have hA : ∀ q : Nat, s.heap.size ≤ q → (fun q : Nat => s.heap.size ≤ q) q := fun _ h => h
  have hbA : ¬ (fun q : Nat => s.heap.size ≤ q) b := Nat.not_le.mpr hbl
  have hS : va_S (fun q : Nat => s.heap.size ≤ q) s.heap s.heap [] := va_S.rf
  have hP : va_P D vwCl [] s.heap := fun k q h => by simp at h
  have hD : va_D (fun q : Nat => s.heap.size ≤ q) [] := ⟨fun i j p q h => by simp at h, fun k q h => by simp at h⟩
  have F : CallFix p m c cL_law 9 s #[Value.ref b] gG RL := ⟨hx, hb, hml, hown, hG⟩
  have C : lCx p l m c s #[Value.ref b] (fun q : Nat => s.heap.size ≤ q) b L xs := ⟨F, hX, hbl, hbA, hY, hl0⟩
  have hl := lv_entry ([.ref b]) (n := 9) (Nat.le_of_ble_eq_true rfl)
  rw [lg_entry_eq]
  generalize (lg_sl ([.ref b]) ++ List.replicate (9 - (lg_sl ([.ref b])).length) Slot.unset).toArray = ls at hl ⊢
  replace hl : lv_has ls 9 [(0, .ref b)] := hl
  refine va_new (ci := 11) (fs := [.int 0, .int 0, .null, .null, .null, .int 0, .null, .null, .null, .null, .null, .null, .null, .null]) (C := RX11) (T := TX11) (N := 14) hx hb hG iX11 tyX11 tyX11_ok hown (hG _ v129) (hG _ v130) (hG _ v106) hK hP hD hS hA rfl (fun j hj => match j, hj with | 0, _ => rfl | 1, _ => rfl | 2, _ => rfl | 3, _ => rfl | 4, _ => rfl | 5, _ => rfl | 6, _ => rfl | 7, _ => rfl | 8, _ => rfl | 9, _ => rfl | 10, _ => rfl | 11, _ => rfl | 12, _ => rfl | 13, _ => rfl | n + 14, h => absurd h (by omega)) (Nat.le_of_ble_eq_true rfl) (Nat.le_of_ble_eq_true rfl) dL_law_0 (fun q0 H1 hP hD hS => ?_)
  replace hP : va_P D vwCl ([] ++ [(q0, .inr (11, [.int 0, .int 0, .null, .null, .null, .int 0, .null, .null, .null, .null, .null, .null, .null, .null]))]) H1 := hP
  replace hD : va_D (fun q : Nat => s.heap.size ≤ q) ([] ++ [(q0, .inr (11, [.int 0, .int 0, .null, .null, .null, .int 0, .null, .null, .null, .null, .null, .null, .null, .null]))]) := hD
  refine lv_dup hx hb dL_law_3 rfl ?_
  refine n_callI (X := []) (As := []) F hN hK hP hD hS hA (nX11 q0 G0 P0 hf1) kL_96 rfl ⟨rfl, rfl⟩ ⟨Nat.le_of_ble_eq_true rfl, Nat.le_of_ble_eq_true rfl⟩ rfl rfl hl.1 (Nat.le_of_ble_eq_true rfl) ⟨Nat.le_of_ble_eq_true rfl, Nat.le_of_ble_eq_true rfl⟩ dL_law_4 (fun u1 H2 lo2 hP hD hS => ?_)
  obtain ⟨ac, hac⟩ : ∃ ac : Nat → Nat, ac = fun k => if k = 0 then q0 else u1 k := ⟨_, rfl⟩
  have ac0 : ac 0 = q0 := by rw [hac]; rfl
  rw [← hac] at hP hD
  replace hP : va_P D vwCl (cW ac cI cJ cD cS (G0, (fun _ _ => 0), (fun _ _ => 0), P0, [])) H2 := hP
  replace hD : va_D (fun q : Nat => s.heap.size ≤ q) (cW ac cI cJ cD cS (G0, (fun _ _ => 0), (fun _ _ => 0), P0, [])) := hD
  refine lv_astore_n (lv' := [(1, .ref q0), (0, .ref b)]) hx hb dL_law_7 rfl hl (by decide) rfl (fun ls hl => ?_)
  refine va_new (ci := 12) (fs := [.int 0, .int 0, .int 0, .null, .int 0, .null, .null, .null, .null, .int 0, .int 0, .int 0, .null, .int 0, .null, .null, .null, .null, .null, .null, .int 0, .null, .long 0, .int 0, .int 0, .null, .int 0, .int 0, .int 0, .null, .null, .null, .int 0, .null, .null, .null, .null, .null, .null, .long 0]) (C := RX12) (T := TX12) (N := 40) hx hb hG iX12 tyX12 tyX12_ok hown (hG _ v1197) (hG _ v1198) (hG _ v118) hK hP hD hS hA rfl (fun j hj => match j, hj with | 0, _ => rfl | 1, _ => rfl | 2, _ => rfl | 3, _ => rfl | 4, _ => rfl | 5, _ => rfl | 6, _ => rfl | 7, _ => rfl | 8, _ => rfl | 9, _ => rfl | 10, _ => rfl | 11, _ => rfl | 12, _ => rfl | 13, _ => rfl | 14, _ => rfl | 15, _ => rfl | 16, _ => rfl | 17, _ => rfl | 18, _ => rfl | 19, _ => rfl | 20, _ => rfl | 21, _ => rfl | 22, _ => rfl | 23, _ => rfl | 24, _ => rfl | 25, _ => rfl | 26, _ => rfl | 27, _ => rfl | 28, _ => rfl | 29, _ => rfl | 30, _ => rfl | 31, _ => rfl | 32, _ => rfl | 33, _ => rfl | 34, _ => rfl | 35, _ => rfl | 36, _ => rfl | 37, _ => rfl | 38, _ => rfl | 39, _ => rfl | n + 40, h => absurd h (by omega)) (Nat.le_of_ble_eq_true rfl) (Nat.le_of_ble_eq_true rfl) dL_law_8 (fun q3 H3 hP hD hS => ?_)
  refine lv_dup hx hb dL_law_11 rfl ?_
  refine n_callI (As := []) F hN (hK.sub [0, 1, 2] rfl) hP hD hS hA (nX12 q3 h0 hf2) kL_99 rfl ⟨rfl, rfl⟩ ⟨Nat.le_of_ble_eq_true rfl, Nat.le_of_ble_eq_true rfl⟩ rfl rfl hl.1 (Nat.le_of_ble_eq_true rfl) ⟨Nat.le_of_ble_eq_true rfl, Nat.le_of_ble_eq_true rfl⟩ dL_law_12 (fun u2 H4 lo4 hP hD hS => ?_)
  obtain ⟨am, ham⟩ : ∃ am : Nat → Nat, am = fun k => if k = 0 then q3 else u2 k := ⟨_, rfl⟩
  have am0 : am 0 = q3 := by rw [ham]; rfl
  rw [← ham] at hP hD
  refine lv_astore_n (lv' := [(2, .ref q3), (1, .ref q0), (0, .ref b)]) hx hb dL_law_15 rfl hl (by decide) rfl (fun ls hl => ?_)
  refine lv_iconst (v := 1) hx hb dL_law_16 (by decide) ?_
  refine n_newl (t0 := 1) (N := 1) F rfl v346 hK hP hD hS hA (by decide) (by decide) (by decide) (Nat.le_of_ble_eq_true rfl) (Nat.le_of_ble_eq_true rfl) dL_law_17 (fun aO H5 hP hD hS => ?_)
  refine lv_astore_n (lv' := [(3, .ref aO), (2, .ref q3), (1, .ref q0), (0, .ref b)]) hx hb dL_law_19 rfl hl (by decide) rfl (fun ls hl => ?_)
  refine lv_iconst (v := 1) hx hb dL_law_20 (by decide) ?_
  refine n_newd (t0 := 2) (N := 1) F rfl v370 hK hP hD hS hA (by decide) (by decide) (by decide) (Nat.le_of_ble_eq_true rfl) (Nat.le_of_ble_eq_true rfl) dL_law_21 (fun aD H6 hP hD hS => ?_)
  refine lv_astore (lv' := [(4, .ref aD), (3, .ref aO), (2, .ref q3), (1, .ref q0), (0, .ref b)]) hx hb dL_law_23 hl (by decide) rfl (fun ls hl => ?_)
  refine lv_iconst (v := 0) hx hb dL_law_25 (by decide) ?_
  refine lv_istore (lv' := [(5, .int 0), (4, .ref aD), (3, .ref aO), (2, .ref q3), (1, .ref q0), (0, .ref b)]) hx hb dL_law_26 hl (by decide) rfl (fun ls hl => ?_)
  have I : sInv D (cT cI cJ cD cS) (lW ac am aO aD cI cJ cD cS) (fun q : Nat => s.heap.size ≤ q) s H6 lo4 ((G0, (fun _ _ => 0), (fun _ _ => 0), P0, []), (h0, (fun _ _ => 0), (fun _ _ => 0)), (fun _ => 0), (fun _ => 0)) := ⟨hK, vP_perm (pm_4 _ _ _ _) hP, vD_perm (pm_4 _ _ _ _) hD, hS, hA, hN⟩
  rw [← ac0, ← am0] at hl
  refine W.widen (k := 200) (n := 5000) (by decide) (by decide) ?_
  refine W.base ?_
  exact law_loop C hr hlocks hL 512 0 0 200 5000 (by omega) (by omega) (by decide) (by decide) nI_0.symm H6 lo4 s.drawn _ ls (Drawn.sameBut.refl s.drawn lw_cs) I ⟨hRR, hPZ⟩ (lv_sub hl [5, 4, 3, 2, 1, 0] rfl)
