/-! constructors of the kinds -/
theorem cd_X7_1 : Cond.code yX7_init cX7_init 1 none ∈ lw_good := inG (by decide +kernel) (by decide +kernel)
set_option maxHeartbeats 4000000 in
set_option maxRecDepth 100000 in
theorem c_X1_init (l : Launch) (dC : Nat → ClassId) (dI : Nat → Nat → Nat) (ci h0 sz : Nat) : Met l yX1_init (ctWs yX1_init cX1_init) (ctRm 2 0 0) (va_Pc [.ref h0] (fun U => U.heap.size = sz ∧ va_P (dC, dI) vwCl [(h0, .inr (ci, []))] U.heap ∧ va_K (dC, dI) vwCl [] U ∧ va_D (fun _ => True) [(h0, .inr (ci, []))] ∧ NC U)) (va_Qv (fun _ : Unit => True) (fun _ => CtB dC dI (va_A [(h0, .inr (ci, []))] sz) [(h0, .inr (ci, []))] []) (va_A [(h0, .inr (ci, []))] sz)) 0 0 (va_A [(h0, .inr (ci, []))] sz) := by
  refine Met.ofW (cc := cX1_init) (maxL := 1) (ret := none) (by decide) rfl ?_
  intro p e s m args below meth c s₁ B hml hv
  obtain ⟨rfl, hsz, hP, hK, hD0, hNC⟩ := hv
  have hx := B.exec
  have hb := B.bytes
  have hr := B.returns
  have hts := atoms_spec (ws := ctWs yX1_init cX1_init) B.pre
  have hown : s.vm.findClass RX1 = some m.cls := findClass_of_methodNamed B.named
  subst hsz
  have hD := hD0.self (sz := s.heap.size)
  generalize hAe : va_A [(h0, .inr (ci, []))] s.heap.size = A at hD ⊢
  have hA : ∀ q : Nat, s.heap.size ≤ q → A q := fun q h => by rw [← hAe]; exact Or.inr h
  have hS : va_S A s.heap s.heap [] := va_S.rf
  have hl := lv_entry ([.ref h0]) (n := 1) (Nat.le_of_ble_eq_true rfl)
  rw [lg_entry_eq]
  generalize (lg_sl ([.ref h0]) ++ List.replicate (1 - (lg_sl ([.ref h0])).length) Slot.unset).toArray = ls at hl ⊢
  have hl : lv_has ls 1 [(0, .ref h0)] := hl
  refine lv_aload_n hx hb dX1_init_0 rfl (lv_at hl 0 rfl) ?_
  have hw1 := hNC (.methodLinkNest RX1 1 yX7_init RX11) (by decide +kernel)
  have hw2 := hts _ (List.mem_cons_of_mem _ (inG (w := .instanceMethod yX7_init) (by decide +kernel) (by decide +kernel)))
  have hw3 := hts _ (List.mem_cons_of_mem _ (inG (w := .initialized RX7) (by decide +kernel) (by decide +kernel)))
  have hFc := va_free (wc := [(h0, .inr (ci, []))]) hD hS hA [0] rfl
  have hkc : 0 ≤ 0 := by omega
  refine va_callv (va_runIN (As := []) (rest := []) ⟨hx, hb, hml, hown, hts⟩ (c_X7_init l dC dI ci h0 s.heap.size) ⟨va_cnB 0 hts (ctWs_in cd_X7_1) rfl rfl rfl hw1 hw3 (by decide +kernel) ⟨Nat.le_of_ble_eq_true rfl, Nat.le_of_ble_eq_true rfl⟩, rfl, hw2⟩ ⟨fun a U g mk q => by obtain ⟨q0, q1, qP, qK, qD⟩ := q; exact ⟨q0, q1, qP, va_K.moved (u := U) (U := U.calling g mk a) (Vm.Alike.refl U.vm) qK, qD⟩, fun U hU hW => ⟨rfl, by rw [hU], by rw [hU]; exact hP, va_K.moved hW.alike hK, hD.weaken (fun _ _ _ _ => trivial)⟩⟩ rfl rfl hl.1 rfl (lv_room (Nat.le_of_ble_eq_true rfl)) dX1_init_1 ⟨hkc, hkc⟩) hS (fun q _ h => hFc q h) hFc (fun u t H1 locs ht hvm hw hB hz1 hk1 hS => ?_)
  obtain ⟨hP1, hK1, hD1⟩ := hB
  rw [ht] at hP1
  have hK1 := va_K.moved hvm.symm hK1
  exact W.vret hx hb hr (fun t ht hW => ⟨⟨(), rfl, trivial, by rw [ht]; exact hP1, va_K.moved hW.alike hK1, by rw [← hAe]; exact hD1⟩, hS.F ht⟩) hS.2.2 dX1_init_4
theorem cd_X7_0 : Cond.code yX7_init cX7_init 1 none ∈ lw_good := inG (by decide +kernel) (by decide +kernel)
set_option maxHeartbeats 4000000 in
set_option maxRecDepth 100000 in
theorem c_X0_init (l : Launch) (dC : Nat → ClassId) (dI : Nat → Nat → Nat) (ci h0 sz : Nat) : Met l yX0_init (ctWs yX0_init cX0_init) (ctRm 2 0 0) (va_Pc [.ref h0] (fun U => U.heap.size = sz ∧ va_P (dC, dI) vwCl [(h0, .inr (ci, []))] U.heap ∧ va_K (dC, dI) vwCl [] U ∧ va_D (fun _ => True) [(h0, .inr (ci, []))] ∧ NC U)) (va_Qv (fun _ : Unit => True) (fun _ => CtB dC dI (va_A [(h0, .inr (ci, []))] sz) [(h0, .inr (ci, []))] []) (va_A [(h0, .inr (ci, []))] sz)) 0 0 (va_A [(h0, .inr (ci, []))] sz) := by
  refine Met.ofW (cc := cX0_init) (maxL := 1) (ret := none) (by decide) rfl ?_
  intro p e s m args below meth c s₁ B hml hv
  obtain ⟨rfl, hsz, hP, hK, hD0, hNC⟩ := hv
  have hx := B.exec
  have hb := B.bytes
  have hr := B.returns
  have hts := atoms_spec (ws := ctWs yX0_init cX0_init) B.pre
  have hown : s.vm.findClass RX0 = some m.cls := findClass_of_methodNamed B.named
  subst hsz
  have hD := hD0.self (sz := s.heap.size)
  generalize hAe : va_A [(h0, .inr (ci, []))] s.heap.size = A at hD ⊢
  have hA : ∀ q : Nat, s.heap.size ≤ q → A q := fun q h => by rw [← hAe]; exact Or.inr h
  have hS : va_S A s.heap s.heap [] := va_S.rf
  have hl := lv_entry ([.ref h0]) (n := 1) (Nat.le_of_ble_eq_true rfl)
  rw [lg_entry_eq]
  generalize (lg_sl ([.ref h0]) ++ List.replicate (1 - (lg_sl ([.ref h0])).length) Slot.unset).toArray = ls at hl ⊢
  have hl : lv_has ls 1 [(0, .ref h0)] := hl
  refine lv_aload_n hx hb dX0_init_0 rfl (lv_at hl 0 rfl) ?_
  have hw1 := hNC (.methodLinkNest RX0 1 yX7_init RX11) (by decide +kernel)
  have hw2 := hts _ (List.mem_cons_of_mem _ (inG (w := .instanceMethod yX7_init) (by decide +kernel) (by decide +kernel)))
  have hw3 := hts _ (List.mem_cons_of_mem _ (inG (w := .initialized RX7) (by decide +kernel) (by decide +kernel)))
  have hFc := va_free (wc := [(h0, .inr (ci, []))]) hD hS hA [0] rfl
  have hkc : 0 ≤ 0 := by omega
  refine va_callv (va_runIN (As := []) (rest := []) ⟨hx, hb, hml, hown, hts⟩ (c_X7_init l dC dI ci h0 s.heap.size) ⟨va_cnB 0 hts (ctWs_in cd_X7_0) rfl rfl rfl hw1 hw3 (by decide +kernel) ⟨Nat.le_of_ble_eq_true rfl, Nat.le_of_ble_eq_true rfl⟩, rfl, hw2⟩ ⟨fun a U g mk q => by obtain ⟨q0, q1, qP, qK, qD⟩ := q; exact ⟨q0, q1, qP, va_K.moved (u := U) (U := U.calling g mk a) (Vm.Alike.refl U.vm) qK, qD⟩, fun U hU hW => ⟨rfl, by rw [hU], by rw [hU]; exact hP, va_K.moved hW.alike hK, hD.weaken (fun _ _ _ _ => trivial)⟩⟩ rfl rfl hl.1 rfl (lv_room (Nat.le_of_ble_eq_true rfl)) dX0_init_1 ⟨hkc, hkc⟩) hS (fun q _ h => hFc q h) hFc (fun u t H1 locs ht hvm hw hB hz1 hk1 hS => ?_)
  obtain ⟨hP1, hK1, hD1⟩ := hB
  rw [ht] at hP1
  have hK1 := va_K.moved hvm.symm hK1
  exact W.vret hx hb hr (fun t ht hW => ⟨⟨(), rfl, trivial, by rw [ht]; exact hP1, va_K.moved hW.alike hK1, by rw [← hAe]; exact hD1⟩, hS.F ht⟩) hS.2.2 dX0_init_4
theorem cd_X7_5 : Cond.code yX7_init cX7_init 1 none ∈ lw_good := inG (by decide +kernel) (by decide +kernel)
set_option maxHeartbeats 4000000 in
set_option maxRecDepth 100000 in
theorem c_X5_init (l : Launch) (dC : Nat → ClassId) (dI : Nat → Nat → Nat) (ci h0 sz : Nat) : Met l yX5_init (ctWs yX5_init cX5_init) (ctRm 2 0 0) (va_Pc [.ref h0] (fun U => U.heap.size = sz ∧ va_P (dC, dI) vwCl [(h0, .inr (ci, []))] U.heap ∧ va_K (dC, dI) vwCl [] U ∧ va_D (fun _ => True) [(h0, .inr (ci, []))] ∧ NC U)) (va_Qv (fun _ : Unit => True) (fun _ => CtB dC dI (va_A [(h0, .inr (ci, []))] sz) [(h0, .inr (ci, []))] []) (va_A [(h0, .inr (ci, []))] sz)) 0 0 (va_A [(h0, .inr (ci, []))] sz) := by
  refine Met.ofW (cc := cX5_init) (maxL := 1) (ret := none) (by decide) rfl ?_
  intro p e s m args below meth c s₁ B hml hv
  obtain ⟨rfl, hsz, hP, hK, hD0, hNC⟩ := hv
  have hx := B.exec
  have hb := B.bytes
  have hr := B.returns
  have hts := atoms_spec (ws := ctWs yX5_init cX5_init) B.pre
  have hown : s.vm.findClass RX5 = some m.cls := findClass_of_methodNamed B.named
  subst hsz
  have hD := hD0.self (sz := s.heap.size)
  generalize hAe : va_A [(h0, .inr (ci, []))] s.heap.size = A at hD ⊢
  have hA : ∀ q : Nat, s.heap.size ≤ q → A q := fun q h => by rw [← hAe]; exact Or.inr h
  have hS : va_S A s.heap s.heap [] := va_S.rf
  have hl := lv_entry ([.ref h0]) (n := 1) (Nat.le_of_ble_eq_true rfl)
  rw [lg_entry_eq]
  generalize (lg_sl ([.ref h0]) ++ List.replicate (1 - (lg_sl ([.ref h0])).length) Slot.unset).toArray = ls at hl ⊢
  have hl : lv_has ls 1 [(0, .ref h0)] := hl
  refine lv_aload_n hx hb dX5_init_0 rfl (lv_at hl 0 rfl) ?_
  have hw1 := hNC (.methodLinkNest RX5 1 yX7_init RX11) (by decide +kernel)
  have hw2 := hts _ (List.mem_cons_of_mem _ (inG (w := .instanceMethod yX7_init) (by decide +kernel) (by decide +kernel)))
  have hw3 := hts _ (List.mem_cons_of_mem _ (inG (w := .initialized RX7) (by decide +kernel) (by decide +kernel)))
  have hFc := va_free (wc := [(h0, .inr (ci, []))]) hD hS hA [0] rfl
  have hkc : 0 ≤ 0 := by omega
  refine va_callv (va_runIN (As := []) (rest := []) ⟨hx, hb, hml, hown, hts⟩ (c_X7_init l dC dI ci h0 s.heap.size) ⟨va_cnB 0 hts (ctWs_in cd_X7_5) rfl rfl rfl hw1 hw3 (by decide +kernel) ⟨Nat.le_of_ble_eq_true rfl, Nat.le_of_ble_eq_true rfl⟩, rfl, hw2⟩ ⟨fun a U g mk q => by obtain ⟨q0, q1, qP, qK, qD⟩ := q; exact ⟨q0, q1, qP, va_K.moved (u := U) (U := U.calling g mk a) (Vm.Alike.refl U.vm) qK, qD⟩, fun U hU hW => ⟨rfl, by rw [hU], by rw [hU]; exact hP, va_K.moved hW.alike hK, hD.weaken (fun _ _ _ _ => trivial)⟩⟩ rfl rfl hl.1 rfl (lv_room (Nat.le_of_ble_eq_true rfl)) dX5_init_1 ⟨hkc, hkc⟩) hS (fun q _ h => hFc q h) hFc (fun u t H1 locs ht hvm hw hB hz1 hk1 hS => ?_)
  obtain ⟨hP1, hK1, hD1⟩ := hB
  rw [ht] at hP1
  have hK1 := va_K.moved hvm.symm hK1
  exact W.vret hx hb hr (fun t ht hW => ⟨⟨(), rfl, trivial, by rw [ht]; exact hP1, va_K.moved hW.alike hK1, by rw [← hAe]; exact hD1⟩, hS.F ht⟩) hS.2.2 dX5_init_4
theorem cd_X1_4 : Cond.code yX1_init cX1_init 1 none ∈ lw_good := inG (by decide +kernel) (by decide +kernel)
set_option maxHeartbeats 4000000 in
set_option maxRecDepth 100000 in
theorem c_X4_init (l : Launch) (dC : Nat → ClassId) (dI : Nat → Nat → Nat) (ci h0 sz : Nat) : Met l yX4_init (ctWs yX4_init cX4_init) (ctRm 3 0 0) (va_Pc [.ref h0] (fun U => U.heap.size = sz ∧ va_P (dC, dI) vwCl [(h0, .inr (ci, []))] U.heap ∧ va_K (dC, dI) vwCl [] U ∧ va_D (fun _ => True) [(h0, .inr (ci, []))] ∧ NC U)) (va_Qv (fun _ : Unit => True) (fun _ => CtB dC dI (va_A [(h0, .inr (ci, []))] sz) [(h0, .inr (ci, []))] []) (va_A [(h0, .inr (ci, []))] sz)) 0 0 (va_A [(h0, .inr (ci, []))] sz) := by
  refine Met.ofW (cc := cX4_init) (maxL := 1) (ret := none) (by decide) rfl ?_
  intro p e s m args below meth c s₁ B hml hv
  obtain ⟨rfl, hsz, hP, hK, hD0, hNC⟩ := hv
  have hx := B.exec
  have hb := B.bytes
  have hr := B.returns
  have hts := atoms_spec (ws := ctWs yX4_init cX4_init) B.pre
  have hown : s.vm.findClass RX4 = some m.cls := findClass_of_methodNamed B.named
  subst hsz
  have hD := hD0.self (sz := s.heap.size)
  generalize hAe : va_A [(h0, .inr (ci, []))] s.heap.size = A at hD ⊢
  have hA : ∀ q : Nat, s.heap.size ≤ q → A q := fun q h => by rw [← hAe]; exact Or.inr h
  have hS : va_S A s.heap s.heap [] := va_S.rf
  have hl := lv_entry ([.ref h0]) (n := 1) (Nat.le_of_ble_eq_true rfl)
  rw [lg_entry_eq]
  generalize (lg_sl ([.ref h0]) ++ List.replicate (1 - (lg_sl ([.ref h0])).length) Slot.unset).toArray = ls at hl ⊢
  have hl : lv_has ls 1 [(0, .ref h0)] := hl
  refine lv_aload_n hx hb dX4_init_0 rfl (lv_at hl 0 rfl) ?_
  have hw1 := hNC (.methodLinkNest RX4 1 yX1_init RX11) (by decide +kernel)
  have hw2 := hts _ (List.mem_cons_of_mem _ (inG (w := .instanceMethod yX1_init) (by decide +kernel) (by decide +kernel)))
  have hw3 := hts _ (List.mem_cons_of_mem _ (inG (w := .initialized RX1) (by decide +kernel) (by decide +kernel)))
  have hFc := va_free (wc := [(h0, .inr (ci, []))]) hD hS hA [0] rfl
  have hkc : 0 ≤ 0 := by omega
  refine va_callv (va_runIN (As := []) (rest := []) ⟨hx, hb, hml, hown, hts⟩ (c_X1_init l dC dI ci h0 s.heap.size) ⟨va_cnB 0 hts (ctWs_in cd_X1_4) rfl rfl rfl hw1 hw3 (by decide +kernel) ⟨Nat.le_of_ble_eq_true rfl, Nat.le_of_ble_eq_true rfl⟩, rfl, hw2⟩ ⟨fun a U g mk q => by obtain ⟨q0, q1, qP, qK, qD, qN⟩ := q; exact ⟨q0, q1, qP, va_K.moved (u := U) (U := U.calling g mk a) (Vm.Alike.refl U.vm) qK, qD, NC.same (s := U) (U := U.calling g mk a) rfl qN⟩, fun U hU hW => ⟨rfl, by rw [hU], by rw [hU]; exact hP, va_K.moved hW.alike hK, hD.weaken (fun _ _ _ _ => trivial), hNC.warm hW⟩⟩ rfl rfl hl.1 rfl (lv_room (Nat.le_of_ble_eq_true rfl)) dX4_init_1 ⟨hkc, hkc⟩) hS (fun q _ h => hFc q h) hFc (fun u t H1 locs ht hvm hw hB hz1 hk1 hS => ?_)
  obtain ⟨hP1, hK1, hD1⟩ := hB
  rw [ht] at hP1
  have hK1 := va_K.moved hvm.symm hK1
  exact W.vret hx hb hr (fun t ht hW => ⟨⟨(), rfl, trivial, by rw [ht]; exact hP1, va_K.moved hW.alike hK1, by rw [← hAe]; exact hD1⟩, hS.F ht⟩) hS.2.2 dX4_init_4
theorem cd_X0_3 : Cond.code yX0_init cX0_init 1 none ∈ lw_good := inG (by decide +kernel) (by decide +kernel)
set_option maxHeartbeats 4000000 in
set_option maxRecDepth 100000 in
theorem c_X3_init (l : Launch) (dC : Nat → ClassId) (dI : Nat → Nat → Nat) (ci h0 sz : Nat) : Met l yX3_init (ctWs yX3_init cX3_init) (ctRm 3 0 0) (va_Pc [.ref h0] (fun U => U.heap.size = sz ∧ va_P (dC, dI) vwCl [(h0, .inr (ci, []))] U.heap ∧ va_K (dC, dI) vwCl [] U ∧ va_D (fun _ => True) [(h0, .inr (ci, []))] ∧ NC U)) (va_Qv (fun _ : Unit => True) (fun _ => CtB dC dI (va_A [(h0, .inr (ci, []))] sz) [(h0, .inr (ci, []))] []) (va_A [(h0, .inr (ci, []))] sz)) 0 0 (va_A [(h0, .inr (ci, []))] sz) := by
  refine Met.ofW (cc := cX3_init) (maxL := 1) (ret := none) (by decide) rfl ?_
  intro p e s m args below meth c s₁ B hml hv
  obtain ⟨rfl, hsz, hP, hK, hD0, hNC⟩ := hv
  have hx := B.exec
  have hb := B.bytes
  have hr := B.returns
  have hts := atoms_spec (ws := ctWs yX3_init cX3_init) B.pre
  have hown : s.vm.findClass RX3 = some m.cls := findClass_of_methodNamed B.named
  subst hsz
  have hD := hD0.self (sz := s.heap.size)
  generalize hAe : va_A [(h0, .inr (ci, []))] s.heap.size = A at hD ⊢
  have hA : ∀ q : Nat, s.heap.size ≤ q → A q := fun q h => by rw [← hAe]; exact Or.inr h
  have hS : va_S A s.heap s.heap [] := va_S.rf
  have hl := lv_entry ([.ref h0]) (n := 1) (Nat.le_of_ble_eq_true rfl)
  rw [lg_entry_eq]
  generalize (lg_sl ([.ref h0]) ++ List.replicate (1 - (lg_sl ([.ref h0])).length) Slot.unset).toArray = ls at hl ⊢
  have hl : lv_has ls 1 [(0, .ref h0)] := hl
  refine lv_aload_n hx hb dX3_init_0 rfl (lv_at hl 0 rfl) ?_
  have hw1 := hNC (.methodLinkNest RX3 1 yX0_init RX11) (by decide +kernel)
  have hw2 := hts _ (List.mem_cons_of_mem _ (inG (w := .instanceMethod yX0_init) (by decide +kernel) (by decide +kernel)))
  have hw3 := hts _ (List.mem_cons_of_mem _ (inG (w := .initialized RX0) (by decide +kernel) (by decide +kernel)))
  have hFc := va_free (wc := [(h0, .inr (ci, []))]) hD hS hA [0] rfl
  have hkc : 0 ≤ 0 := by omega
  refine va_callv (va_runIN (As := []) (rest := []) ⟨hx, hb, hml, hown, hts⟩ (c_X0_init l dC dI ci h0 s.heap.size) ⟨va_cnB 0 hts (ctWs_in cd_X0_3) rfl rfl rfl hw1 hw3 (by decide +kernel) ⟨Nat.le_of_ble_eq_true rfl, Nat.le_of_ble_eq_true rfl⟩, rfl, hw2⟩ ⟨fun a U g mk q => by obtain ⟨q0, q1, qP, qK, qD, qN⟩ := q; exact ⟨q0, q1, qP, va_K.moved (u := U) (U := U.calling g mk a) (Vm.Alike.refl U.vm) qK, qD, NC.same (s := U) (U := U.calling g mk a) rfl qN⟩, fun U hU hW => ⟨rfl, by rw [hU], by rw [hU]; exact hP, va_K.moved hW.alike hK, hD.weaken (fun _ _ _ _ => trivial), hNC.warm hW⟩⟩ rfl rfl hl.1 rfl (lv_room (Nat.le_of_ble_eq_true rfl)) dX3_init_1 ⟨hkc, hkc⟩) hS (fun q _ h => hFc q h) hFc (fun u t H1 locs ht hvm hw hB hz1 hk1 hS => ?_)
  obtain ⟨hP1, hK1, hD1⟩ := hB
  rw [ht] at hP1
  have hK1 := va_K.moved hvm.symm hK1
  exact W.vret hx hb hr (fun t ht hW => ⟨⟨(), rfl, trivial, by rw [ht]; exact hP1, va_K.moved hW.alike hK1, by rw [← hAe]; exact hD1⟩, hS.F ht⟩) hS.2.2 dX3_init_4
