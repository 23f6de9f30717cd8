/-! constructors that make arrays alone -/
theorem k_X7 (l : Launch) (dC : Nat → ClassId) (dI : Nat → Nat → Nat) : CtM l yX7_init cX7_init (ctRm 1 0 0) dC dI 7 [] (fun _ (_ : Unit) => True) (fun h0 _ => [(h0, .inr (7, []))]) (fun _ => []) 0 0 := fun h0 sz => (c_X7_init l dC dI 7 h0 sz).str (fun a s h => ⟨h.1, h.2.1, h.2.2.1, h.2.2.2.1, h.2.2.2.2.1⟩)
theorem k_X1 (l : Launch) (dC : Nat → ClassId) (dI : Nat → Nat → Nat) : CtM l yX1_init cX1_init (ctRm 2 0 0) dC dI 1 [] (fun _ (_ : Unit) => True) (fun h0 _ => [(h0, .inr (1, []))]) (fun _ => []) 0 0 := fun h0 sz => (c_X1_init l dC dI 1 h0 sz).str (fun a s h => ⟨h.1, h.2.1, h.2.2.1, h.2.2.2.1, h.2.2.2.2.1, h.2.2.2.2.2.1⟩)
theorem k_X0 (l : Launch) (dC : Nat → ClassId) (dI : Nat → Nat → Nat) : CtM l yX0_init cX0_init (ctRm 2 0 0) dC dI 0 [] (fun _ (_ : Unit) => True) (fun h0 _ => [(h0, .inr (0, []))]) (fun _ => []) 0 0 := fun h0 sz => (c_X0_init l dC dI 0 h0 sz).str (fun a s h => ⟨h.1, h.2.1, h.2.2.1, h.2.2.2.1, h.2.2.2.2.1, h.2.2.2.2.2.1⟩)
theorem k_X5 (l : Launch) (dC : Nat → ClassId) (dI : Nat → Nat → Nat) : CtM l yX5_init cX5_init (ctRm 2 0 0) dC dI 5 [] (fun _ (_ : Unit) => True) (fun h0 _ => [(h0, .inr (5, []))]) (fun _ => []) 0 0 := fun h0 sz => (c_X5_init l dC dI 5 h0 sz).str (fun a s h => ⟨h.1, h.2.1, h.2.2.1, h.2.2.2.1, h.2.2.2.2.1, h.2.2.2.2.2.1⟩)
theorem k_X4 (l : Launch) (dC : Nat → ClassId) (dI : Nat → Nat → Nat) : CtM l yX4_init cX4_init (ctRm 3 0 0) dC dI 4 [] (fun _ (_ : Unit) => True) (fun h0 _ => [(h0, .inr (4, []))]) (fun _ => []) 0 0 := fun h0 sz => (c_X4_init l dC dI 4 h0 sz).str (fun a s h => ⟨h.1, h.2.1, h.2.2.1, h.2.2.2.1, h.2.2.2.2.1, h.2.2.2.2.2.1⟩)
theorem k_X3 (l : Launch) (dC : Nat → ClassId) (dI : Nat → Nat → Nat) : CtM l yX3_init cX3_init (ctRm 3 0 0) dC dI 3 [] (fun _ (_ : Unit) => True) (fun h0 _ => [(h0, .inr (3, []))]) (fun _ => []) 0 0 := fun h0 sz => (c_X3_init l dC dI 3 h0 sz).str (fun a s h => ⟨h.1, h.2.1, h.2.2.1, h.2.2.2.1, h.2.2.2.2.1, h.2.2.2.2.2.1⟩)
abbrev wX6 (u : (Nat → Nat) × (Nat → ClassId)) : va_W := [(u.1 0, .inr (6, [.ref (u.1 1), .int 0])), (u.1 1, .inl (u.2 1, 16, .inl (fun _ => 0)))]
abbrev tX6 (u : (Nat → Nat) × (Nat → ClassId)) : List (ClassId × FieldType) := [(u.2 1, .int)]
theorem uw_X6' : ∀ w ∈ u_ws RX6 TX6 2, w ∈ lw_good := fun w hw => inG ((show ∀ w ∈ u_ws RX6 TX6 2, w ∈ lw_tbl by decide +kernel) w hw) ((show ∀ w ∈ u_ws RX6 TX6 2, goodWord w = true by decide +kernel) w hw)
set_option maxHeartbeats 4000000 in
set_option maxRecDepth 100000 in
theorem k_X6 (l : Launch) (dC : Nat → ClassId) (dI : Nat → Nat → Nat) : CtM l yX6_init cX6_init (ctRm 1 1 16) dC dI 6 [.null, .int 0] (fun h0 u => u.1 0 = h0) (fun _ u => wX6 u) (fun u => tX6 u) 1 16 := by
  intro h0 sz
  refine Met.ofW (cc := cX6_init) (maxL := 1) (ret := none) (by decide) rfl ?_
  intro p e s m args below meth c s₁ B hml hv
  obtain ⟨rfl, hsz, hP, hK, hD0, hNQ⟩ := hv
  have hx := B.exec
  have hb := B.bytes
  have hr := B.returns
  have hts := atoms_spec (ws := ctWs yX6_init cX6_init) B.pre
  have htg : ∀ w ∈ lw_good, w.before _ s = true := fun w hw => hts w (List.mem_cons_of_mem _ hw)
  have hown : s.vm.findClass RX6 = some m.cls := findClass_of_methodNamed B.named
  have hin : meth.name = "<init>" := (name_of_methodNamed B.named B.method).1
  subst hsz
  have hD := hD0.self (sz := s.heap.size)
  generalize hAe : va_A [(h0, .inr (6, [.null, .int 0]))] s.heap.size = A at hD ⊢
  have hA : ∀ q : Nat, s.heap.size ≤ q → A q := fun q h => by rw [← hAe]; exact Or.inr h
  have hS : va_S A s.heap s.heap [] := va_S.rf
  have hl := lv_entry ([.ref h0]) (n := 1) (Nat.le_of_ble_eq_true rfl)
  rw [lg_entry_eq]
  generalize (lg_sl ([.ref h0]) ++ List.replicate (1 - (lg_sl ([.ref h0])).length) Slot.unset).toArray = ls at hl ⊢
  have hl : lv_has ls 1 [(0, .ref h0)] := hl
  refine lv_aload_n hx hb dX6_init_0 rfl (lv_at hl 0 rfl) ?_
  have hw1 := htg _ (inG (w := .methodLink RX6 3 objectInit) (by decide +kernel) (by decide +kernel))
  have hw2 := htg _ oi_1
  have hw3 := htg _ (inG (w := .code objectInit ⟨#[0xb1]⟩ 1 none) (by decide +kernel) (by decide +kernel))
  refine W.objInit hx hb hown hw1 hw2 hw3 rfl (by rw [hml]; exact hl.1) rfl dX6_init_1 (Nat.le_of_ble_eq_true rfl) (Nat.le_of_ble_eq_true rfl) ?_
  refine W.eq (g2 := F0 m 4 ls []) rfl ?_
  refine lv_aload_n hx hb dX6_init_4 rfl (lv_at hl 0 rfl) ?_
  refine lv_bipush (v := 16) hx hb dX6_init_5 (by decide) ?_
  refine ct_arr (ref := "MiserBridges$Past") (index := 9) tyX6 hx hb htg uw_X6' tyX6_ok nmX6 hown hK hP hD hS hA rfl 0 (by decide) (inG (w := .fieldLink RX6 9 "MiserBridges$Past" "states" "[I") (by decide +kernel) (by decide +kernel)) rfl rfl hin rfl .int .int rfl (inG (w := .arrayClass .int) (by decide +kernel) (by decide +kernel)) 16 (16, .inl (fun _ => 0)) (fun _ => rfl) (by decide) (by decide +kernel) (by decide +kernel) (Nat.le_of_ble_eq_true rfl) (Nat.le_of_ble_eq_true rfl) (by decide +kernel) (Nat.le_of_ble_eq_true rfl) dX6_init_7 dX6_init_9 (fun q1 cA1 H locs hK hP hD hS => ?_)
  exact W.vret hx hb hr (fun t ht hW => ⟨⟨(fun k => [h0, q1].getD k 0, fun k => [cA1, cA1].getD k cA1), rfl, rfl, by rw [ht]; exact hP, va_K.moved hW.alike hK, hD⟩, hS.F ht⟩) hS.2.2 dX6_init_12

abbrev wX10 (u : (Nat → Nat) × (Nat → ClassId)) : va_W := [(u.1 0, .inr (10, [.ref (u.1 1), .int 0, .int 0, .int 0, .int 0, .int 0])), (u.1 1, .inl (u.2 1, 200, .inl (fun _ => 0)))]
abbrev tX10 (u : (Nat → Nat) × (Nat → ClassId)) : List (ClassId × FieldType) := [(u.2 1, .int)]
theorem uw_X10' : ∀ w ∈ u_ws RX10 TX10 6, w ∈ lw_good := fun w hw => inG ((show ∀ w ∈ u_ws RX10 TX10 6, w ∈ lw_tbl by decide +kernel) w hw) ((show ∀ w ∈ u_ws RX10 TX10 6, goodWord w = true by decide +kernel) w hw)
set_option maxHeartbeats 4000000 in
set_option maxRecDepth 100000 in
theorem k_X10 (l : Launch) (dC : Nat → ClassId) (dI : Nat → Nat → Nat) : CtM l yX10_init cX10_init (ctRm 1 1 200) dC dI 10 [.null, .int 0, .int 0, .int 0, .int 0, .int 0] (fun h0 u => u.1 0 = h0) (fun _ u => wX10 u) (fun u => tX10 u) 1 200 := by
  intro h0 sz
  refine Met.ofW (cc := cX10_init) (maxL := 1) (ret := none) (by decide) rfl ?_
  intro p e s m args below meth c s₁ B hml hv
  obtain ⟨rfl, hsz, hP, hK, hD0, hNQ⟩ := hv
  have hx := B.exec
  have hb := B.bytes
  have hr := B.returns
  have hts := atoms_spec (ws := ctWs yX10_init cX10_init) B.pre
  have htg : ∀ w ∈ lw_good, w.before _ s = true := fun w hw => hts w (List.mem_cons_of_mem _ hw)
  have hown : s.vm.findClass RX10 = some m.cls := findClass_of_methodNamed B.named
  have hin : meth.name = "<init>" := (name_of_methodNamed B.named B.method).1
  subst hsz
  have hD := hD0.self (sz := s.heap.size)
  generalize hAe : va_A [(h0, .inr (10, [.null, .int 0, .int 0, .int 0, .int 0, .int 0]))] s.heap.size = A at hD ⊢
  have hA : ∀ q : Nat, s.heap.size ≤ q → A q := fun q h => by rw [← hAe]; exact Or.inr h
  have hS : va_S A s.heap s.heap [] := va_S.rf
  have hl := lv_entry ([.ref h0]) (n := 1) (Nat.le_of_ble_eq_true rfl)
  rw [lg_entry_eq]
  generalize (lg_sl ([.ref h0]) ++ List.replicate (1 - (lg_sl ([.ref h0])).length) Slot.unset).toArray = ls at hl ⊢
  have hl : lv_has ls 1 [(0, .ref h0)] := hl
  refine lv_aload_n hx hb dX10_init_0 rfl (lv_at hl 0 rfl) ?_
  have hw1 := htg _ (inG (w := .methodLink RX10 3 objectInit) (by decide +kernel) (by decide +kernel))
  have hw2 := htg _ oi_1
  have hw3 := htg _ (inG (w := .code objectInit ⟨#[0xb1]⟩ 1 none) (by decide +kernel) (by decide +kernel))
  refine W.objInit hx hb hown hw1 hw2 hw3 rfl (by rw [hml]; exact hl.1) rfl dX10_init_1 (Nat.le_of_ble_eq_true rfl) (Nat.le_of_ble_eq_true rfl) ?_
  refine W.eq (g2 := F0 m 4 ls []) rfl ?_
  refine lv_aload_n hx hb dX10_init_4 rfl (lv_at hl 0 rfl) ?_
  refine lv_sipush (v := 200) hx hb dX10_init_5 (by decide) ?_
  refine ct_arr (ref := "MiserBridges$Text") (index := 9) tyX10 hx hb htg uw_X10' tyX10_ok nmX10 hown hK hP hD hS hA rfl 0 (by decide) (inG (w := .fieldLink RX10 9 "MiserBridges$Text" "bytes" "[I") (by decide +kernel) (by decide +kernel)) rfl rfl hin rfl .int .int rfl (inG (w := .arrayClass .int) (by decide +kernel) (by decide +kernel)) 200 (200, .inl (fun _ => 0)) (fun _ => rfl) (by decide) (by decide +kernel) (by decide +kernel) (Nat.le_of_ble_eq_true rfl) (Nat.le_of_ble_eq_true rfl) (by decide +kernel) (Nat.le_of_ble_eq_true rfl) dX10_init_8 dX10_init_10 (fun q1 cA1 H locs hK hP hD hS => ?_)
  exact W.vret hx hb hr (fun t ht hW => ⟨⟨(fun k => [h0, q1].getD k 0, fun k => [cA1, cA1].getD k cA1), rfl, rfl, by rw [ht]; exact hP, va_K.moved hW.alike hK, hD⟩, hS.F ht⟩) hS.2.2 dX10_init_13

abbrev wX8 (u : (Nat → Nat) × (Nat → ClassId)) : va_W := [(u.1 0, .inr (8, [.ref (u.1 1), .int 0])), (u.1 1, .inl (u.2 1, 3, .inl (fun _ => 0)))]
abbrev tX8 (u : (Nat → Nat) × (Nat → ClassId)) : List (ClassId × FieldType) := [(u.2 1, .int)]
theorem uw_X8' : ∀ w ∈ u_ws RX8 TX8 2, w ∈ lw_good := fun w hw => inG ((show ∀ w ∈ u_ws RX8 TX8 2, w ∈ lw_tbl by decide +kernel) w hw) ((show ∀ w ∈ u_ws RX8 TX8 2, goodWord w = true by decide +kernel) w hw)
set_option maxHeartbeats 4000000 in
set_option maxRecDepth 100000 in
theorem k_X8 (l : Launch) (dC : Nat → ClassId) (dI : Nat → Nat → Nat) : CtM l yX8_init cX8_init (ctRm 1 1 3) dC dI 8 [.null, .int 0] (fun h0 u => u.1 0 = h0) (fun _ u => wX8 u) (fun u => tX8 u) 1 3 := by
  intro h0 sz
  refine Met.ofW (cc := cX8_init) (maxL := 1) (ret := none) (by decide) rfl ?_
  intro p e s m args below meth c s₁ B hml hv
  obtain ⟨rfl, hsz, hP, hK, hD0, hNQ⟩ := hv
  have hx := B.exec
  have hb := B.bytes
  have hr := B.returns
  have hts := atoms_spec (ws := ctWs yX8_init cX8_init) B.pre
  have htg : ∀ w ∈ lw_good, w.before _ s = true := fun w hw => hts w (List.mem_cons_of_mem _ hw)
  have hown : s.vm.findClass RX8 = some m.cls := findClass_of_methodNamed B.named
  have hin : meth.name = "<init>" := (name_of_methodNamed B.named B.method).1
  subst hsz
  have hD := hD0.self (sz := s.heap.size)
  generalize hAe : va_A [(h0, .inr (8, [.null, .int 0]))] s.heap.size = A at hD ⊢
  have hA : ∀ q : Nat, s.heap.size ≤ q → A q := fun q h => by rw [← hAe]; exact Or.inr h
  have hS : va_S A s.heap s.heap [] := va_S.rf
  have hl := lv_entry ([.ref h0]) (n := 1) (Nat.le_of_ble_eq_true rfl)
  rw [lg_entry_eq]
  generalize (lg_sl ([.ref h0]) ++ List.replicate (1 - (lg_sl ([.ref h0])).length) Slot.unset).toArray = ls at hl ⊢
  have hl : lv_has ls 1 [(0, .ref h0)] := hl
  refine lv_aload_n hx hb dX8_init_0 rfl (lv_at hl 0 rfl) ?_
  have hw1 := htg _ (inG (w := .methodLink RX8 3 objectInit) (by decide +kernel) (by decide +kernel))
  have hw2 := htg _ oi_1
  have hw3 := htg _ (inG (w := .code objectInit ⟨#[0xb1]⟩ 1 none) (by decide +kernel) (by decide +kernel))
  refine W.objInit hx hb hown hw1 hw2 hw3 rfl (by rw [hml]; exact hl.1) rfl dX8_init_1 (Nat.le_of_ble_eq_true rfl) (Nat.le_of_ble_eq_true rfl) ?_
  refine W.eq (g2 := F0 m 4 ls []) rfl ?_
  refine lv_aload_n hx hb dX8_init_4 rfl (lv_at hl 0 rfl) ?_
  refine lv_iconst (v := 3) hx hb dX8_init_5 (by decide) ?_
  refine ct_arr (ref := "MiserBridges$Reader") (index := 9) tyX8 hx hb htg uw_X8' tyX8_ok nmX8 hown hK hP hD hS hA rfl 0 (by decide) (inG (w := .fieldLink RX8 9 "MiserBridges$Reader" "numbers" "[I") (by decide +kernel) (by decide +kernel)) rfl rfl hin rfl .int .int rfl (inG (w := .arrayClass .int) (by decide +kernel) (by decide +kernel)) 3 (3, .inl (fun _ => 0)) (fun _ => rfl) (by decide) (by decide +kernel) (by decide +kernel) (Nat.le_of_ble_eq_true rfl) (Nat.le_of_ble_eq_true rfl) (by decide +kernel) (Nat.le_of_ble_eq_true rfl) dX8_init_6 dX8_init_8 (fun q1 cA1 H locs hK hP hD hS => ?_)
  exact W.vret hx hb hr (fun t ht hW => ⟨⟨(fun k => [h0, q1].getD k 0, fun k => [cA1, cA1].getD k cA1), rfl, rfl, by rw [ht]; exact hP, va_K.moved hW.alike hK, hD⟩, hS.F ht⟩) hS.2.2 dX8_init_11

abbrev wX9 (u : (Nat → Nat) × (Nat → ClassId)) : va_W := [(u.1 0, .inr (9, [.ref (u.1 1), .ref (u.1 2), .int 0, .int 0, .int 0])), (u.1 1, .inl (u.2 1, 9000, .inl (fun _ => 0))), (u.1 2, .inl (u.2 2, 500, .inr (.inl (fun _ => 0))))]
abbrev tX9 (u : (Nat → Nat) × (Nat → ClassId)) : List (ClassId × FieldType) := [(u.2 1, .int), (u.2 2, .long)]
theorem uw_X9' : ∀ w ∈ u_ws RX9 TX9 5, w ∈ lw_good := fun w hw => inG ((show ∀ w ∈ u_ws RX9 TX9 5, w ∈ lw_tbl by decide +kernel) w hw) ((show ∀ w ∈ u_ws RX9 TX9 5, goodWord w = true by decide +kernel) w hw)
set_option maxHeartbeats 4000000 in
set_option maxRecDepth 100000 in
theorem k_X9 (l : Launch) (dC : Nat → ClassId) (dI : Nat → Nat → Nat) : CtM l yX9_init cX9_init (ctRm 1 2 9500) dC dI 9 [.null, .null, .int 0, .int 0, .int 0] (fun h0 u => u.1 0 = h0) (fun _ u => wX9 u) (fun u => tX9 u) 2 9500 := by
  intro h0 sz
  refine Met.ofW (cc := cX9_init) (maxL := 1) (ret := none) (by decide) rfl ?_
  intro p e s m args below meth c s₁ B hml hv
  obtain ⟨rfl, hsz, hP, hK, hD0, hNQ⟩ := hv
  have hx := B.exec
  have hb := B.bytes
  have hr := B.returns
  have hts := atoms_spec (ws := ctWs yX9_init cX9_init) B.pre
  have htg : ∀ w ∈ lw_good, w.before _ s = true := fun w hw => hts w (List.mem_cons_of_mem _ hw)
  have hown : s.vm.findClass RX9 = some m.cls := findClass_of_methodNamed B.named
  have hin : meth.name = "<init>" := (name_of_methodNamed B.named B.method).1
  subst hsz
  have hD := hD0.self (sz := s.heap.size)
  generalize hAe : va_A [(h0, .inr (9, [.null, .null, .int 0, .int 0, .int 0]))] s.heap.size = A at hD ⊢
  have hA : ∀ q : Nat, s.heap.size ≤ q → A q := fun q h => by rw [← hAe]; exact Or.inr h
  have hS : va_S A s.heap s.heap [] := va_S.rf
  have hl := lv_entry ([.ref h0]) (n := 1) (Nat.le_of_ble_eq_true rfl)
  rw [lg_entry_eq]
  generalize (lg_sl ([.ref h0]) ++ List.replicate (1 - (lg_sl ([.ref h0])).length) Slot.unset).toArray = ls at hl ⊢
  have hl : lv_has ls 1 [(0, .ref h0)] := hl
  refine lv_aload_n hx hb dX9_init_0 rfl (lv_at hl 0 rfl) ?_
  have hw1 := htg _ (inG (w := .methodLink RX9 3 objectInit) (by decide +kernel) (by decide +kernel))
  have hw2 := htg _ oi_1
  have hw3 := htg _ (inG (w := .code objectInit ⟨#[0xb1]⟩ 1 none) (by decide +kernel) (by decide +kernel))
  refine W.objInit hx hb hown hw1 hw2 hw3 rfl (by rw [hml]; exact hl.1) rfl dX9_init_1 (Nat.le_of_ble_eq_true rfl) (Nat.le_of_ble_eq_true rfl) ?_
  refine W.eq (g2 := F0 m 4 ls []) rfl ?_
  refine lv_aload_n hx hb dX9_init_4 rfl (lv_at hl 0 rfl) ?_
  refine lv_sipush (v := 9000) hx hb dX9_init_5 (by decide) ?_
  refine ct_arr (ref := "MiserBridges$Search") (index := 9) tyX9 hx hb htg uw_X9' tyX9_ok nmX9 hown hK hP hD hS hA rfl 0 (by decide) (inG (w := .fieldLink RX9 9 "MiserBridges$Search" "states" "[I") (by decide +kernel) (by decide +kernel)) rfl rfl hin rfl .int .int rfl (inG (w := .arrayClass .int) (by decide +kernel) (by decide +kernel)) 9000 (9000, .inl (fun _ => 0)) (fun _ => rfl) (by decide) (by decide +kernel) (by decide +kernel) (Nat.le_of_ble_eq_true rfl) (Nat.le_of_ble_eq_true rfl) (by decide +kernel) (Nat.le_of_ble_eq_true rfl) dX9_init_8 dX9_init_10 (fun q1 cA1 H locs hK hP hD hS => ?_)
  refine lv_aload_n hx hb dX9_init_13 rfl (lv_at hl 0 rfl) ?_
  refine lv_sipush (v := 500) hx hb dX9_init_14 (by decide) ?_
  refine ct_arr (ref := "MiserBridges$Search") (index := 15) tyX9 hx hb htg uw_X9' tyX9_ok nmX9 hown hK hP hD hS hA rfl 1 (by decide) (inG (w := .fieldLink RX9 15 "MiserBridges$Search" "seen" "[J") (by decide +kernel) (by decide +kernel)) rfl rfl hin rfl .long .long rfl (inG (w := .arrayClass .long) (by decide +kernel) (by decide +kernel)) 500 (500, .inr (.inl (fun _ => 0))) (fun _ => rfl) (by decide) (by decide +kernel) (by decide +kernel) (Nat.le_of_ble_eq_true rfl) (Nat.le_of_ble_eq_true rfl) (by decide +kernel) (Nat.le_of_ble_eq_true rfl) dX9_init_17 dX9_init_19 (fun q2 cA2 H locs hK hP hD hS => ?_)
  exact W.vret hx hb hr (fun t ht hW => ⟨⟨(fun k => [h0, q1, q2].getD k 0, fun k => [cA1, cA1, cA2].getD k cA1), rfl, rfl, by rw [ht]; exact hP, va_K.moved hW.alike hK, hD⟩, hS.F ht⟩) hS.2.2 dX9_init_22

abbrev wX12 (u : (Nat → Nat) × (Nat → ClassId)) : va_W := [(u.1 0, .inr (12, [.ref (u.1 1), .ref (u.1 2), .ref (u.1 3), .int 0, .ref (u.1 4), .ref (u.1 5), .int 0, .ref (u.1 6), .ref (u.1 7), .ref (u.1 8), .int 0, .ref (u.1 9), .int 0, .ref (u.1 10), .ref (u.1 11), .int 0, .int 0, .int 0, .ref (u.1 12), .ref (u.1 13), .int 0, .ref (u.1 14), .ref (u.1 15), .long 0])), (u.1 1, .inl (u.2 1, 440, .inl (fun _ => 0))), (u.1 2, .inl (u.2 2, 2, .inl (fun _ => 0))), (u.1 3, .inl (u.2 3, 200, .inl (fun _ => 0))), (u.1 4, .inl (u.2 4, 3, .inl (fun _ => 0))), (u.1 5, .inl (u.2 5, 5, .inl (fun _ => 0))), (u.1 6, .inl (u.2 6, 3, .inl (fun _ => 0))), (u.1 7, .inl (u.2 7, 3, .inl (fun _ => 0))), (u.1 8, .inl (u.2 8, 3, .inl (fun _ => 0))), (u.1 9, .inl (u.2 9, 3, .inl (fun _ => 0))), (u.1 10, .inl (u.2 10, 40, .inl (fun _ => 0))), (u.1 11, .inl (u.2 11, 120, .inl (fun _ => 0))), (u.1 12, .inl (u.2 12, 32000, .inl (fun _ => 0))), (u.1 13, .inl (u.2 13, 32000, .inl (fun _ => 0))), (u.1 14, .inl (u.2 14, 10240, .inl (fun _ => 0))), (u.1 15, .inl (u.2 15, 10240, .inl (fun _ => 0)))]
abbrev tX12 (u : (Nat → Nat) × (Nat → ClassId)) : List (ClassId × FieldType) := [(u.2 1, .int), (u.2 2, .boolean), (u.2 3, .int), (u.2 4, .int), (u.2 5, .int), (u.2 6, .int), (u.2 7, .int), (u.2 8, .int), (u.2 9, .int), (u.2 10, .int), (u.2 11, .int), (u.2 12, .int), (u.2 13, .int), (u.2 14, .int), (u.2 15, .int)]
theorem uw_X12' : ∀ w ∈ u_ws RX12 TX12 24, w ∈ lw_good := fun w hw => inG ((show ∀ w ∈ u_ws RX12 TX12 24, w ∈ lw_tbl by decide +kernel) w hw) ((show ∀ w ∈ u_ws RX12 TX12 24, goodWord w = true by decide +kernel) w hw)
set_option maxHeartbeats 4000000 in
set_option maxRecDepth 100000 in
theorem k_X12 (l : Launch) (dC : Nat → ClassId) (dI : Nat → Nat → Nat) : CtM l yX12_init cX12_init (ctRm 1 15 85302) dC dI 12 [.null, .null, .null, .int 0, .null, .null, .int 0, .null, .null, .null, .int 0, .null, .int 0, .null, .null, .int 0, .int 0, .int 0, .null, .null, .int 0, .null, .null, .long 0] (fun h0 u => u.1 0 = h0) (fun _ u => wX12 u) (fun u => tX12 u) 15 85302 := by
  intro h0 sz
  refine Met.ofW (cc := cX12_init) (maxL := 1) (ret := none) (by decide) rfl ?_
  intro p e s m args below meth c s₁ B hml hv
  obtain ⟨rfl, hsz, hP, hK, hD0, hNQ⟩ := hv
  have hx := B.exec
  have hb := B.bytes
  have hr := B.returns
  have hts := atoms_spec (ws := ctWs yX12_init cX12_init) B.pre
  have htg : ∀ w ∈ lw_good, w.before _ s = true := fun w hw => hts w (List.mem_cons_of_mem _ hw)
  have hown : s.vm.findClass RX12 = some m.cls := findClass_of_methodNamed B.named
  have hin : meth.name = "<init>" := (name_of_methodNamed B.named B.method).1
  subst hsz
  have hD := hD0.self (sz := s.heap.size)
  generalize hAe : va_A [(h0, .inr (12, [.null, .null, .null, .int 0, .null, .null, .int 0, .null, .null, .null, .int 0, .null, .int 0, .null, .null, .int 0, .int 0, .int 0, .null, .null, .int 0, .null, .null, .long 0]))] s.heap.size = A at hD ⊢
  have hA : ∀ q : Nat, s.heap.size ≤ q → A q := fun q h => by rw [← hAe]; exact Or.inr h
  have hS : va_S A s.heap s.heap [] := va_S.rf
  have hl := lv_entry ([.ref h0]) (n := 1) (Nat.le_of_ble_eq_true rfl)
  rw [lg_entry_eq]
  generalize (lg_sl ([.ref h0]) ++ List.replicate (1 - (lg_sl ([.ref h0])).length) Slot.unset).toArray = ls at hl ⊢
  have hl : lv_has ls 1 [(0, .ref h0)] := hl
  refine lv_aload_n hx hb dX12_init_0 rfl (lv_at hl 0 rfl) ?_
  have hw1 := htg _ (inG (w := .methodLink RX12 1 objectInit) (by decide +kernel) (by decide +kernel))
  have hw2 := htg _ oi_1
  have hw3 := htg _ (inG (w := .code objectInit ⟨#[0xb1]⟩ 1 none) (by decide +kernel) (by decide +kernel))
  refine W.objInit hx hb hown hw1 hw2 hw3 rfl (by rw [hml]; exact hl.1) rfl dX12_init_1 (Nat.le_of_ble_eq_true rfl) (Nat.le_of_ble_eq_true rfl) ?_
  refine W.eq (g2 := F0 m 4 ls []) rfl ?_
  refine lv_aload_n hx hb dX12_init_4 rfl (lv_at hl 0 rfl) ?_
  refine lv_sipush (v := 440) hx hb dX12_init_5 (by decide) ?_
  refine ct_arr (ref := "MiserBridgesModel") (index := 7) tyX12 hx hb htg uw_X12' tyX12_ok nmX12 hown hK hP hD hS hA rfl 0 (by decide) (inG (w := .fieldLink RX12 7 "MiserBridgesModel" "w" "[I") (by decide +kernel) (by decide +kernel)) rfl rfl hin rfl .int .int rfl (inG (w := .arrayClass .int) (by decide +kernel) (by decide +kernel)) 440 (440, .inl (fun _ => 0)) (fun _ => rfl) (by decide) (by decide +kernel) (by decide +kernel) (Nat.le_of_ble_eq_true rfl) (Nat.le_of_ble_eq_true rfl) (by decide +kernel) (Nat.le_of_ble_eq_true rfl) dX12_init_8 dX12_init_10 (fun q1 cA1 H locs hK hP hD hS => ?_)
  refine lv_aload_n hx hb dX12_init_13 rfl (lv_at hl 0 rfl) ?_
  refine lv_iconst (v := 2) hx hb dX12_init_14 (by decide) ?_
  refine ct_arr (ref := "MiserBridgesModel") (index := 13) tyX12 hx hb htg uw_X12' tyX12_ok nmX12 hown hK hP hD hS hA rfl 1 (by decide) (inG (w := .fieldLink RX12 13 "MiserBridgesModel" "isKept" "[Z") (by decide +kernel) (by decide +kernel)) rfl rfl hin rfl .boolean .boolean rfl (inG (w := .arrayClass .boolean) (by decide +kernel) (by decide +kernel)) 2 (2, .inl (fun _ => 0)) (fun _ => rfl) (by decide) (by decide +kernel) (by decide +kernel) (Nat.le_of_ble_eq_true rfl) (Nat.le_of_ble_eq_true rfl) (by decide +kernel) (Nat.le_of_ble_eq_true rfl) dX12_init_15 dX12_init_17 (fun q2 cA2 H locs hK hP hD hS => ?_)
  refine lv_aload_n hx hb dX12_init_20 rfl (lv_at hl 0 rfl) ?_
  refine lv_sipush (v := 200) hx hb dX12_init_21 (by decide) ?_
  refine ct_arr (ref := "MiserBridgesModel") (index := 17) tyX12 hx hb htg uw_X12' tyX12_ok nmX12 hown hK hP hD hS hA rfl 2 (by decide) (inG (w := .fieldLink RX12 17 "MiserBridgesModel" "text" "[I") (by decide +kernel) (by decide +kernel)) rfl rfl hin rfl .int .int rfl (inG (w := .arrayClass .int) (by decide +kernel) (by decide +kernel)) 200 (200, .inl (fun _ => 0)) (fun _ => rfl) (by decide) (by decide +kernel) (by decide +kernel) (Nat.le_of_ble_eq_true rfl) (Nat.le_of_ble_eq_true rfl) (by decide +kernel) (Nat.le_of_ble_eq_true rfl) dX12_init_24 dX12_init_26 (fun q3 cA3 H locs hK hP hD hS => ?_)
  refine lv_aload_n hx hb dX12_init_29 rfl (lv_at hl 0 rfl) ?_
  refine lv_iconst (v := 3) hx hb dX12_init_30 (by decide) ?_
  refine ct_arr (ref := "MiserBridgesModel") (index := 20) tyX12 hx hb htg uw_X12' tyX12_ok nmX12 hown hK hP hD hS hA rfl 4 (by decide) (inG (w := .fieldLink RX12 20 "MiserBridgesModel" "refused" "[I") (by decide +kernel) (by decide +kernel)) rfl rfl hin rfl .int .int rfl (inG (w := .arrayClass .int) (by decide +kernel) (by decide +kernel)) 3 (3, .inl (fun _ => 0)) (fun _ => rfl) (by decide) (by decide +kernel) (by decide +kernel) (Nat.le_of_ble_eq_true rfl) (Nat.le_of_ble_eq_true rfl) (by decide +kernel) (Nat.le_of_ble_eq_true rfl) dX12_init_31 dX12_init_33 (fun q4 cA4 H locs hK hP hD hS => ?_)
  refine lv_aload_n hx hb dX12_init_36 rfl (lv_at hl 0 rfl) ?_
  refine lv_iconst (v := 5) hx hb dX12_init_37 (by decide) ?_
  refine ct_arr (ref := "MiserBridgesModel") (index := 23) tyX12 hx hb htg uw_X12' tyX12_ok nmX12 hown hK hP hD hS hA rfl 5 (by decide) (inG (w := .fieldLink RX12 23 "MiserBridgesModel" "stones" "[I") (by decide +kernel) (by decide +kernel)) rfl rfl hin rfl .int .int rfl (inG (w := .arrayClass .int) (by decide +kernel) (by decide +kernel)) 5 (5, .inl (fun _ => 0)) (fun _ => rfl) (by decide) (by decide +kernel) (by decide +kernel) (Nat.le_of_ble_eq_true rfl) (Nat.le_of_ble_eq_true rfl) (by decide +kernel) (Nat.le_of_ble_eq_true rfl) dX12_init_38 dX12_init_40 (fun q5 cA5 H locs hK hP hD hS => ?_)
  refine lv_aload_n hx hb dX12_init_43 rfl (lv_at hl 0 rfl) ?_
  refine lv_iconst (v := 3) hx hb dX12_init_44 (by decide) ?_
  refine ct_arr (ref := "MiserBridgesModel") (index := 26) tyX12 hx hb htg uw_X12' tyX12_ok nmX12 hown hK hP hD hS hA rfl 7 (by decide) (inG (w := .fieldLink RX12 26 "MiserBridgesModel" "ones" "[I") (by decide +kernel) (by decide +kernel)) rfl rfl hin rfl .int .int rfl (inG (w := .arrayClass .int) (by decide +kernel) (by decide +kernel)) 3 (3, .inl (fun _ => 0)) (fun _ => rfl) (by decide) (by decide +kernel) (by decide +kernel) (Nat.le_of_ble_eq_true rfl) (Nat.le_of_ble_eq_true rfl) (by decide +kernel) (Nat.le_of_ble_eq_true rfl) dX12_init_45 dX12_init_47 (fun q6 cA6 H locs hK hP hD hS => ?_)
  refine lv_aload_n hx hb dX12_init_50 rfl (lv_at hl 0 rfl) ?_
  refine lv_iconst (v := 3) hx hb dX12_init_51 (by decide) ?_
  refine ct_arr (ref := "MiserBridgesModel") (index := 29) tyX12 hx hb htg uw_X12' tyX12_ok nmX12 hown hK hP hD hS hA rfl 8 (by decide) (inG (w := .fieldLink RX12 29 "MiserBridgesModel" "others" "[I") (by decide +kernel) (by decide +kernel)) rfl rfl hin rfl .int .int rfl (inG (w := .arrayClass .int) (by decide +kernel) (by decide +kernel)) 3 (3, .inl (fun _ => 0)) (fun _ => rfl) (by decide) (by decide +kernel) (by decide +kernel) (Nat.le_of_ble_eq_true rfl) (Nat.le_of_ble_eq_true rfl) (by decide +kernel) (Nat.le_of_ble_eq_true rfl) dX12_init_52 dX12_init_54 (fun q7 cA7 H locs hK hP hD hS => ?_)
  refine lv_aload_n hx hb dX12_init_57 rfl (lv_at hl 0 rfl) ?_
  refine lv_iconst (v := 3) hx hb dX12_init_58 (by decide) ?_
  refine ct_arr (ref := "MiserBridgesModel") (index := 32) tyX12 hx hb htg uw_X12' tyX12_ok nmX12 hown hK hP hD hS hA rfl 9 (by decide) (inG (w := .fieldLink RX12 32 "MiserBridgesModel" "rusts" "[I") (by decide +kernel) (by decide +kernel)) rfl rfl hin rfl .int .int rfl (inG (w := .arrayClass .int) (by decide +kernel) (by decide +kernel)) 3 (3, .inl (fun _ => 0)) (fun _ => rfl) (by decide) (by decide +kernel) (by decide +kernel) (Nat.le_of_ble_eq_true rfl) (Nat.le_of_ble_eq_true rfl) (by decide +kernel) (Nat.le_of_ble_eq_true rfl) dX12_init_59 dX12_init_61 (fun q8 cA8 H locs hK hP hD hS => ?_)
  refine lv_aload_n hx hb dX12_init_64 rfl (lv_at hl 0 rfl) ?_
  refine lv_iconst (v := 3) hx hb dX12_init_65 (by decide) ?_
  refine ct_arr (ref := "MiserBridgesModel") (index := 35) tyX12 hx hb htg uw_X12' tyX12_ok nmX12 hown hK hP hD hS hA rfl 11 (by decide) (inG (w := .fieldLink RX12 35 "MiserBridgesModel" "place" "[I") (by decide +kernel) (by decide +kernel)) rfl rfl hin rfl .int .int rfl (inG (w := .arrayClass .int) (by decide +kernel) (by decide +kernel)) 3 (3, .inl (fun _ => 0)) (fun _ => rfl) (by decide) (by decide +kernel) (by decide +kernel) (Nat.le_of_ble_eq_true rfl) (Nat.le_of_ble_eq_true rfl) (by decide +kernel) (Nat.le_of_ble_eq_true rfl) dX12_init_66 dX12_init_68 (fun q9 cA9 H locs hK hP hD hS => ?_)
  refine lv_aload_n hx hb dX12_init_71 rfl (lv_at hl 0 rfl) ?_
  refine lv_bipush (v := 40) hx hb dX12_init_72 (by decide) ?_
  refine ct_arr (ref := "MiserBridgesModel") (index := 38) tyX12 hx hb htg uw_X12' tyX12_ok nmX12 hown hK hP hD hS hA rfl 13 (by decide) (inG (w := .fieldLink RX12 38 "MiserBridgesModel" "itemWord" "[I") (by decide +kernel) (by decide +kernel)) rfl rfl hin rfl .int .int rfl (inG (w := .arrayClass .int) (by decide +kernel) (by decide +kernel)) 40 (40, .inl (fun _ => 0)) (fun _ => rfl) (by decide) (by decide +kernel) (by decide +kernel) (Nat.le_of_ble_eq_true rfl) (Nat.le_of_ble_eq_true rfl) (by decide +kernel) (Nat.le_of_ble_eq_true rfl) dX12_init_74 dX12_init_76 (fun q10 cA10 H locs hK hP hD hS => ?_)
  refine lv_aload_n hx hb dX12_init_79 rfl (lv_at hl 0 rfl) ?_
  refine lv_bipush (v := 120) hx hb dX12_init_80 (by decide) ?_
  refine ct_arr (ref := "MiserBridgesModel") (index := 41) tyX12 hx hb htg uw_X12' tyX12_ok nmX12 hown hK hP hD hS hA rfl 14 (by decide) (inG (w := .fieldLink RX12 41 "MiserBridgesModel" "number" "[I") (by decide +kernel) (by decide +kernel)) rfl rfl hin rfl .int .int rfl (inG (w := .arrayClass .int) (by decide +kernel) (by decide +kernel)) 120 (120, .inl (fun _ => 0)) (fun _ => rfl) (by decide) (by decide +kernel) (by decide +kernel) (Nat.le_of_ble_eq_true rfl) (Nat.le_of_ble_eq_true rfl) (by decide +kernel) (Nat.le_of_ble_eq_true rfl) dX12_init_82 dX12_init_84 (fun q11 cA11 H locs hK hP hD hS => ?_)
  refine lv_aload_n hx hb dX12_init_87 rfl (lv_at hl 0 rfl) ?_
  refine lv_sipush (v := 32000) hx hb dX12_init_88 (by decide) ?_
  refine ct_arr (ref := "MiserBridgesModel") (index := 44) tyX12 hx hb htg uw_X12' tyX12_ok nmX12 hown hK hP hD hS hA rfl 18 (by decide) (inG (w := .fieldLink RX12 44 "MiserBridgesModel" "cameBy" "[I") (by decide +kernel) (by decide +kernel)) rfl rfl hin rfl .int .int rfl (inG (w := .arrayClass .int) (by decide +kernel) (by decide +kernel)) 32000 (32000, .inl (fun _ => 0)) (fun _ => rfl) (by decide) (by decide +kernel) (by decide +kernel) (Nat.le_of_ble_eq_true rfl) (Nat.le_of_ble_eq_true rfl) (by decide +kernel) (Nat.le_of_ble_eq_true rfl) dX12_init_91 dX12_init_93 (fun q12 cA12 H locs hK hP hD hS => ?_)
  refine lv_aload_n hx hb dX12_init_96 rfl (lv_at hl 0 rfl) ?_
  refine lv_sipush (v := 32000) hx hb dX12_init_97 (by decide) ?_
  refine ct_arr (ref := "MiserBridgesModel") (index := 47) tyX12 hx hb htg uw_X12' tyX12_ok nmX12 hown hK hP hD hS hA rfl 19 (by decide) (inG (w := .fieldLink RX12 47 "MiserBridgesModel" "order" "[I") (by decide +kernel) (by decide +kernel)) rfl rfl hin rfl .int .int rfl (inG (w := .arrayClass .int) (by decide +kernel) (by decide +kernel)) 32000 (32000, .inl (fun _ => 0)) (fun _ => rfl) (by decide) (by decide +kernel) (by decide +kernel) (Nat.le_of_ble_eq_true rfl) (Nat.le_of_ble_eq_true rfl) (by decide +kernel) (Nat.le_of_ble_eq_true rfl) dX12_init_100 dX12_init_102 (fun q13 cA13 H locs hK hP hD hS => ?_)
  refine lv_aload_n hx hb dX12_init_105 rfl (lv_at hl 0 rfl) ?_
  refine lv_sipush (v := 10240) hx hb dX12_init_106 (by decide) ?_
  refine ct_arr (ref := "MiserBridgesModel") (index := 50) tyX12 hx hb htg uw_X12' tyX12_ok nmX12 hown hK hP hD hS hA rfl 21 (by decide) (inG (w := .fieldLink RX12 50 "MiserBridgesModel" "rows" "[I") (by decide +kernel) (by decide +kernel)) rfl rfl hin rfl .int .int rfl (inG (w := .arrayClass .int) (by decide +kernel) (by decide +kernel)) 10240 (10240, .inl (fun _ => 0)) (fun _ => rfl) (by decide) (by decide +kernel) (by decide +kernel) (Nat.le_of_ble_eq_true rfl) (Nat.le_of_ble_eq_true rfl) (by decide +kernel) (Nat.le_of_ble_eq_true rfl) dX12_init_109 dX12_init_111 (fun q14 cA14 H locs hK hP hD hS => ?_)
  refine lv_aload_n hx hb dX12_init_114 rfl (lv_at hl 0 rfl) ?_
  refine lv_sipush (v := 10240) hx hb dX12_init_115 (by decide) ?_
  refine ct_arr (ref := "MiserBridgesModel") (index := 53) tyX12 hx hb htg uw_X12' tyX12_ok nmX12 hown hK hP hD hS hA rfl 22 (by decide) (inG (w := .fieldLink RX12 53 "MiserBridgesModel" "rowsThen" "[I") (by decide +kernel) (by decide +kernel)) rfl rfl hin rfl .int .int rfl (inG (w := .arrayClass .int) (by decide +kernel) (by decide +kernel)) 10240 (10240, .inl (fun _ => 0)) (fun _ => rfl) (by decide) (by decide +kernel) (by decide +kernel) (Nat.le_of_ble_eq_true rfl) (Nat.le_of_ble_eq_true rfl) (by decide +kernel) (Nat.le_of_ble_eq_true rfl) dX12_init_118 dX12_init_120 (fun q15 cA15 H locs hK hP hD hS => ?_)
  exact W.vret hx hb hr (fun t ht hW => ⟨⟨(fun k => [h0, q1, q2, q3, q4, q5, q6, q7, q8, q9, q10, q11, q12, q13, q14, q15].getD k 0, fun k => [cA1, cA1, cA2, cA3, cA4, cA5, cA6, cA7, cA8, cA9, cA10, cA11, cA12, cA13, cA14, cA15].getD k cA1), rfl, rfl, by rw [ht]; exact hP, va_K.moved hW.alike hK, hD⟩, hS.F ht⟩) hS.2.2 dX12_init_123

