/-! the constructor of Fort -/
theorem arrV_cong {cI : ClassId} {N : Nat} {f g : Nat → Value} (h : ∀ j, j < N → f j = g j) : arrV cI N f = arrV cI N g := by
  have e : (fun j : Fin N => f j.val) = (fun j : Fin N => g j.val) := funext fun j => h j.val j.isLt
  show ({ cls := cI, slots := Array.ofFn (n := N) fun j => f j.val, vm := .none } : Cell) = { cls := cI, slots := Array.ofFn (n := N) fun j => g j.val, vm := .none }
  rw [e]
theorem arr_norm {D : va_G} {cl : List vw_C} {ws : va_W} {H : Heap} (i : Nat) {a : Nat} {cA : ClassId} {n : Nat} {f g : Nat → Option Nat} (hP : va_P D cl ws H) (hi : ws[i]? = some (a, .inl (cA, n, .inr (.inr (.inr (.inr f)))))) (hfg : ∀ j, j < n → f j = g j) : va_P D cl (ws.set i (a, .inl (cA, n, .inr (.inr (.inr (.inr g)))))) H := by
  intro k q hk
  by_cases h : k = i
  · subst h
    have hl := (List.getElem?_eq_some_iff.mp hi).1
    rw [List.getElem?_set_self hl] at hk
    cases hk
    have h2 : H[a]? = some (vp_cell cA (n, .inr (.inr (.inr (.inr f))))) := hP k _ hi
    show H[a]? = some (vp_cell cA (n, .inr (.inr (.inr (.inr g)))))
    rw [h2, vp_cell_q, vp_cell_q, arrV_cong (fun j hj => by rw [hfg j hj])]
  · rw [List.getElem?_set_ne (fun e => h e.symm)] at hk
    exact hP k q hk
abbrev ftW (a : Nat → Nat) (c : Nat → ClassId) : va_W := [(a 0, .inr (2, [.ref (a 1), .int 0, .ref (a 8), .ref (a 9), .ref (a 10), .ref (a 11), .int 0, .int 0, .ref (a 12), .ref (a 13), .ref (a 14), .int 0, .ref (a 15), .ref (a 16), .ref (a 17)])), (a 1, .inl (c 1, 6, .inr (.inr (.inr (.inr (fun i => some (a (2 + i)))))))), (a 2, .inr (7, [])), (a 3, .inr (1, [])), (a 4, .inr (0, [])), (a 5, .inr (5, [])), (a 6, .inr (4, [])), (a 7, .inr (3, [])), (a 8, .inl (c 8, 5, .inl (fun _ => 0))), (a 9, .inl (c 9, 5, .inl (fun _ => 0))), (a 10, .inl (c 10, 5, .inl (fun _ => 0))), (a 11, .inl (c 11, 5, .inl (fun _ => 0))), (a 12, .inl (c 12, 2, .inl (fun _ => 0))), (a 13, .inl (c 13, 2, .inl (fun _ => 0))), (a 14, .inl (c 14, 2, .inl (fun _ => 0))), (a 15, .inl (c 15, 3, .inl (fun _ => 0))), (a 16, .inl (c 16, 3, .inl (fun _ => 0))), (a 17, .inr (6, [.ref (a 18), .int 0])), (a 18, .inl (c 18, 16, .inl (fun _ => 0)))]
abbrev ftT (c : Nat → ClassId) : List (ClassId × FieldType) := [(c 1, .object RX7), (c 8, .int), (c 9, .int), (c 10, .int), (c 11, .int), (c 12, .int), (c 13, .int), (c 14, .int), (c 15, .int), (c 16, .int), (c 18, .int)]
theorem uw_X2' : ∀ w ∈ u_ws RX2 TX2 15, w ∈ lw_good := fun w hw => inG ((show ∀ w ∈ u_ws RX2 TX2 15, w ∈ lw_tbl by decide +kernel) w hw) ((show ∀ w ∈ u_ws RX2 TX2 15, goodWord w = true by decide +kernel) w hw)
set_option maxHeartbeats 4000000 in
set_option maxRecDepth 100000 in
theorem k_X2 (l : Launch) (dC : Nat → ClassId) (dI : Nat → Nat → Nat) : CtM l yX2_init cX2_init (ctRm 4 18 56) dC dI 2 [.null, .int 0, .null, .null, .null, .null, .int 0, .int 0, .null, .null, .null, .int 0, .null, .null, .null] (fun h0 (u : (Nat → Nat) × (Nat → ClassId)) => u.1 0 = h0) (fun _ u => ftW u.1 u.2) (fun u => ftT u.2) 18 56 := by
  intro h0 sz
  refine Met.ofW (cc := cX2_init) (maxL := 1) (ret := none) (by decide) rfl ?_
  intro p e s m args below meth c s₁ B hml hv
  obtain ⟨rfl, hsz, hP, hK, hD0, hNQ⟩ := hv
  have hx := B.exec
  have hb := B.bytes
  have hr := B.returns
  have hts := atoms_spec (ws := ctWs yX2_init cX2_init) B.pre
  have htg : ∀ w ∈ lw_good, w.before _ s = true := fun w hw => hts w (List.mem_cons_of_mem _ hw)
  have hown : s.vm.findClass RX2 = some m.cls := findClass_of_methodNamed B.named
  have hin : meth.name = "<init>" := (name_of_methodNamed B.named B.method).1
  subst hsz
  have hD := hD0.self (sz := s.heap.size)
  generalize hAe : va_A [(h0, .inr (2, [.null, .int 0, .null, .null, .null, .null, .int 0, .int 0, .null, .null, .null, .int 0, .null, .null, .null]))] s.heap.size = A at hD ⊢
  have hA : ∀ q : Nat, s.heap.size ≤ q → A q := fun q h => by rw [← hAe]; exact Or.inr h
  have hS : va_S A s.heap s.heap [] := va_S.rf
  have hl := lv_entry ([.ref h0]) (n := 1) (Nat.le_of_ble_eq_true rfl)
  rw [lg_entry_eq]
  generalize (lg_sl ([.ref h0]) ++ List.replicate (1 - (lg_sl ([.ref h0])).length) Slot.unset).toArray = ls at hl ⊢
  have hl : lv_has ls 1 [(0, .ref h0)] := hl
  refine lv_aload_n hx hb dX2_init_0 rfl (lv_at hl 0 rfl) ?_
  have hw1 := htg _ (inG (w := .methodLink RX2 3 objectInit) (by decide +kernel) (by decide +kernel))
  have hw2 := htg _ oi_1
  have hw3 := htg _ (inG (w := .code objectInit ⟨#[0xb1]⟩ 1 none) (by decide +kernel) (by decide +kernel))
  refine W.objInit hx hb hown hw1 hw2 hw3 rfl (by rw [hml]; exact hl.1) rfl dX2_init_1 (Nat.le_of_ble_eq_true rfl) (Nat.le_of_ble_eq_true rfl) ?_
  refine W.eq (g2 := F0 m 4 ls []) rfl ?_
  refine lv_aload_n hx hb dX2_init_4 rfl (lv_at hl 0 rfl) ?_
  refine lv_bipush (v := 6) hx hb dX2_init_5 (by decide) ?_
  refine va_newq (C := RX7) (index := 9) (N' := 6) hx hb hown (htg _ (inG (w := .classLink RX2 9 RX7) (by decide +kernel) (by decide +kernel))) hNQ.2.1.1 hK hP hD hS hA (by decide) (by decide +kernel) (by decide) (Nat.le_of_ble_eq_true rfl) (Nat.le_of_ble_eq_true rfl) dX2_init_7 (fun q1 cA1 H hK hP hD hS => ?_)
  obtain ⟨f0, hf0⟩ : ∃ f : Nat → Option Nat, f = (fun _ => none) := ⟨_, rfl⟩
  rw [← hf0] at hP hD
  refine lv_dup hx hb dX2_init_10 rfl ?_
  refine lv_iconst (v := 0) hx hb dX2_init_11 (by decide) ?_
  refine ct_objN tyX7 (k_X7 l dC dI) ⟨hx, hb, hml, hown, hts⟩ (fun w hw => List.mem_cons_of_mem _ hw) (fun w hw => absurd hw (List.not_mem_nil)) tyX7_ok (inG (w := .classLink RX2 9 RX7) (by decide +kernel) (by decide +kernel)) (inG (w := .instantiable RX7 0) (by decide +kernel) (by decide +kernel)) (inG (w := .initialized RX7) (by decide +kernel) (by decide +kernel)) rfl rfl (inG (w := .instanceMethod yX7_init) (by decide +kernel) (by decide +kernel)) (inG (w := .code yX7_init cX7_init 1 none) (by decide +kernel) (by decide +kernel)) (iy := 11) (by decide +kernel) (by decide +kernel) ⟨rfl, rfl⟩ ⟨Nat.le_of_ble_eq_true rfl, Nat.le_of_ble_eq_true rfl⟩ hNQ hK hP hD hS hA rfl (fun j hj => absurd hj (Nat.not_lt_zero j)) (Nat.le_of_ble_eq_true rfl) (Nat.le_of_ble_eq_true rfl) hl.1 (Nat.le_of_ble_eq_true rfl) dX2_init_12 dX2_init_15 dX2_init_16 (fun q2 u2 H locs _ hK hP hD hS => ?_)
  have hP : va_P (dC, dI) vwCl [(h0, .inr (2, [.null, .int 0, .null, .null, .null, .null, .int 0, .int 0, .null, .null, .null, .int 0, .null, .null, .null])), (q1, .inl (cA1, 6, .inr (.inr (.inr (.inr f0))))), (q2, .inr (7, []))] H := hP
  have hD : va_D A [(h0, .inr (2, [.null, .int 0, .null, .null, .null, .null, .int 0, .int 0, .null, .null, .null, .int 0, .null, .null, .null])), (q1, .inl (cA1, 6, .inr (.inr (.inr (.inr f0))))), (q2, .inr (7, []))] := hD
  refine va_astq hx hb hK hP hD hS 1 0 2 7 rfl rfl  rfl rfl (by unfold vp_in; decide) dX2_init_19 (fun H locs hP hD hS => ?_)
  obtain ⟨f1, hf1⟩ : ∃ f : Nat → Option Nat, f = va_up f0 (Int32.toNatClampNeg 0) (some q2) := ⟨_, rfl⟩
  rw [← hf1] at hP hD
  have hP : va_P (dC, dI) vwCl [(h0, .inr (2, [.null, .int 0, .null, .null, .null, .null, .int 0, .int 0, .null, .null, .null, .int 0, .null, .null, .null])), (q1, .inl (cA1, 6, .inr (.inr (.inr (.inr f1))))), (q2, .inr (7, []))] H := hP
  have hD : va_D A [(h0, .inr (2, [.null, .int 0, .null, .null, .null, .null, .int 0, .int 0, .null, .null, .null, .int 0, .null, .null, .null])), (q1, .inl (cA1, 6, .inr (.inr (.inr (.inr f1))))), (q2, .inr (7, []))] := hD
  refine lv_dup hx hb dX2_init_20 rfl ?_
  refine lv_iconst (v := 1) hx hb dX2_init_21 (by decide) ?_
  refine ct_objN tyX1 (k_X1 l dC dI) ⟨hx, hb, hml, hown, hts⟩ (fun w hw => List.mem_cons_of_mem _ hw) (fun w hw => absurd hw (List.not_mem_nil)) tyX1_ok (inG (w := .classLink RX2 12 RX1) (by decide +kernel) (by decide +kernel)) (inG (w := .instantiable RX1 0) (by decide +kernel) (by decide +kernel)) (inG (w := .initialized RX1) (by decide +kernel) (by decide +kernel)) rfl rfl (inG (w := .instanceMethod yX1_init) (by decide +kernel) (by decide +kernel)) (inG (w := .code yX1_init cX1_init 1 none) (by decide +kernel) (by decide +kernel)) (iy := 14) (by decide +kernel) (by decide +kernel) ⟨rfl, rfl⟩ ⟨Nat.le_of_ble_eq_true rfl, Nat.le_of_ble_eq_true rfl⟩ hNQ hK hP hD hS hA rfl (fun j hj => absurd hj (Nat.not_lt_zero j)) (Nat.le_of_ble_eq_true rfl) (Nat.le_of_ble_eq_true rfl) hl.1 (Nat.le_of_ble_eq_true rfl) dX2_init_22 dX2_init_25 dX2_init_26 (fun q3 u3 H locs _ hK hP hD hS => ?_)
  have hP : va_P (dC, dI) vwCl [(h0, .inr (2, [.null, .int 0, .null, .null, .null, .null, .int 0, .int 0, .null, .null, .null, .int 0, .null, .null, .null])), (q1, .inl (cA1, 6, .inr (.inr (.inr (.inr f1))))), (q2, .inr (7, [])), (q3, .inr (1, []))] H := hP
  have hD : va_D A [(h0, .inr (2, [.null, .int 0, .null, .null, .null, .null, .int 0, .int 0, .null, .null, .null, .int 0, .null, .null, .null])), (q1, .inl (cA1, 6, .inr (.inr (.inr (.inr f1))))), (q2, .inr (7, [])), (q3, .inr (1, []))] := hD
  refine va_astqO (E := RX7) hx hb hK hP hD hS 1 0 3 1 rfl rfl (hNQ.2.2 RX1 (by decide)) rfl rfl (by unfold vp_in; decide) dX2_init_29 (fun H locs hP hD hS => ?_)
  obtain ⟨f2, hf2⟩ : ∃ f : Nat → Option Nat, f = va_up f1 (Int32.toNatClampNeg 1) (some q3) := ⟨_, rfl⟩
  rw [← hf2] at hP hD
  have hP : va_P (dC, dI) vwCl [(h0, .inr (2, [.null, .int 0, .null, .null, .null, .null, .int 0, .int 0, .null, .null, .null, .int 0, .null, .null, .null])), (q1, .inl (cA1, 6, .inr (.inr (.inr (.inr f2))))), (q2, .inr (7, [])), (q3, .inr (1, []))] H := hP
  have hD : va_D A [(h0, .inr (2, [.null, .int 0, .null, .null, .null, .null, .int 0, .int 0, .null, .null, .null, .int 0, .null, .null, .null])), (q1, .inl (cA1, 6, .inr (.inr (.inr (.inr f2))))), (q2, .inr (7, [])), (q3, .inr (1, []))] := hD
  refine lv_dup hx hb dX2_init_30 rfl ?_
  refine lv_iconst (v := 2) hx hb dX2_init_31 (by decide) ?_
  refine ct_objN tyX0 (k_X0 l dC dI) ⟨hx, hb, hml, hown, hts⟩ (fun w hw => List.mem_cons_of_mem _ hw) (fun w hw => absurd hw (List.not_mem_nil)) tyX0_ok (inG (w := .classLink RX2 15 RX0) (by decide +kernel) (by decide +kernel)) (inG (w := .instantiable RX0 0) (by decide +kernel) (by decide +kernel)) (inG (w := .initialized RX0) (by decide +kernel) (by decide +kernel)) rfl rfl (inG (w := .instanceMethod yX0_init) (by decide +kernel) (by decide +kernel)) (inG (w := .code yX0_init cX0_init 1 none) (by decide +kernel) (by decide +kernel)) (iy := 17) (by decide +kernel) (by decide +kernel) ⟨rfl, rfl⟩ ⟨Nat.le_of_ble_eq_true rfl, Nat.le_of_ble_eq_true rfl⟩ hNQ hK hP hD hS hA rfl (fun j hj => absurd hj (Nat.not_lt_zero j)) (Nat.le_of_ble_eq_true rfl) (Nat.le_of_ble_eq_true rfl) hl.1 (Nat.le_of_ble_eq_true rfl) dX2_init_32 dX2_init_35 dX2_init_36 (fun q4 u4 H locs _ hK hP hD hS => ?_)
  have hP : va_P (dC, dI) vwCl [(h0, .inr (2, [.null, .int 0, .null, .null, .null, .null, .int 0, .int 0, .null, .null, .null, .int 0, .null, .null, .null])), (q1, .inl (cA1, 6, .inr (.inr (.inr (.inr f2))))), (q2, .inr (7, [])), (q3, .inr (1, [])), (q4, .inr (0, []))] H := hP
  have hD : va_D A [(h0, .inr (2, [.null, .int 0, .null, .null, .null, .null, .int 0, .int 0, .null, .null, .null, .int 0, .null, .null, .null])), (q1, .inl (cA1, 6, .inr (.inr (.inr (.inr f2))))), (q2, .inr (7, [])), (q3, .inr (1, [])), (q4, .inr (0, []))] := hD
  refine va_astqO (E := RX7) hx hb hK hP hD hS 1 0 4 0 rfl rfl (hNQ.2.2 RX0 (by decide)) rfl rfl (by unfold vp_in; decide) dX2_init_39 (fun H locs hP hD hS => ?_)
  obtain ⟨f3, hf3⟩ : ∃ f : Nat → Option Nat, f = va_up f2 (Int32.toNatClampNeg 2) (some q4) := ⟨_, rfl⟩
  rw [← hf3] at hP hD
  have hP : va_P (dC, dI) vwCl [(h0, .inr (2, [.null, .int 0, .null, .null, .null, .null, .int 0, .int 0, .null, .null, .null, .int 0, .null, .null, .null])), (q1, .inl (cA1, 6, .inr (.inr (.inr (.inr f3))))), (q2, .inr (7, [])), (q3, .inr (1, [])), (q4, .inr (0, []))] H := hP
  have hD : va_D A [(h0, .inr (2, [.null, .int 0, .null, .null, .null, .null, .int 0, .int 0, .null, .null, .null, .int 0, .null, .null, .null])), (q1, .inl (cA1, 6, .inr (.inr (.inr (.inr f3))))), (q2, .inr (7, [])), (q3, .inr (1, [])), (q4, .inr (0, []))] := hD
  refine lv_dup hx hb dX2_init_40 rfl ?_
  refine lv_iconst (v := 3) hx hb dX2_init_41 (by decide) ?_
  refine ct_objN tyX5 (k_X5 l dC dI) ⟨hx, hb, hml, hown, hts⟩ (fun w hw => List.mem_cons_of_mem _ hw) (fun w hw => absurd hw (List.not_mem_nil)) tyX5_ok (inG (w := .classLink RX2 18 RX5) (by decide +kernel) (by decide +kernel)) (inG (w := .instantiable RX5 0) (by decide +kernel) (by decide +kernel)) (inG (w := .initialized RX5) (by decide +kernel) (by decide +kernel)) rfl rfl (inG (w := .instanceMethod yX5_init) (by decide +kernel) (by decide +kernel)) (inG (w := .code yX5_init cX5_init 1 none) (by decide +kernel) (by decide +kernel)) (iy := 20) (by decide +kernel) (by decide +kernel) ⟨rfl, rfl⟩ ⟨Nat.le_of_ble_eq_true rfl, Nat.le_of_ble_eq_true rfl⟩ hNQ hK hP hD hS hA rfl (fun j hj => absurd hj (Nat.not_lt_zero j)) (Nat.le_of_ble_eq_true rfl) (Nat.le_of_ble_eq_true rfl) hl.1 (Nat.le_of_ble_eq_true rfl) dX2_init_42 dX2_init_45 dX2_init_46 (fun q5 u5 H locs _ hK hP hD hS => ?_)
  have hP : va_P (dC, dI) vwCl [(h0, .inr (2, [.null, .int 0, .null, .null, .null, .null, .int 0, .int 0, .null, .null, .null, .int 0, .null, .null, .null])), (q1, .inl (cA1, 6, .inr (.inr (.inr (.inr f3))))), (q2, .inr (7, [])), (q3, .inr (1, [])), (q4, .inr (0, [])), (q5, .inr (5, []))] H := hP
  have hD : va_D A [(h0, .inr (2, [.null, .int 0, .null, .null, .null, .null, .int 0, .int 0, .null, .null, .null, .int 0, .null, .null, .null])), (q1, .inl (cA1, 6, .inr (.inr (.inr (.inr f3))))), (q2, .inr (7, [])), (q3, .inr (1, [])), (q4, .inr (0, [])), (q5, .inr (5, []))] := hD
  refine va_astqO (E := RX7) hx hb hK hP hD hS 1 0 5 5 rfl rfl (hNQ.2.2 RX5 (by decide)) rfl rfl (by unfold vp_in; decide) dX2_init_49 (fun H locs hP hD hS => ?_)
  obtain ⟨f4, hf4⟩ : ∃ f : Nat → Option Nat, f = va_up f3 (Int32.toNatClampNeg 3) (some q5) := ⟨_, rfl⟩
  rw [← hf4] at hP hD
  have hP : va_P (dC, dI) vwCl [(h0, .inr (2, [.null, .int 0, .null, .null, .null, .null, .int 0, .int 0, .null, .null, .null, .int 0, .null, .null, .null])), (q1, .inl (cA1, 6, .inr (.inr (.inr (.inr f4))))), (q2, .inr (7, [])), (q3, .inr (1, [])), (q4, .inr (0, [])), (q5, .inr (5, []))] H := hP
  have hD : va_D A [(h0, .inr (2, [.null, .int 0, .null, .null, .null, .null, .int 0, .int 0, .null, .null, .null, .int 0, .null, .null, .null])), (q1, .inl (cA1, 6, .inr (.inr (.inr (.inr f4))))), (q2, .inr (7, [])), (q3, .inr (1, [])), (q4, .inr (0, [])), (q5, .inr (5, []))] := hD
  refine lv_dup hx hb dX2_init_50 rfl ?_
  refine lv_iconst (v := 4) hx hb dX2_init_51 (by decide) ?_
  refine ct_objN tyX4 (k_X4 l dC dI) ⟨hx, hb, hml, hown, hts⟩ (fun w hw => List.mem_cons_of_mem _ hw) (fun w hw => absurd hw (List.not_mem_nil)) tyX4_ok (inG (w := .classLink RX2 21 RX4) (by decide +kernel) (by decide +kernel)) (inG (w := .instantiable RX4 0) (by decide +kernel) (by decide +kernel)) (inG (w := .initialized RX4) (by decide +kernel) (by decide +kernel)) rfl rfl (inG (w := .instanceMethod yX4_init) (by decide +kernel) (by decide +kernel)) (inG (w := .code yX4_init cX4_init 1 none) (by decide +kernel) (by decide +kernel)) (iy := 23) (by decide +kernel) (by decide +kernel) ⟨rfl, rfl⟩ ⟨Nat.le_of_ble_eq_true rfl, Nat.le_of_ble_eq_true rfl⟩ hNQ hK hP hD hS hA rfl (fun j hj => absurd hj (Nat.not_lt_zero j)) (Nat.le_of_ble_eq_true rfl) (Nat.le_of_ble_eq_true rfl) hl.1 (Nat.le_of_ble_eq_true rfl) dX2_init_52 dX2_init_55 dX2_init_56 (fun q6 u6 H locs _ hK hP hD hS => ?_)
  have hP : va_P (dC, dI) vwCl [(h0, .inr (2, [.null, .int 0, .null, .null, .null, .null, .int 0, .int 0, .null, .null, .null, .int 0, .null, .null, .null])), (q1, .inl (cA1, 6, .inr (.inr (.inr (.inr f4))))), (q2, .inr (7, [])), (q3, .inr (1, [])), (q4, .inr (0, [])), (q5, .inr (5, [])), (q6, .inr (4, []))] H := hP
  have hD : va_D A [(h0, .inr (2, [.null, .int 0, .null, .null, .null, .null, .int 0, .int 0, .null, .null, .null, .int 0, .null, .null, .null])), (q1, .inl (cA1, 6, .inr (.inr (.inr (.inr f4))))), (q2, .inr (7, [])), (q3, .inr (1, [])), (q4, .inr (0, [])), (q5, .inr (5, [])), (q6, .inr (4, []))] := hD
  refine va_astqO (E := RX7) hx hb hK hP hD hS 1 0 6 4 rfl rfl (hNQ.2.2 RX4 (by decide)) rfl rfl (by unfold vp_in; decide) dX2_init_59 (fun H locs hP hD hS => ?_)
  obtain ⟨f5, hf5⟩ : ∃ f : Nat → Option Nat, f = va_up f4 (Int32.toNatClampNeg 4) (some q6) := ⟨_, rfl⟩
  rw [← hf5] at hP hD
  have hP : va_P (dC, dI) vwCl [(h0, .inr (2, [.null, .int 0, .null, .null, .null, .null, .int 0, .int 0, .null, .null, .null, .int 0, .null, .null, .null])), (q1, .inl (cA1, 6, .inr (.inr (.inr (.inr f5))))), (q2, .inr (7, [])), (q3, .inr (1, [])), (q4, .inr (0, [])), (q5, .inr (5, [])), (q6, .inr (4, []))] H := hP
  have hD : va_D A [(h0, .inr (2, [.null, .int 0, .null, .null, .null, .null, .int 0, .int 0, .null, .null, .null, .int 0, .null, .null, .null])), (q1, .inl (cA1, 6, .inr (.inr (.inr (.inr f5))))), (q2, .inr (7, [])), (q3, .inr (1, [])), (q4, .inr (0, [])), (q5, .inr (5, [])), (q6, .inr (4, []))] := hD
  refine lv_dup hx hb dX2_init_60 rfl ?_
  refine lv_iconst (v := 5) hx hb dX2_init_61 (by decide) ?_
  refine ct_objN tyX3 (k_X3 l dC dI) ⟨hx, hb, hml, hown, hts⟩ (fun w hw => List.mem_cons_of_mem _ hw) (fun w hw => absurd hw (List.not_mem_nil)) tyX3_ok (inG (w := .classLink RX2 24 RX3) (by decide +kernel) (by decide +kernel)) (inG (w := .instantiable RX3 0) (by decide +kernel) (by decide +kernel)) (inG (w := .initialized RX3) (by decide +kernel) (by decide +kernel)) rfl rfl (inG (w := .instanceMethod yX3_init) (by decide +kernel) (by decide +kernel)) (inG (w := .code yX3_init cX3_init 1 none) (by decide +kernel) (by decide +kernel)) (iy := 26) (by decide +kernel) (by decide +kernel) ⟨rfl, rfl⟩ ⟨Nat.le_of_ble_eq_true rfl, Nat.le_of_ble_eq_true rfl⟩ hNQ hK hP hD hS hA rfl (fun j hj => absurd hj (Nat.not_lt_zero j)) (Nat.le_of_ble_eq_true rfl) (Nat.le_of_ble_eq_true rfl) hl.1 (Nat.le_of_ble_eq_true rfl) dX2_init_62 dX2_init_65 dX2_init_66 (fun q7 u7 H locs _ hK hP hD hS => ?_)
  have hP : va_P (dC, dI) vwCl [(h0, .inr (2, [.null, .int 0, .null, .null, .null, .null, .int 0, .int 0, .null, .null, .null, .int 0, .null, .null, .null])), (q1, .inl (cA1, 6, .inr (.inr (.inr (.inr f5))))), (q2, .inr (7, [])), (q3, .inr (1, [])), (q4, .inr (0, [])), (q5, .inr (5, [])), (q6, .inr (4, [])), (q7, .inr (3, []))] H := hP
  have hD : va_D A [(h0, .inr (2, [.null, .int 0, .null, .null, .null, .null, .int 0, .int 0, .null, .null, .null, .int 0, .null, .null, .null])), (q1, .inl (cA1, 6, .inr (.inr (.inr (.inr f5))))), (q2, .inr (7, [])), (q3, .inr (1, [])), (q4, .inr (0, [])), (q5, .inr (5, [])), (q6, .inr (4, [])), (q7, .inr (3, []))] := hD
  refine va_astqO (E := RX7) hx hb hK hP hD hS 1 0 7 3 rfl rfl (hNQ.2.2 RX3 (by decide)) rfl rfl (by unfold vp_in; decide) dX2_init_69 (fun H locs hP hD hS => ?_)
  obtain ⟨f6, hf6⟩ : ∃ f : Nat → Option Nat, f = va_up f5 (Int32.toNatClampNeg 5) (some q7) := ⟨_, rfl⟩
  rw [← hf6] at hP hD
  have hP : va_P (dC, dI) vwCl [(h0, .inr (2, [.null, .int 0, .null, .null, .null, .null, .int 0, .int 0, .null, .null, .null, .int 0, .null, .null, .null])), (q1, .inl (cA1, 6, .inr (.inr (.inr (.inr f6))))), (q2, .inr (7, [])), (q3, .inr (1, [])), (q4, .inr (0, [])), (q5, .inr (5, [])), (q6, .inr (4, [])), (q7, .inr (3, []))] H := hP
  have hD : va_D A [(h0, .inr (2, [.null, .int 0, .null, .null, .null, .null, .int 0, .int 0, .null, .null, .null, .int 0, .null, .null, .null])), (q1, .inl (cA1, 6, .inr (.inr (.inr (.inr f6))))), (q2, .inr (7, [])), (q3, .inr (1, [])), (q4, .inr (0, [])), (q5, .inr (5, [])), (q6, .inr (4, [])), (q7, .inr (3, []))] := hD
  refine ct_put (ref := "MiserBridges$Fort") (index := 27) tyX2 hx hb htg uw_X2' tyX2_ok nmX2 hown hK hP hD hS rfl 0 (by decide) (inG (w := .fieldLink RX2 27 "MiserBridges$Fort" "kinds" "[LMiserBridges$Plain;") (by decide +kernel) (by decide +kernel)) rfl rfl hin rfl (ft := .array (.object "MiserBridges$Plain")) (v := .ref q1) (by decide +kernel) rfl rfl (Nat.le_of_ble_eq_true rfl) dX2_init_70 (fun H locs hP hD hS => ?_)
  refine lv_aload_n hx hb dX2_init_73 rfl (lv_at hl 0 rfl) ?_
  refine lv_iconst (v := 5) hx hb dX2_init_74 (by decide) ?_
  refine ct_arr (ref := "MiserBridges$Fort") (index := 33) tyX2 hx hb htg uw_X2' tyX2_ok nmX2 hown hK hP hD hS hA rfl 2 (by decide) (inG (w := .fieldLink RX2 33 "MiserBridges$Fort" "roomA" "[I") (by decide +kernel) (by decide +kernel)) rfl rfl hin rfl .int .int rfl (inG (w := .arrayClass .int) (by decide +kernel) (by decide +kernel)) 5 (5, .inl (fun _ => 0)) (fun _ => rfl) (by decide) (by decide +kernel) (by decide +kernel) (Nat.le_of_ble_eq_true rfl) (Nat.le_of_ble_eq_true rfl) (by decide +kernel) (Nat.le_of_ble_eq_true rfl) dX2_init_75 dX2_init_77 (fun q8 cA8 H locs hK hP hD hS => ?_)
  refine lv_aload_n hx hb dX2_init_80 rfl (lv_at hl 0 rfl) ?_
  refine lv_iconst (v := 5) hx hb dX2_init_81 (by decide) ?_
  refine ct_arr (ref := "MiserBridges$Fort") (index := 37) tyX2 hx hb htg uw_X2' tyX2_ok nmX2 hown hK hP hD hS hA rfl 3 (by decide) (inG (w := .fieldLink RX2 37 "MiserBridges$Fort" "roomB" "[I") (by decide +kernel) (by decide +kernel)) rfl rfl hin rfl .int .int rfl (inG (w := .arrayClass .int) (by decide +kernel) (by decide +kernel)) 5 (5, .inl (fun _ => 0)) (fun _ => rfl) (by decide) (by decide +kernel) (by decide +kernel) (Nat.le_of_ble_eq_true rfl) (Nat.le_of_ble_eq_true rfl) (by decide +kernel) (Nat.le_of_ble_eq_true rfl) dX2_init_82 dX2_init_84 (fun q9 cA9 H locs hK hP hD hS => ?_)
  refine lv_aload_n hx hb dX2_init_87 rfl (lv_at hl 0 rfl) ?_
  refine lv_iconst (v := 5) hx hb dX2_init_88 (by decide) ?_
  refine ct_arr (ref := "MiserBridges$Fort") (index := 40) tyX2 hx hb htg uw_X2' tyX2_ok nmX2 hown hK hP hD hS hA rfl 4 (by decide) (inG (w := .fieldLink RX2 40 "MiserBridges$Fort" "kind" "[I") (by decide +kernel) (by decide +kernel)) rfl rfl hin rfl .int .int rfl (inG (w := .arrayClass .int) (by decide +kernel) (by decide +kernel)) 5 (5, .inl (fun _ => 0)) (fun _ => rfl) (by decide) (by decide +kernel) (by decide +kernel) (Nat.le_of_ble_eq_true rfl) (Nat.le_of_ble_eq_true rfl) (by decide +kernel) (Nat.le_of_ble_eq_true rfl) dX2_init_89 dX2_init_91 (fun q10 cA10 H locs hK hP hD hS => ?_)
  refine lv_aload_n hx hb dX2_init_94 rfl (lv_at hl 0 rfl) ?_
  refine lv_iconst (v := 5) hx hb dX2_init_95 (by decide) ?_
  refine ct_arr (ref := "MiserBridges$Fort") (index := 43) tyX2 hx hb htg uw_X2' tyX2_ok nmX2 hown hK hP hD hS hA rfl 5 (by decide) (inG (w := .fieldLink RX2 43 "MiserBridges$Fort" "ballast" "[I") (by decide +kernel) (by decide +kernel)) rfl rfl hin rfl .int .int rfl (inG (w := .arrayClass .int) (by decide +kernel) (by decide +kernel)) 5 (5, .inl (fun _ => 0)) (fun _ => rfl) (by decide) (by decide +kernel) (by decide +kernel) (Nat.le_of_ble_eq_true rfl) (Nat.le_of_ble_eq_true rfl) (by decide +kernel) (Nat.le_of_ble_eq_true rfl) dX2_init_96 dX2_init_98 (fun q11 cA11 H locs hK hP hD hS => ?_)
  refine lv_aload_n hx hb dX2_init_101 rfl (lv_at hl 0 rfl) ?_
  refine lv_iconst (v := 2) hx hb dX2_init_102 (by decide) ?_
  refine ct_arr (ref := "MiserBridges$Fort") (index := 46) tyX2 hx hb htg uw_X2' tyX2_ok nmX2 hown hK hP hD hS hA rfl 8 (by decide) (inG (w := .fieldLink RX2 46 "MiserBridges$Fort" "chainA" "[I") (by decide +kernel) (by decide +kernel)) rfl rfl hin rfl .int .int rfl (inG (w := .arrayClass .int) (by decide +kernel) (by decide +kernel)) 2 (2, .inl (fun _ => 0)) (fun _ => rfl) (by decide) (by decide +kernel) (by decide +kernel) (Nat.le_of_ble_eq_true rfl) (Nat.le_of_ble_eq_true rfl) (by decide +kernel) (Nat.le_of_ble_eq_true rfl) dX2_init_103 dX2_init_105 (fun q12 cA12 H locs hK hP hD hS => ?_)
  refine lv_aload_n hx hb dX2_init_108 rfl (lv_at hl 0 rfl) ?_
  refine lv_iconst (v := 2) hx hb dX2_init_109 (by decide) ?_
  refine ct_arr (ref := "MiserBridges$Fort") (index := 49) tyX2 hx hb htg uw_X2' tyX2_ok nmX2 hown hK hP hD hS hA rfl 9 (by decide) (inG (w := .fieldLink RX2 49 "MiserBridges$Fort" "chainB" "[I") (by decide +kernel) (by decide +kernel)) rfl rfl hin rfl .int .int rfl (inG (w := .arrayClass .int) (by decide +kernel) (by decide +kernel)) 2 (2, .inl (fun _ => 0)) (fun _ => rfl) (by decide) (by decide +kernel) (by decide +kernel) (Nat.le_of_ble_eq_true rfl) (Nat.le_of_ble_eq_true rfl) (by decide +kernel) (Nat.le_of_ble_eq_true rfl) dX2_init_110 dX2_init_112 (fun q13 cA13 H locs hK hP hD hS => ?_)
  refine lv_aload_n hx hb dX2_init_115 rfl (lv_at hl 0 rfl) ?_
  refine lv_iconst (v := 2) hx hb dX2_init_116 (by decide) ?_
  refine ct_arr (ref := "MiserBridges$Fort") (index := 52) tyX2 hx hb htg uw_X2' tyX2_ok nmX2 hown hK hP hD hS hA rfl 10 (by decide) (inG (w := .fieldLink RX2 52 "MiserBridges$Fort" "rust" "[I") (by decide +kernel) (by decide +kernel)) rfl rfl hin rfl .int .int rfl (inG (w := .arrayClass .int) (by decide +kernel) (by decide +kernel)) 2 (2, .inl (fun _ => 0)) (fun _ => rfl) (by decide) (by decide +kernel) (by decide +kernel) (Nat.le_of_ble_eq_true rfl) (Nat.le_of_ble_eq_true rfl) (by decide +kernel) (Nat.le_of_ble_eq_true rfl) dX2_init_117 dX2_init_119 (fun q14 cA14 H locs hK hP hD hS => ?_)
  refine lv_aload_n hx hb dX2_init_122 rfl (lv_at hl 0 rfl) ?_
  refine lv_iconst (v := 3) hx hb dX2_init_123 (by decide) ?_
  refine ct_arr (ref := "MiserBridges$Fort") (index := 55) tyX2 hx hb htg uw_X2' tyX2_ok nmX2 hown hK hP hD hS hA rfl 12 (by decide) (inG (w := .fieldLink RX2 55 "MiserBridges$Fort" "pounds" "[I") (by decide +kernel) (by decide +kernel)) rfl rfl hin rfl .int .int rfl (inG (w := .arrayClass .int) (by decide +kernel) (by decide +kernel)) 3 (3, .inl (fun _ => 0)) (fun _ => rfl) (by decide) (by decide +kernel) (by decide +kernel) (Nat.le_of_ble_eq_true rfl) (Nat.le_of_ble_eq_true rfl) (by decide +kernel) (Nat.le_of_ble_eq_true rfl) dX2_init_124 dX2_init_126 (fun q15 cA15 H locs hK hP hD hS => ?_)
  refine lv_aload_n hx hb dX2_init_129 rfl (lv_at hl 0 rfl) ?_
  refine lv_iconst (v := 3) hx hb dX2_init_130 (by decide) ?_
  refine ct_arr (ref := "MiserBridges$Fort") (index := 58) tyX2 hx hb htg uw_X2' tyX2_ok nmX2 hown hK hP hD hS hA rfl 13 (by decide) (inG (w := .fieldLink RX2 58 "MiserBridges$Fort" "place" "[I") (by decide +kernel) (by decide +kernel)) rfl rfl hin rfl .int .int rfl (inG (w := .arrayClass .int) (by decide +kernel) (by decide +kernel)) 3 (3, .inl (fun _ => 0)) (fun _ => rfl) (by decide) (by decide +kernel) (by decide +kernel) (Nat.le_of_ble_eq_true rfl) (Nat.le_of_ble_eq_true rfl) (by decide +kernel) (Nat.le_of_ble_eq_true rfl) dX2_init_131 dX2_init_133 (fun q16 cA16 H locs hK hP hD hS => ?_)
  refine lv_aload_n hx hb dX2_init_136 rfl (lv_at hl 0 rfl) ?_
  refine ct_objN tyX6 (k_X6 l dC dI) ⟨hx, hb, hml, hown, hts⟩ (fun w hw => List.mem_cons_of_mem _ hw) uw_X6' tyX6_ok (inG (w := .classLink RX2 61 RX6) (by decide +kernel) (by decide +kernel)) (inG (w := .instantiable RX6 2) (by decide +kernel) (by decide +kernel)) (inG (w := .initialized RX6) (by decide +kernel) (by decide +kernel)) rfl rfl (inG (w := .instanceMethod yX6_init) (by decide +kernel) (by decide +kernel)) (inG (w := .code yX6_init cX6_init 1 none) (by decide +kernel) (by decide +kernel)) (iy := 63) (by decide +kernel) (by decide +kernel) ⟨rfl, rfl⟩ ⟨Nat.le_of_ble_eq_true rfl, Nat.le_of_ble_eq_true rfl⟩ hNQ hK hP hD hS hA rfl (fun j hj => by rcases (show j = 0 ∨ j = 1 by omega) with rfl | rfl <;> rfl) (Nat.le_of_ble_eq_true rfl) (Nat.le_of_ble_eq_true rfl) hl.1 (Nat.le_of_ble_eq_true rfl) dX2_init_137 dX2_init_140 dX2_init_141 (fun q17 u17 H locs hu hK hP hD hS => ?_)
  subst hu
  rw [List.cons_append] at hP hD
  refine ct_put (ref := "MiserBridges$Fort") (index := 64) tyX2 hx hb htg uw_X2' tyX2_ok nmX2 hown hK hP hD hS rfl 14 (by decide) (inG (w := .fieldLink RX2 64 "MiserBridges$Fort" "past" "LMiserBridges$Past;") (by decide +kernel) (by decide +kernel)) rfl rfl hin rfl (ft := .object "MiserBridges$Past") (v := .ref (u17.1 0)) (by decide +kernel) rfl rfl (Nat.le_of_ble_eq_true rfl) dX2_init_144 (fun H locs hP hD hS => ?_)
  obtain ⟨a, ha⟩ : ∃ a : Nat → Nat, a = fun k => [h0, q1, q2, q3, q4, q5, q6, q7, q8, q9, q10, q11, q12, q13, q14, q15, q16, u17.1 0, u17.1 1].getD k 0 := ⟨_, rfl⟩
  have hfq : ∀ j, j < 6 → f6 j = some (a (2 + j)) := by
    intro j hj
    rw [hf6, hf5, hf4, hf3, hf2, hf1, ha]
    rcases (show j = 0 ∨ j = 1 ∨ j = 2 ∨ j = 3 ∨ j = 4 ∨ j = 5 by omega) with rfl | rfl | rfl | rfl | rfl | rfl <;> rfl
  have hP := arr_norm 1 hP rfl hfq
  have hD := hD.set (p := 1) (e := .inl (cA1, 6, .inr (.inr (.inr (.inr (fun j => some (a (2 + j)))))))) rfl
  rw [ha] at hP hD
  exact W.vret hx hb hr (fun t ht hW => ⟨⟨(fun k => [h0, q1, q2, q3, q4, q5, q6, q7, q8, q9, q10, q11, q12, q13, q14, q15, q16, u17.1 0, u17.1 1].getD k 0, fun k => [cA1, cA1, cA1, cA1, cA1, cA1, cA1, cA1, cA8, cA9, cA10, cA11, cA12, cA13, cA14, cA15, cA16, cA1, u17.2 1].getD k cA1), rfl, rfl, by rw [ht]; exact hP, va_K.moved hW.alike hK, hD⟩, hS.F ht⟩) hS.2.2 dX2_init_147
