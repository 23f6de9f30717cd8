/-! the constructor of MiserBridges -/
abbrev uT : Type := (Nat → Nat) × (Nat → ClassId)
abbrev mbW (u : Nat → uT) : va_W := (((u 4).1 0, .inr (11, [.ref ((u 0).1 0), .ref ((u 1).1 0), .ref ((u 4).1 1), .ref ((u 4).1 2), .ref ((u 5).1 0), .ref ((u 6).1 0), .ref ((u 7).1 0), .int 0, .int 0, .int 0])) :: ((((((((ftW (u 0).1 (u 0).2 ++ ftW (u 1).1 (u 1).2) ++ [((u 4).1 1, .inl ((u 4).2 1, 2, .inr (.inr (.inr (.inr (fun i => some ((u (2 + i)).1 0)))))))]) ++ ftW (u 2).1 (u 2).2) ++ ftW (u 3).1 (u 3).2) ++ [((u 4).1 2, .inl ((u 4).2 2, 2, .inl (fun _ => 0)))]) ++ wX10 (u 5)) ++ wX8 (u 6)) ++ wX9 (u 7)))
abbrev mbT (u : Nat → uT) : List (ClassId × FieldType) := (((((((ftT (u 0).2 ++ ftT (u 1).2) ++ [((u 4).2 1, .object RX2)]) ++ ftT (u 2).2) ++ ftT (u 3).2) ++ [((u 4).2 2, .boolean)]) ++ tX10 (u 5)) ++ tX8 (u 6)) ++ tX9 (u 7)
theorem uw_X11' : ∀ w ∈ u_ws RX11 TX11 10, w ∈ lw_good := fun w hw => inG ((show ∀ w ∈ u_ws RX11 TX11 10, w ∈ lw_tbl by decide +kernel) w hw) ((show ∀ w ∈ u_ws RX11 TX11 10, goodWord w = true by decide +kernel) w hw)
set_option maxHeartbeats 4000000 in
set_option maxRecDepth 100000 in
theorem k_X11 (l : Launch) (dC : Nat → ClassId) (dI : Nat → Nat → Nat) : CtM l yX11_init cX11_init (ctRm 5 85 10004) dC dI 11 [.null, .null, .null, .null, .null, .null, .null, .int 0, .int 0, .int 0] (fun h0 (u : Nat → uT) => (u 4).1 0 = h0) (fun _ u => mbW u) (fun u => mbT u) 85 10004 := by
  intro h0 sz
  refine Met.ofW (cc := cX11_init) (maxL := 1) (ret := none) (by decide) rfl ?_
  intro p e s m args below meth c s₁ B hml hv
  obtain ⟨rfl, hsz, hP, hK, hD0, hNQ⟩ := hv
  have hx := B.exec
  have hb := B.bytes
  have hr := B.returns
  have hts := atoms_spec (ws := ctWs yX11_init cX11_init) B.pre
  have htg : ∀ w ∈ lw_good, w.before _ s = true := fun w hw => hts w (List.mem_cons_of_mem _ hw)
  have hown : s.vm.findClass RX11 = some m.cls := findClass_of_methodNamed B.named
  have hin : meth.name = "<init>" := (name_of_methodNamed B.named B.method).1
  subst hsz
  have hD := hD0.self (sz := s.heap.size)
  generalize hAe : va_A [(h0, .inr (11, [.null, .null, .null, .null, .null, .null, .null, .int 0, .int 0, .int 0]))] s.heap.size = A at hD ⊢
  have hA : ∀ q : Nat, s.heap.size ≤ q → A q := fun q h => by rw [← hAe]; exact Or.inr h
  have hS : va_S A s.heap s.heap [] := va_S.rf
  have hl := lv_entry ([.ref h0]) (n := 1) (Nat.le_of_ble_eq_true rfl)
  rw [lg_entry_eq]
  generalize (lg_sl ([.ref h0]) ++ List.replicate (1 - (lg_sl ([.ref h0])).length) Slot.unset).toArray = ls at hl ⊢
  have hl : lv_has ls 1 [(0, .ref h0)] := hl
  refine lv_aload_n hx hb dX11_init_0 rfl (lv_at hl 0 rfl) ?_
  have hw1 := htg _ (inG (w := .methodLink RX11 3 objectInit) (by decide +kernel) (by decide +kernel))
  have hw2 := htg _ oi_1
  have hw3 := htg _ (inG (w := .code objectInit ⟨#[0xb1]⟩ 1 none) (by decide +kernel) (by decide +kernel))
  refine W.objInit hx hb hown hw1 hw2 hw3 rfl (by rw [hml]; exact hl.1) rfl dX11_init_1 (Nat.le_of_ble_eq_true rfl) (Nat.le_of_ble_eq_true rfl) ?_
  refine W.eq (g2 := F0 m 4 ls []) rfl ?_
  refine lv_aload_n hx hb dX11_init_4 rfl (lv_at hl 0 rfl) ?_
  refine ct_objN tyX2 (k_X2 l dC dI) ⟨hx, hb, hml, hown, hts⟩ (fun w hw => List.mem_cons_of_mem _ hw) uw_X2' tyX2_ok (inG (w := .classLink RX11 9 RX2) (by decide +kernel) (by decide +kernel)) (inG (w := .instantiable RX2 15) (by decide +kernel) (by decide +kernel)) (inG (w := .initialized RX2) (by decide +kernel) (by decide +kernel)) rfl rfl (inG (w := .instanceMethod yX2_init) (by decide +kernel) (by decide +kernel)) (inG (w := .code yX2_init cX2_init 1 none) (by decide +kernel) (by decide +kernel)) (iy := 11) (by decide +kernel) (by decide +kernel) ⟨rfl, rfl⟩ ⟨Nat.le_of_ble_eq_true rfl, Nat.le_of_ble_eq_true rfl⟩ hNQ hK hP hD hS hA rfl (fun j hj => by rcases (show j = 0 ∨ j = 1 ∨ j = 2 ∨ j = 3 ∨ j = 4 ∨ j = 5 ∨ j = 6 ∨ j = 7 ∨ j = 8 ∨ j = 9 ∨ j = 10 ∨ j = 11 ∨ j = 12 ∨ j = 13 ∨ j = 14 by omega) with rfl | rfl | rfl | rfl | rfl | rfl | rfl | rfl | rfl | rfl | rfl | rfl | rfl | rfl | rfl <;> rfl) (Nat.le_of_ble_eq_true rfl) (Nat.le_of_ble_eq_true rfl) hl.1 (Nat.le_of_ble_eq_true rfl) dX11_init_5 dX11_init_8 dX11_init_9 (fun q1 u1 H locs hu hK hP hD hS => ?_)
  subst hu
  rw [List.cons_append] at hP hD
  refine ct_put (ref := "MiserBridges") (index := 12) tyX11 hx hb htg uw_X11' tyX11_ok nmX11 hown hK hP hD hS rfl 0 (by decide) (inG (w := .fieldLink RX11 12 "MiserBridges" "now" "LMiserBridges$Fort;") (by decide +kernel) (by decide +kernel)) rfl rfl hin rfl (ft := .object "MiserBridges$Fort") (v := .ref (u1.1 0)) (by decide +kernel) rfl rfl (Nat.le_of_ble_eq_true rfl) dX11_init_12 (fun H locs hP hD hS => ?_)
  refine lv_aload_n hx hb dX11_init_15 rfl (lv_at hl 0 rfl) ?_
  refine ct_objN tyX2 (k_X2 l dC dI) ⟨hx, hb, hml, hown, hts⟩ (fun w hw => List.mem_cons_of_mem _ hw) uw_X2' tyX2_ok (inG (w := .classLink RX11 9 RX2) (by decide +kernel) (by decide +kernel)) (inG (w := .instantiable RX2 15) (by decide +kernel) (by decide +kernel)) (inG (w := .initialized RX2) (by decide +kernel) (by decide +kernel)) rfl rfl (inG (w := .instanceMethod yX2_init) (by decide +kernel) (by decide +kernel)) (inG (w := .code yX2_init cX2_init 1 none) (by decide +kernel) (by decide +kernel)) (iy := 11) (by decide +kernel) (by decide +kernel) ⟨rfl, rfl⟩ ⟨Nat.le_of_ble_eq_true rfl, Nat.le_of_ble_eq_true rfl⟩ hNQ hK hP hD hS hA rfl (fun j hj => by rcases (show j = 0 ∨ j = 1 ∨ j = 2 ∨ j = 3 ∨ j = 4 ∨ j = 5 ∨ j = 6 ∨ j = 7 ∨ j = 8 ∨ j = 9 ∨ j = 10 ∨ j = 11 ∨ j = 12 ∨ j = 13 ∨ j = 14 by omega) with rfl | rfl | rfl | rfl | rfl | rfl | rfl | rfl | rfl | rfl | rfl | rfl | rfl | rfl | rfl <;> rfl) (Nat.le_of_ble_eq_true rfl) (Nat.le_of_ble_eq_true rfl) hl.1 (Nat.le_of_ble_eq_true rfl) dX11_init_16 dX11_init_19 dX11_init_20 (fun q2 u2 H locs hu hK hP hD hS => ?_)
  subst hu
  rw [List.cons_append] at hP hD
  refine ct_put (ref := "MiserBridges") (index := 16) tyX11 hx hb htg uw_X11' tyX11_ok nmX11 hown hK hP hD hS rfl 1 (by decide) (inG (w := .fieldLink RX11 16 "MiserBridges" "trial" "LMiserBridges$Fort;") (by decide +kernel) (by decide +kernel)) rfl rfl hin rfl (ft := .object "MiserBridges$Fort") (v := .ref (u2.1 0)) (by decide +kernel) rfl rfl (Nat.le_of_ble_eq_true rfl) dX11_init_23 (fun H locs hP hD hS => ?_)
  refine lv_aload_n hx hb dX11_init_26 rfl (lv_at hl 0 rfl) ?_
  refine lv_iconst (v := 2) hx hb dX11_init_27 (by decide) ?_
  refine va_newq (C := RX2) (index := 9) (N' := 2) hx hb hown (htg _ (inG (w := .classLink RX11 9 RX2) (by decide +kernel) (by decide +kernel))) hNQ.2.1.2 hK hP hD hS hA (by decide) (by decide +kernel) (by decide) (Nat.le_of_ble_eq_true rfl) (Nat.le_of_ble_eq_true rfl) dX11_init_28 (fun qi cAi H hK hP hD hS => ?_)
  obtain ⟨f0, hf0⟩ : ∃ f : Nat → Option Nat, f = (fun _ => none) := ⟨_, rfl⟩
  rw [← hf0, List.cons_append] at hP hD
  have hP : va_P (dC, dI) vwCl ((h0, .inr (11, (([.null, .null, .null, .null, .null, .null, .null, .int 0, .int 0, .int 0] : List Value).set 0 (.ref (u1.1 0))).set 1 (.ref (u2.1 0)))) :: ((ftW u1.1 u1.2 ++ ftW u2.1 u2.2) ++ [(qi, .inl (cAi, 2, .inr (.inr (.inr (.inr f0)))))])) H := hP
  have hD : va_D A ((h0, .inr (11, (([.null, .null, .null, .null, .null, .null, .null, .int 0, .int 0, .int 0] : List Value).set 0 (.ref (u1.1 0))).set 1 (.ref (u2.1 0)))) :: ((ftW u1.1 u1.2 ++ ftW u2.1 u2.2) ++ [(qi, .inl (cAi, 2, .inr (.inr (.inr (.inr f0)))))])) := hD
  refine lv_dup hx hb dX11_init_31 rfl ?_
  refine lv_iconst (v := 0) hx hb dX11_init_32 (by decide) ?_
  refine ct_objN tyX2 (k_X2 l dC dI) ⟨hx, hb, hml, hown, hts⟩ (fun w hw => List.mem_cons_of_mem _ hw) uw_X2' tyX2_ok (inG (w := .classLink RX11 9 RX2) (by decide +kernel) (by decide +kernel)) (inG (w := .instantiable RX2 15) (by decide +kernel) (by decide +kernel)) (inG (w := .initialized RX2) (by decide +kernel) (by decide +kernel)) rfl rfl (inG (w := .instanceMethod yX2_init) (by decide +kernel) (by decide +kernel)) (inG (w := .code yX2_init cX2_init 1 none) (by decide +kernel) (by decide +kernel)) (iy := 11) (by decide +kernel) (by decide +kernel) ⟨rfl, rfl⟩ ⟨Nat.le_of_ble_eq_true rfl, Nat.le_of_ble_eq_true rfl⟩ hNQ hK hP hD hS hA rfl (fun j hj => by rcases (show j = 0 ∨ j = 1 ∨ j = 2 ∨ j = 3 ∨ j = 4 ∨ j = 5 ∨ j = 6 ∨ j = 7 ∨ j = 8 ∨ j = 9 ∨ j = 10 ∨ j = 11 ∨ j = 12 ∨ j = 13 ∨ j = 14 by omega) with rfl | rfl | rfl | rfl | rfl | rfl | rfl | rfl | rfl | rfl | rfl | rfl | rfl | rfl | rfl <;> rfl) (Nat.le_of_ble_eq_true rfl) (Nat.le_of_ble_eq_true rfl) hl.1 (Nat.le_of_ble_eq_true rfl) dX11_init_33 dX11_init_36 dX11_init_37 (fun q3 u3 H locs hu hK hP hD hS => ?_)
  subst hu
  rw [List.cons_append] at hP hD
  have hP : va_P (dC, dI) vwCl ((h0, .inr (11, (([.null, .null, .null, .null, .null, .null, .null, .int 0, .int 0, .int 0] : List Value).set 0 (.ref (u1.1 0))).set 1 (.ref (u2.1 0)))) :: (((ftW u1.1 u1.2 ++ ftW u2.1 u2.2) ++ [(qi, .inl (cAi, 2, .inr (.inr (.inr (.inr f0)))))]) ++ ftW u3.1 u3.2)) H := hP
  have hD : va_D A ((h0, .inr (11, (([.null, .null, .null, .null, .null, .null, .null, .int 0, .int 0, .int 0] : List Value).set 0 (.ref (u1.1 0))).set 1 (.ref (u2.1 0)))) :: (((ftW u1.1 u1.2 ++ ftW u2.1 u2.2) ++ [(qi, .inl (cAi, 2, .inr (.inr (.inr (.inr f0)))))]) ++ ftW u3.1 u3.2)) := hD
  refine va_astq hx hb hK hP hD hS 39 22 40 2 rfl rfl rfl rfl (by unfold vp_in; decide) dX11_init_40 (fun H locs hP hD hS => ?_)
  obtain ⟨f1, hf1⟩ : ∃ f : Nat → Option Nat, f = va_up f0 (Int32.toNatClampNeg 0) (some (u3.1 0)) := ⟨_, rfl⟩
  rw [← hf1] at hP hD
  have hP : va_P (dC, dI) vwCl ((h0, .inr (11, (([.null, .null, .null, .null, .null, .null, .null, .int 0, .int 0, .int 0] : List Value).set 0 (.ref (u1.1 0))).set 1 (.ref (u2.1 0)))) :: (((ftW u1.1 u1.2 ++ ftW u2.1 u2.2) ++ [(qi, .inl (cAi, 2, .inr (.inr (.inr (.inr f1)))))]) ++ ftW u3.1 u3.2)) H := hP
  have hD : va_D A ((h0, .inr (11, (([.null, .null, .null, .null, .null, .null, .null, .int 0, .int 0, .int 0] : List Value).set 0 (.ref (u1.1 0))).set 1 (.ref (u2.1 0)))) :: (((ftW u1.1 u1.2 ++ ftW u2.1 u2.2) ++ [(qi, .inl (cAi, 2, .inr (.inr (.inr (.inr f1)))))]) ++ ftW u3.1 u3.2)) := hD
  refine lv_dup hx hb dX11_init_41 rfl ?_
  refine lv_iconst (v := 1) hx hb dX11_init_42 (by decide) ?_
  refine ct_objN tyX2 (k_X2 l dC dI) ⟨hx, hb, hml, hown, hts⟩ (fun w hw => List.mem_cons_of_mem _ hw) uw_X2' tyX2_ok (inG (w := .classLink RX11 9 RX2) (by decide +kernel) (by decide +kernel)) (inG (w := .instantiable RX2 15) (by decide +kernel) (by decide +kernel)) (inG (w := .initialized RX2) (by decide +kernel) (by decide +kernel)) rfl rfl (inG (w := .instanceMethod yX2_init) (by decide +kernel) (by decide +kernel)) (inG (w := .code yX2_init cX2_init 1 none) (by decide +kernel) (by decide +kernel)) (iy := 11) (by decide +kernel) (by decide +kernel) ⟨rfl, rfl⟩ ⟨Nat.le_of_ble_eq_true rfl, Nat.le_of_ble_eq_true rfl⟩ hNQ hK hP hD hS hA rfl (fun j hj => by rcases (show j = 0 ∨ j = 1 ∨ j = 2 ∨ j = 3 ∨ j = 4 ∨ j = 5 ∨ j = 6 ∨ j = 7 ∨ j = 8 ∨ j = 9 ∨ j = 10 ∨ j = 11 ∨ j = 12 ∨ j = 13 ∨ j = 14 by omega) with rfl | rfl | rfl | rfl | rfl | rfl | rfl | rfl | rfl | rfl | rfl | rfl | rfl | rfl | rfl <;> rfl) (Nat.le_of_ble_eq_true rfl) (Nat.le_of_ble_eq_true rfl) hl.1 (Nat.le_of_ble_eq_true rfl) dX11_init_43 dX11_init_46 dX11_init_47 (fun q4 u4 H locs hu hK hP hD hS => ?_)
  subst hu
  rw [List.cons_append] at hP hD
  have hP : va_P (dC, dI) vwCl ((h0, .inr (11, (([.null, .null, .null, .null, .null, .null, .null, .int 0, .int 0, .int 0] : List Value).set 0 (.ref (u1.1 0))).set 1 (.ref (u2.1 0)))) :: ((((ftW u1.1 u1.2 ++ ftW u2.1 u2.2) ++ [(qi, .inl (cAi, 2, .inr (.inr (.inr (.inr f1)))))]) ++ ftW u3.1 u3.2) ++ ftW u4.1 u4.2)) H := hP
  have hD : va_D A ((h0, .inr (11, (([.null, .null, .null, .null, .null, .null, .null, .int 0, .int 0, .int 0] : List Value).set 0 (.ref (u1.1 0))).set 1 (.ref (u2.1 0)))) :: ((((ftW u1.1 u1.2 ++ ftW u2.1 u2.2) ++ [(qi, .inl (cAi, 2, .inr (.inr (.inr (.inr f1)))))]) ++ ftW u3.1 u3.2) ++ ftW u4.1 u4.2)) := hD
  refine va_astq hx hb hK hP hD hS 39 22 59 2 rfl rfl rfl rfl (by unfold vp_in; decide) dX11_init_50 (fun H locs hP hD hS => ?_)
  obtain ⟨f2, hf2⟩ : ∃ f : Nat → Option Nat, f = va_up f1 (Int32.toNatClampNeg 1) (some (u4.1 0)) := ⟨_, rfl⟩
  rw [← hf2] at hP hD
  have hP : va_P (dC, dI) vwCl ((h0, .inr (11, (([.null, .null, .null, .null, .null, .null, .null, .int 0, .int 0, .int 0] : List Value).set 0 (.ref (u1.1 0))).set 1 (.ref (u2.1 0)))) :: ((((ftW u1.1 u1.2 ++ ftW u2.1 u2.2) ++ [(qi, .inl (cAi, 2, .inr (.inr (.inr (.inr f2)))))]) ++ ftW u3.1 u3.2) ++ ftW u4.1 u4.2)) H := hP
  have hD : va_D A ((h0, .inr (11, (([.null, .null, .null, .null, .null, .null, .null, .int 0, .int 0, .int 0] : List Value).set 0 (.ref (u1.1 0))).set 1 (.ref (u2.1 0)))) :: ((((ftW u1.1 u1.2 ++ ftW u2.1 u2.2) ++ [(qi, .inl (cAi, 2, .inr (.inr (.inr (.inr f2)))))]) ++ ftW u3.1 u3.2) ++ ftW u4.1 u4.2)) := hD
  refine ct_put (ref := "MiserBridges") (index := 19) tyX11 hx hb htg uw_X11' tyX11_ok nmX11 hown hK hP hD hS rfl 2 (by decide) (inG (w := .fieldLink RX11 19 "MiserBridges" "images" "[LMiserBridges$Fort;") (by decide +kernel) (by decide +kernel)) rfl rfl hin rfl (ft := .array (.object "MiserBridges$Fort")) (v := .ref qi) (by decide +kernel) rfl rfl (Nat.le_of_ble_eq_true rfl) dX11_init_51 (fun H locs hP hD hS => ?_)
  refine lv_aload_n hx hb dX11_init_54 rfl (lv_at hl 0 rfl) ?_
  refine lv_iconst (v := 2) hx hb dX11_init_55 (by decide) ?_
  refine ct_arr (ref := "MiserBridges") (index := 23) tyX11 hx hb htg uw_X11' tyX11_ok nmX11 hown hK hP hD hS hA rfl 3 (by decide) (inG (w := .fieldLink RX11 23 "MiserBridges" "kept" "[Z") (by decide +kernel) (by decide +kernel)) rfl rfl hin rfl .boolean .boolean rfl (inG (w := .arrayClass .boolean) (by decide +kernel) (by decide +kernel)) 2 (2, .inl (fun _ => 0)) (fun _ => rfl) (by decide) (by decide +kernel) (by decide +kernel) (Nat.le_of_ble_eq_true rfl) (Nat.le_of_ble_eq_true rfl) (by decide +kernel) (Nat.le_of_ble_eq_true rfl) dX11_init_56 dX11_init_58 (fun q8 cA8 H locs hK hP hD hS => ?_)
  refine lv_aload_n hx hb dX11_init_61 rfl (lv_at hl 0 rfl) ?_
  refine ct_objN tyX10 (k_X10 l dC dI) ⟨hx, hb, hml, hown, hts⟩ (fun w hw => List.mem_cons_of_mem _ hw) uw_X10' tyX10_ok (inG (w := .classLink RX11 27 RX10) (by decide +kernel) (by decide +kernel)) (inG (w := .instantiable RX10 6) (by decide +kernel) (by decide +kernel)) (inG (w := .initialized RX10) (by decide +kernel) (by decide +kernel)) rfl rfl (inG (w := .instanceMethod yX10_init) (by decide +kernel) (by decide +kernel)) (inG (w := .code yX10_init cX10_init 1 none) (by decide +kernel) (by decide +kernel)) (iy := 29) (by decide +kernel) (by decide +kernel) ⟨rfl, rfl⟩ ⟨Nat.le_of_ble_eq_true rfl, Nat.le_of_ble_eq_true rfl⟩ hNQ hK hP hD hS hA rfl (fun j hj => by rcases (show j = 0 ∨ j = 1 ∨ j = 2 ∨ j = 3 ∨ j = 4 ∨ j = 5 by omega) with rfl | rfl | rfl | rfl | rfl | rfl <;> rfl) (Nat.le_of_ble_eq_true rfl) (Nat.le_of_ble_eq_true rfl) hl.1 (Nat.le_of_ble_eq_true rfl) dX11_init_62 dX11_init_65 dX11_init_66 (fun qu5 u5 H locs hu hK hP hD hS => ?_)
  subst hu
  rw [List.cons_append] at hP hD
  refine ct_put (ref := "MiserBridges") (index := 30) tyX11 hx hb htg uw_X11' tyX11_ok nmX11 hown hK hP hD hS rfl 4 (by decide) (inG (w := .fieldLink RX11 30 "MiserBridges" "text" "LMiserBridges$Text;") (by decide +kernel) (by decide +kernel)) rfl rfl hin rfl (ft := .object "MiserBridges$Text") (v := .ref (u5.1 0)) (by decide +kernel) rfl rfl (Nat.le_of_ble_eq_true rfl) dX11_init_69 (fun H locs hP hD hS => ?_)
  refine lv_aload_n hx hb dX11_init_72 rfl (lv_at hl 0 rfl) ?_
  refine ct_objN tyX8 (k_X8 l dC dI) ⟨hx, hb, hml, hown, hts⟩ (fun w hw => List.mem_cons_of_mem _ hw) uw_X8' tyX8_ok (inG (w := .classLink RX11 34 RX8) (by decide +kernel) (by decide +kernel)) (inG (w := .instantiable RX8 2) (by decide +kernel) (by decide +kernel)) (inG (w := .initialized RX8) (by decide +kernel) (by decide +kernel)) rfl rfl (inG (w := .instanceMethod yX8_init) (by decide +kernel) (by decide +kernel)) (inG (w := .code yX8_init cX8_init 1 none) (by decide +kernel) (by decide +kernel)) (iy := 36) (by decide +kernel) (by decide +kernel) ⟨rfl, rfl⟩ ⟨Nat.le_of_ble_eq_true rfl, Nat.le_of_ble_eq_true rfl⟩ hNQ hK hP hD hS hA rfl (fun j hj => by rcases (show j = 0 ∨ j = 1 by omega) with rfl | rfl <;> rfl) (Nat.le_of_ble_eq_true rfl) (Nat.le_of_ble_eq_true rfl) hl.1 (Nat.le_of_ble_eq_true rfl) dX11_init_73 dX11_init_76 dX11_init_77 (fun qu6 u6 H locs hu hK hP hD hS => ?_)
  subst hu
  rw [List.cons_append] at hP hD
  refine ct_put (ref := "MiserBridges") (index := 37) tyX11 hx hb htg uw_X11' tyX11_ok nmX11 hown hK hP hD hS rfl 5 (by decide) (inG (w := .fieldLink RX11 37 "MiserBridges" "reader" "LMiserBridges$Reader;") (by decide +kernel) (by decide +kernel)) rfl rfl hin rfl (ft := .object "MiserBridges$Reader") (v := .ref (u6.1 0)) (by decide +kernel) rfl rfl (Nat.le_of_ble_eq_true rfl) dX11_init_80 (fun H locs hP hD hS => ?_)
  refine lv_aload_n hx hb dX11_init_83 rfl (lv_at hl 0 rfl) ?_
  refine ct_objN tyX9 (k_X9 l dC dI) ⟨hx, hb, hml, hown, hts⟩ (fun w hw => List.mem_cons_of_mem _ hw) uw_X9' tyX9_ok (inG (w := .classLink RX11 41 RX9) (by decide +kernel) (by decide +kernel)) (inG (w := .instantiable RX9 5) (by decide +kernel) (by decide +kernel)) (inG (w := .initialized RX9) (by decide +kernel) (by decide +kernel)) rfl rfl (inG (w := .instanceMethod yX9_init) (by decide +kernel) (by decide +kernel)) (inG (w := .code yX9_init cX9_init 1 none) (by decide +kernel) (by decide +kernel)) (iy := 43) (by decide +kernel) (by decide +kernel) ⟨rfl, rfl⟩ ⟨Nat.le_of_ble_eq_true rfl, Nat.le_of_ble_eq_true rfl⟩ hNQ hK hP hD hS hA rfl (fun j hj => by rcases (show j = 0 ∨ j = 1 ∨ j = 2 ∨ j = 3 ∨ j = 4 by omega) with rfl | rfl | rfl | rfl | rfl <;> rfl) (Nat.le_of_ble_eq_true rfl) (Nat.le_of_ble_eq_true rfl) hl.1 (Nat.le_of_ble_eq_true rfl) dX11_init_84 dX11_init_87 dX11_init_88 (fun qu7 u7 H locs hu hK hP hD hS => ?_)
  subst hu
  rw [List.cons_append] at hP hD
  refine ct_put (ref := "MiserBridges") (index := 44) tyX11 hx hb htg uw_X11' tyX11_ok nmX11 hown hK hP hD hS rfl 6 (by decide) (inG (w := .fieldLink RX11 44 "MiserBridges" "search" "LMiserBridges$Search;") (by decide +kernel) (by decide +kernel)) rfl rfl hin rfl (ft := .object "MiserBridges$Search") (v := .ref (u7.1 0)) (by decide +kernel) rfl rfl (Nat.le_of_ble_eq_true rfl) dX11_init_91 (fun H locs hP hD hS => ?_)
  obtain ⟨u, ha⟩ : ∃ u : Nat → uT, u = fun k => [u1, u2, u3, u4, (fun k => [h0, qi, q8].getD k 0, fun k => [cAi, cAi, cA8].getD k cAi), u5, u6, u7].getD k u1 := ⟨_, rfl⟩
  have hfq : ∀ j, j < 2 → f2 j = some ((u (2 + j)).1 0) := by
    intro j hj
    rw [hf2, hf1, ha]
    rcases (show j = 0 ∨ j = 1 by omega) with rfl | rfl <;> rfl
  have hP := arr_norm 39 hP rfl hfq
  have hD := hD.set (p := 39) (e := .inl (cAi, 2, .inr (.inr (.inr (.inr (fun j => some ((u (2 + j)).1 0))))))) rfl
  rw [ha] at hP hD
  exact W.vret hx hb hr (fun t ht hW => ⟨⟨fun k => [u1, u2, u3, u4, (fun k => [h0, qi, q8].getD k 0, fun k => [cAi, cAi, cA8].getD k cAi), u5, u6, u7].getD k u1, rfl, rfl, by rw [ht]; exact hP, va_K.moved hW.alike hK, hD⟩, hS.F ht⟩) hS.2.2 dX11_init_94
