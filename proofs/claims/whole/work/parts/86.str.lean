/-! the constants' texts: String.length, String.charAt -/
def lenS : List Nat := [6, 4, 5, 3, 4]
def bytS : List (List Int32) := [[98, 114, 105, 100, 103, 101], [100, 111, 119, 110], [99, 104, 97, 105, 110], [111, 110, 101], [108, 111, 97, 100]]
def SxA (ad adV : Nat → Nat) (U : State) : Prop := vk_S 5 lenS bytS (fun i => ad (200 + i)) adV (ShA ad) U U.heap ∧ va_Z RJ0 "COMPACT_STRINGS" "Z" (.int 1) (ShA ad) U U.heap ∧ va_Zq RJ3 "SIOOBE_FORMATTER" "Ljava/util/function/BiFunction;" (ShA ad) U U.heap
theorem SxA_mv (ad adV : Nat → Nat) : SxMv ad (SxA ad adV) := fun s U hvm hq h => ⟨(h.1.moved hvm).kept hq, (h.2.1.moved hvm).kept hq, (h.2.2.moved hvm).kept hq⟩
theorem SxA_call (ad adV : Nat → Nat) {U : State} {g : JFrame} {mk : MethodId} {a : Array Value} (h : SxA ad adV U) : SxA ad adV (U.calling g mk a) := SxA_mv ad adV U (U.calling g mk a) (Vm.Alike.refl U.vm) (fun _ _ _ => rfl) h
theorem lenS_ok : ∀ i, i < 5 → (lenS.getD i 0 = (sTxt (200 + i)).length ∧ Int32.ofNat (lenS.getD i 0) >>> ((0 : Int32) &&& 31) = Int32.ofInt ((sTxt (200 + i)).length : Nat)) := by decide +kernel
theorem bytS_ok : ∀ i, i < 5 → ∀ j, j < 6 → ((bytS.getD i []).getD j 0) &&& 255 = Int32.ofInt ((sTxt (200 + i)).getD j 0) := by decide +kernel
abbrev puRm (f : Nat) : Room := { frames := f, cells := 0, slots := 0, locals := 30 * f }
def puW (y : MethodName) (yc : ByteArray) (mL : Nat) (ret : Option FieldType) : List Cond := .code y yc mL ret :: lw_good
theorem puW_good {y : MethodName} {yc : ByteArray} {mL : Nat} {ret : Option FieldType} (h : Cond.code y yc mL ret ∈ lw_good) : GoodIn lw_good (puW y yc mL ret) := by
  intro w hw
  have h1 : w ∈ lw_good := by
    rcases List.mem_cons.mp hw with rfl | hw
    · exact h
    · exact hw
  exact ⟨h1, good_of_word (List.mem_filter.mp h1).2⟩
/-- a method that writes nothing -/
def PuM (l : Launch) (y : MethodName) (yc : ByteArray) (mL : Nat) (ret : Option FieldType) (fr : Nat) (B : State → Prop) (av : List Value) (x : Option Value) : Prop :=
  ∀ hp : Heap, Met l y (puW y yc mL ret) (puRm fr) (va_Pc av (fun U => U.heap = hp ∧ B U)) (fun _ _ o t => o = .returned x ∧ t.heap = hp) 0 0 (fun _ => False)
section PU
variable {p : Program} {l : Launch} {e : Env} {R : Room} {s : State} {m : MethodId} {args : Array Value} {below : List Frame} {meth : Method} {c : Code} {H : Heap} {locs : List Loc} {cells slots : Nat} {Q : State → Prop} {cc : ByteArray} {pc : Nat} {ls : Array Slot} {rest st0 : List Value}
variable {ad adV : Nat → Nat}
theorem pu_call {Qa : State → Outcome → State → Prop} (hr : va_Run p l e R s m args below meth c H locs cells slots 0 0 (F0 m pc ls st0) rest Qa (fun _ => False)) (v : Option Value) (hq : ∀ (st₀ : State) (o : Outcome) (t : State), Qa st₀ o t → o = .returned v ∧ t.heap = H) (kk : W p l e R s m args below meth c H locs cells slots Q (F0 m (pc + 3) ls (v.toList ++ rest))) : W p l e R s m args below meth c H locs cells slots Q (F0 m pc ls st0) := by
  intro T hT X
  obtain ⟨v', st₀, t, T', L, h0, X', hL, e1, e2, hQ, st⟩ := hr T hT X
  obtain ⟨hv, hh⟩ := hq _ _ _ hQ
  cases hv
  have hLn : L = [] := by
    cases L with
    | nil => rfl
    | cons q L => exact (hL q List.mem_cons_self).elim
  subst hLn
  rw [List.append_nil] at X'
  obtain ⟨t2, a1, b1⟩ := kk T' (by rw [e1, hh]) X'
  exact ⟨t2, st t2 a1, b1⟩
theorem pu_pre {y : MethodName} {av : List Value} (hS : va_S (ShA ad) s.heap H locs) (hB : SxA ad adV s) : FrameBlind (va_Pc av (fun U => U.heap = H ∧ SxA ad adV U)) ∧ ∀ U : State, U.heap = H → s.WarmedH U.vm → va_Pc av (fun U => U.heap = H ∧ SxA ad adV U) av.toArray U :=
  ⟨fun a U g mk h => ⟨h.1, h.2.1, SxA_call ad adV h.2.2⟩, fun U hU hW => ⟨rfl, hU, SxA_mv ad adV s U hW.alike (fun q h1 h2 => by rw [hU]; exact hS.2.1 q h1 h2) hB⟩⟩
theorem pu_virt {own C : String} {index n nL fr mL : Nat} {y : MethodName} {yc : ByteArray} {ret : Option FieldType} {b : Nat} {As : List Value} {x : Option Value} (hM : PuM l y yc mL ret fr (SxA ad adV) (.ref b :: As) x) (S0 : CallFix p m c cc nL s args lw_good own)
    (h1 : Cond.methodLink own index y ∈ lw_good) (h2 : Cond.instanceMethod y ∈ lw_good) (h3 : Cond.selects C y y ∈ lw_good) (h4 : Cond.initialized C ∈ lw_good) (h5 : Cond.code y yc mL ret ∈ lw_good)
    (hd : y.cls = C ∧ y.cls ≠ "java/lang/invoke/MethodHandle" ∧ y.cls ≠ "java/lang/invoke/VarHandle" ∧ (parseMethodDescriptor y.desc).map (fun d => d.parameters.length) = some n) (hR : fr + 1 ≤ R.frames ∧ 8 + (mL + 11) + 30 * fr ≤ R.locals)
    (hrv : ∃ cellB : Cell, H[b]? = some cellB ∧ cellB.vm.isStatics = false ∧ s.vm.findClass C = some cellB.cls) (hS : va_S (ShA ad) s.heap H locs) (hB : SxA ad adV s) (hn : As.length = n) (hsz : ls.size = nL) (hrest : (rest.map fun v => v.category).sum ≤ 8) (hdg : decode cc pc = .ok (.invokevirtual index, 3)) (hcs : cells ≤ R.cells ∧ slots ≤ R.slots)
    (kk : W p l e R s m args below meth c H locs cells slots Q (F0 m (pc + 3) ls (x.toList ++ rest))) : W p l e R s m args below meth c H locs cells slots Q (F0 m pc ls (As.reverse ++ .ref b :: rest)) := by
  have hts := S0.2.2.2.2
  have g1 := hts _ h1
  have g2 := hts _ h2
  have g3 := hts _ h3
  have g4 := hts _ h4
  have hpre := pu_pre (y := y) (av := .ref b :: As) hS hB
  have hcb := callB_of (R := R) n hts (puW_good h5) rfl (rm := puRm fr) rfl rfl (by rw [hd.1]; exact g4) g1 hd.2 hR
  exact pu_call (va_runV (C := C) S0 (hM H) ⟨hcb, g2, g3⟩ ⟨hpre.1, hrv, hpre.2⟩ rfl hn hsz rfl (lv_room hrest) hdg hcs) x (fun _ o t h => h) kk
theorem pu_stat {own : String} {index n nL fr mL : Nat} {y : MethodName} {yc : ByteArray} {ret : Option FieldType} {As : List Value} {x : Option Value} (hM : PuM l y yc mL ret fr (SxA ad adV) As x) (S0 : CallFix p m c cc nL s args lw_good own)
    (h1 : Cond.methodLink own index y ∈ lw_good) (h2 : Cond.static y ∈ lw_good) (h4 : Cond.initialized y.cls ∈ lw_good) (h5 : Cond.code y yc mL ret ∈ lw_good)
    (hd : y.cls ≠ "java/lang/invoke/MethodHandle" ∧ y.cls ≠ "java/lang/invoke/VarHandle" ∧ (parseMethodDescriptor y.desc).map (fun d => d.parameters.length) = some n) (hR : fr + 1 ≤ R.frames ∧ 8 + (mL + 11) + 30 * fr ≤ R.locals)
    (hS : va_S (ShA ad) s.heap H locs) (hB : SxA ad adV s) (hn : As.length = n) (hsz : ls.size = nL) (hrest : (rest.map fun v => v.category).sum ≤ 8) (hdg : decode cc pc = .ok (.invokestatic index, 3)) (hcs : cells ≤ R.cells ∧ slots ≤ R.slots)
    (kk : W p l e R s m args below meth c H locs cells slots Q (F0 m (pc + 3) ls (x.toList ++ rest))) : W p l e R s m args below meth c H locs cells slots Q (F0 m pc ls (As.reverse ++ rest)) := by
  have hts := S0.2.2.2.2
  have g1 := hts _ h1
  have g2 := hts _ h2
  have g4 := hts _ h4
  have hpre := pu_pre (y := y) (av := As) hS hB
  have hcb := callB_of (R := R) n hts (puW_good h5) rfl (rm := puRm fr) rfl rfl g4 g1 hd hR
  exact pu_call (va_runS S0 (hM H) ⟨hcb, g2⟩ ⟨hpre.1, hpre.2⟩ rfl hn hsz rfl (lv_room hrest) hdg hcs) x (fun _ o t h => h) kk
end PU
section PM
variable {ad adV : Nat → Nat}
set_option maxHeartbeats 2000000 in
set_option maxRecDepth 100000 in
theorem p_coder (l : Launch) {i : Nat} (hi : i < 5) : PuM l yJ0_coder_7d493 cJ0_coder_7d493 1 (some .byte) 1 (SxA ad adV) [.ref (ad (200 + i))] (some (.int 0)) := by
  intro hp
  refine Met.ofW (cc := cJ0_coder_7d493) (maxL := 1) (ret := some .byte) (by decide) rfl ?_
  intro p e s m args below meth c s₁ B hml hv
  obtain ⟨rfl, rfl, hB⟩ := hv
  have hx := B.exec
  have hb := B.bytes
  have hr := B.returns
  have hts0 := atoms_spec (ws := puW yJ0_coder_7d493 cJ0_coder_7d493 1 (some .byte)) B.pre
  have hts : ∀ w ∈ lw_good, w.before _ s = true := fun w hw => hts0 w (List.mem_cons_of_mem _ hw)
  have hown : s.vm.findClass RJ0 = some m.cls := findClass_of_methodNamed B.named
  have hS : va_S (ShA ad) s.heap s.heap [] := va_S.rf
  have hl := lv_entry ([.ref (ad (200 + i))]) (n := 1) (Nat.le_of_ble_eq_true rfl)
  rw [lg_entry_eq]
  generalize (lg_sl ([.ref (ad (200 + i))]) ++ List.replicate (1 - (lg_sl ([.ref (ad (200 + i))])).length) Slot.unset).toArray = ls at hl ⊢
  have hl : lv_has ls 1 [(0, .ref (ad (200 + i)))] := hl
  have wk := hts _ (inG (w := .fieldLink RJ0 38 RJ0 "COMPACT_STRINGS" "Z") (by decide +kernel) (by decide +kernel))
  refine va_gets hx hb hB.2.1 hS hown wk (fun _ h => h) dJ0_coder_7d493_0 ?_
  refine lv_if_eq (tgt := 13) hx hb dJ0_coder_7d493_3 (by decide) (fun h => absurd h (by decide)) (fun _ => ?_)
  refine lv_aload_n hx hb dJ0_coder_7d493_6 rfl (lv_at hl 0 rfl) ?_
  have wf := hts _ (inG (w := .fieldLink RJ0 15 RJ0 "coder" "B") (by decide +kernel) (by decide +kernel))
  refine vk_getf hx hb (hB.1.1 i hi).2.1 hS hown wf (fun _ h => h) dJ0_coder_7d493_7 ?_
  refine lv_goto (tgt := 14) hx hb dJ0_coder_7d493_10 (by decide) ?_
  exact W.zret hx hb hr rfl (fun t ht _ => ⟨rfl, ht⟩) (fun q h => absurd h List.not_mem_nil) dJ0_coder_7d493_14
set_option maxHeartbeats 2000000 in
set_option maxRecDepth 100000 in
theorem p_lat (l : Launch) {i : Nat} (hi : i < 5) : PuM l yJ0_isLatin1_aae02 cJ0_isLatin1_aae02 1 (some .boolean) 1 (SxA ad adV) [.ref (ad (200 + i))] (some (.int 1)) := by
  intro hp
  refine Met.ofW (cc := cJ0_isLatin1_aae02) (maxL := 1) (ret := some .boolean) (by decide) rfl ?_
  intro p e s m args below meth c s₁ B hml hv
  obtain ⟨rfl, rfl, hB⟩ := hv
  have hx := B.exec
  have hb := B.bytes
  have hr := B.returns
  have hts0 := atoms_spec (ws := puW yJ0_isLatin1_aae02 cJ0_isLatin1_aae02 1 (some .boolean)) B.pre
  have hts : ∀ w ∈ lw_good, w.before _ s = true := fun w hw => hts0 w (List.mem_cons_of_mem _ hw)
  have hown : s.vm.findClass RJ0 = some m.cls := findClass_of_methodNamed B.named
  have hS : va_S (ShA ad) s.heap s.heap [] := va_S.rf
  have hl := lv_entry ([.ref (ad (200 + i))]) (n := 1) (Nat.le_of_ble_eq_true rfl)
  rw [lg_entry_eq]
  generalize (lg_sl ([.ref (ad (200 + i))]) ++ List.replicate (1 - (lg_sl ([.ref (ad (200 + i))])).length) Slot.unset).toArray = ls at hl ⊢
  have hl : lv_has ls 1 [(0, .ref (ad (200 + i)))] := hl
  have wk := hts _ (inG (w := .fieldLink RJ0 38 RJ0 "COMPACT_STRINGS" "Z") (by decide +kernel) (by decide +kernel))
  refine va_gets hx hb hB.2.1 hS hown wk (fun _ h => h) dJ0_isLatin1_aae02_0 ?_
  refine lv_if_eq (tgt := 17) hx hb dJ0_isLatin1_aae02_3 (by decide) (fun h => absurd h (by decide)) (fun _ => ?_)
  refine lv_aload_n hx hb dJ0_isLatin1_aae02_6 rfl (lv_at hl 0 rfl) ?_
  have wf := hts _ (inG (w := .fieldLink RJ0 15 RJ0 "coder" "B") (by decide +kernel) (by decide +kernel))
  refine vk_getf hx hb (hB.1.1 i hi).2.1 hS hown wf (fun _ h => h) dJ0_isLatin1_aae02_7 ?_
  refine lv_if_ne (tgt := 17) hx hb dJ0_isLatin1_aae02_10 (by decide) (fun h => absurd rfl h) (fun _ => ?_)
  refine lv_iconst (v := 1) hx hb dJ0_isLatin1_aae02_13 (by decide) ?_
  refine lv_goto (tgt := 18) hx hb dJ0_isLatin1_aae02_14 (by decide) ?_
  exact W.zret hx hb hr rfl (fun t ht _ => ⟨rfl, ht⟩) (fun q h => absurd h List.not_mem_nil) dJ0_isLatin1_aae02_18
set_option maxHeartbeats 2000000 in
set_option maxRecDepth 100000 in
theorem p_len (l : Launch) {i : Nat} (hi : i < 5) : PuM l yJ0_length_8abf5 cJ0_length_8abf5 1 (some .int) 2 (SxA ad adV) [.ref (ad (200 + i))] (some (.int (Int32.ofInt ((sTxt (200 + i)).length : Nat)))) := by
  intro hp
  refine Met.ofW (cc := cJ0_length_8abf5) (maxL := 1) (ret := some .int) (by decide) rfl ?_
  intro p e s m args below meth c s₁ B hml hv
  obtain ⟨rfl, rfl, hB⟩ := hv
  have hx := B.exec
  have hb := B.bytes
  have hr := B.returns
  have hts0 := atoms_spec (ws := puW yJ0_length_8abf5 cJ0_length_8abf5 1 (some .int)) B.pre
  have hts : ∀ w ∈ lw_good, w.before _ s = true := fun w hw => hts0 w (List.mem_cons_of_mem _ hw)
  have hown : s.vm.findClass RJ0 = some m.cls := findClass_of_methodNamed B.named
  have hS : va_S (ShA ad) s.heap s.heap [] := va_S.rf
  have hl := lv_entry ([.ref (ad (200 + i))]) (n := 1) (Nat.le_of_ble_eq_true rfl)
  rw [lg_entry_eq]
  generalize (lg_sl ([.ref (ad (200 + i))]) ++ List.replicate (1 - (lg_sl ([.ref (ad (200 + i))])).length) Slot.unset).toArray = ls at hl ⊢
  have hl : lv_has ls 1 [(0, .ref (ad (200 + i)))] := hl
  refine lv_aload_n hx hb dJ0_length_8abf5_0 rfl (lv_at hl 0 rfl) ?_
  have wf := hts _ (inG (w := .fieldLink RJ0 9 RJ0 "value" "[B") (by decide +kernel) (by decide +kernel))
  refine vk_getf hx hb (hB.1.1 i hi).2.2.1 hS hown wf (fun _ h => h) dJ0_length_8abf5_1 ?_
  refine va_tlen hx hb (hB.1.1 i hi).2.2.2 hS rfl dJ0_length_8abf5_4 ?_
  refine lv_aload_n hx hb dJ0_length_8abf5_5 rfl (lv_at hl 0 rfl) ?_
  refine pu_virt (As := []) (n := 0) (C := RJ0) (p_coder l hi) ⟨hx, hb, hml, hown, hts⟩ (inG (w := .methodLink RJ0 335 yJ0_coder_7d493) (by decide +kernel) (by decide +kernel)) (inG (w := .instanceMethod yJ0_coder_7d493) (by decide +kernel) (by decide +kernel)) (inG (w := .selects RJ0 yJ0_coder_7d493 yJ0_coder_7d493) (by decide +kernel) (by decide +kernel)) (inG (w := .initialized RJ0) (by decide +kernel) (by decide +kernel)) (inG (w := .code yJ0_coder_7d493 cJ0_coder_7d493 1 (some .byte)) (by decide +kernel) (by decide +kernel)) (by decide +kernel) ⟨Nat.le_of_ble_eq_true rfl, Nat.le_of_ble_eq_true rfl⟩ (vk_recv (adK := fun i => ad (200 + i)) (i := i) hB.1 hi hS) hS hB rfl hl.1 (Nat.le_of_ble_eq_true rfl) dJ0_length_8abf5_6 ⟨Nat.le_of_ble_eq_true rfl, Nat.le_of_ble_eq_true rfl⟩ ?_
  refine lv_ishr hx hb dJ0_length_8abf5_9 ?_
  rw [(lenS_ok i hi).2]
  exact W.iret hx hb hr (fun t ht _ => ⟨rfl, ht⟩) (fun q h => absurd h List.not_mem_nil) dJ0_length_8abf5_10
set_option maxHeartbeats 2000000 in
set_option maxRecDepth 100000 in
theorem p_pre0 (l : Launch) {i n : Int32} (h0 : ¬ i < 0) (hn : i < n) : PuM l yJ3_checkIndex_8e157 cJ3_checkIndex_8e157 3 (some .int) 1 (SxA ad adV) [.int i, .int n, .null] (some (.int i)) := by
  intro hp
  refine Met.ofW (cc := cJ3_checkIndex_8e157) (maxL := 3) (ret := some .int) (by decide) rfl ?_
  intro p e s m args below meth c s₁ B hml hv
  obtain ⟨rfl, rfl, hB⟩ := hv
  have hx := B.exec
  have hb := B.bytes
  have hr := B.returns
  have hts0 := atoms_spec (ws := puW yJ3_checkIndex_8e157 cJ3_checkIndex_8e157 3 (some .int)) B.pre
  have hts : ∀ w ∈ lw_good, w.before _ s = true := fun w hw => hts0 w (List.mem_cons_of_mem _ hw)
  have hown : s.vm.findClass RJ3 = some m.cls := findClass_of_methodNamed B.named
  have hS : va_S (ShA ad) s.heap s.heap [] := va_S.rf
  have hl := lv_entry ([.int i, .int n, .null]) (n := 3) (Nat.le_of_ble_eq_true rfl)
  rw [lg_entry_eq]
  generalize (lg_sl ([.int i, .int n, .null]) ++ List.replicate (3 - (lg_sl ([.int i, .int n, .null])).length) Slot.unset).toArray = ls at hl ⊢
  have hl : lv_has ls 3 [(0, .int i), (1, .int n), (2, .null)] := hl
  refine lv_iload_n hx hb dJ3_checkIndex_8e157_0 rfl (lv_at hl 0 rfl) ?_
  refine lv_if_lt (tgt := 9) hx hb dJ3_checkIndex_8e157_1 (by decide) (fun h => absurd h h0) (fun _ => ?_)
  refine lv_iload_n hx hb dJ3_checkIndex_8e157_4 rfl (lv_at hl 0 rfl) ?_
  refine lv_iload_n hx hb dJ3_checkIndex_8e157_5 rfl (lv_at hl 1 rfl) ?_
  refine lv_icmp_lt (tgt := 16) hx hb dJ3_checkIndex_8e157_6 (by decide) (fun _ => ?_) (fun h => absurd hn h)
  refine lv_iload_n hx hb dJ3_checkIndex_8e157_16 rfl (lv_at hl 0 rfl) ?_
  exact W.iret hx hb hr (fun t ht _ => ⟨rfl, ht⟩) (fun q h => absurd h List.not_mem_nil) dJ3_checkIndex_8e157_17
set_option maxHeartbeats 2000000 in
set_option maxRecDepth 100000 in
theorem p_pre1 (l : Launch) {t : Nat} {i n : Int32} (h0 : ¬ i < 0) (hn : i < n) : PuM l yJ3_checkIndex_8e157 cJ3_checkIndex_8e157 3 (some .int) 1 (SxA ad adV) [.int i, .int n, .ref t] (some (.int i)) := by
  intro hp
  refine Met.ofW (cc := cJ3_checkIndex_8e157) (maxL := 3) (ret := some .int) (by decide) rfl ?_
  intro p e s m args below meth c s₁ B hml hv
  obtain ⟨rfl, rfl, hB⟩ := hv
  have hx := B.exec
  have hb := B.bytes
  have hr := B.returns
  have hts0 := atoms_spec (ws := puW yJ3_checkIndex_8e157 cJ3_checkIndex_8e157 3 (some .int)) B.pre
  have hts : ∀ w ∈ lw_good, w.before _ s = true := fun w hw => hts0 w (List.mem_cons_of_mem _ hw)
  have hown : s.vm.findClass RJ3 = some m.cls := findClass_of_methodNamed B.named
  have hS : va_S (ShA ad) s.heap s.heap [] := va_S.rf
  have hl := lv_entry ([.int i, .int n, .ref t]) (n := 3) (Nat.le_of_ble_eq_true rfl)
  rw [lg_entry_eq]
  generalize (lg_sl ([.int i, .int n, .ref t]) ++ List.replicate (3 - (lg_sl ([.int i, .int n, .ref t])).length) Slot.unset).toArray = ls at hl ⊢
  have hl : lv_has ls 3 [(0, .int i), (1, .int n), (2, .ref t)] := hl
  refine lv_iload_n hx hb dJ3_checkIndex_8e157_0 rfl (lv_at hl 0 rfl) ?_
  refine lv_if_lt (tgt := 9) hx hb dJ3_checkIndex_8e157_1 (by decide) (fun h => absurd h h0) (fun _ => ?_)
  refine lv_iload_n hx hb dJ3_checkIndex_8e157_4 rfl (lv_at hl 0 rfl) ?_
  refine lv_iload_n hx hb dJ3_checkIndex_8e157_5 rfl (lv_at hl 1 rfl) ?_
  refine lv_icmp_lt (tgt := 16) hx hb dJ3_checkIndex_8e157_6 (by decide) (fun _ => ?_) (fun h => absurd hn h)
  refine lv_iload_n hx hb dJ3_checkIndex_8e157_16 rfl (lv_at hl 0 rfl) ?_
  exact W.iret hx hb hr (fun t ht _ => ⟨rfl, ht⟩) (fun q h => absurd h List.not_mem_nil) dJ3_checkIndex_8e157_17
set_option maxHeartbeats 2000000 in
set_option maxRecDepth 100000 in
theorem p_chk (l : Launch) {i n : Int32} (h0 : ¬ i < 0) (hn : i < n) : PuM l yJ0_checkIndex_df160 cJ0_checkIndex_df160 2 (none) 2 (SxA ad adV) [.int i, .int n] (none) := by
  intro hp
  refine Met.ofW (cc := cJ0_checkIndex_df160) (maxL := 2) (ret := none) (by decide) rfl ?_
  intro p e s m args below meth c s₁ B hml hv
  obtain ⟨rfl, rfl, hB⟩ := hv
  have hx := B.exec
  have hb := B.bytes
  have hr := B.returns
  have hts0 := atoms_spec (ws := puW yJ0_checkIndex_df160 cJ0_checkIndex_df160 2 (none)) B.pre
  have hts : ∀ w ∈ lw_good, w.before _ s = true := fun w hw => hts0 w (List.mem_cons_of_mem _ hw)
  have hown : s.vm.findClass RJ0 = some m.cls := findClass_of_methodNamed B.named
  have hS : va_S (ShA ad) s.heap s.heap [] := va_S.rf
  have hl := lv_entry ([.int i, .int n]) (n := 2) (Nat.le_of_ble_eq_true rfl)
  rw [lg_entry_eq]
  generalize (lg_sl ([.int i, .int n]) ++ List.replicate (2 - (lg_sl ([.int i, .int n])).length) Slot.unset).toArray = ls at hl ⊢
  have hl : lv_has ls 2 [(0, .int i), (1, .int n)] := hl
  refine lv_iload_n hx hb dJ0_checkIndex_df160_0 rfl (lv_at hl 0 rfl) ?_
  refine lv_iload_n hx hb dJ0_checkIndex_df160_1 rfl (lv_at hl 1 rfl) ?_
  have wf := hts _ (inG (w := .fieldLink RJ0 1053 RJ3 "SIOOBE_FORMATTER" "Ljava/util/function/BiFunction;") (by decide +kernel) (by decide +kernel))
  rcases hB.2.2 with hZ | ⟨t, hZ⟩
  · refine va_gets hx hb hZ hS hown wf (fun _ h => h) dJ0_checkIndex_df160_2 ?_
    refine pu_stat (As := [.int i, .int n, .null]) (n := 3) (p_pre0 l h0 hn) ⟨hx, hb, hml, hown, hts⟩ (inG (w := .methodLink RJ0 1059 yJ3_checkIndex_8e157) (by decide +kernel) (by decide +kernel)) (inG (w := .static yJ3_checkIndex_8e157) (by decide +kernel) (by decide +kernel)) (inG (w := .initialized RJ3) (by decide +kernel) (by decide +kernel)) (inG (w := .code yJ3_checkIndex_8e157 cJ3_checkIndex_8e157 3 (some .int)) (by decide +kernel) (by decide +kernel)) (by decide +kernel) ⟨Nat.le_of_ble_eq_true rfl, Nat.le_of_ble_eq_true rfl⟩ hS hB rfl hl.1 (Nat.le_of_ble_eq_true rfl) dJ0_checkIndex_df160_5 ⟨Nat.le_of_ble_eq_true rfl, Nat.le_of_ble_eq_true rfl⟩ ?_
    refine lv_pop hx hb dJ0_checkIndex_df160_8 rfl ?_
    exact W.vret hx hb hr (fun t ht _ => ⟨rfl, ht⟩) (fun q h => absurd h List.not_mem_nil) dJ0_checkIndex_df160_9
  · refine va_gets hx hb hZ hS hown wf (fun _ h => h) dJ0_checkIndex_df160_2 ?_
    refine pu_stat (As := [.int i, .int n, .ref t]) (n := 3) (p_pre1 l h0 hn) ⟨hx, hb, hml, hown, hts⟩ (inG (w := .methodLink RJ0 1059 yJ3_checkIndex_8e157) (by decide +kernel) (by decide +kernel)) (inG (w := .static yJ3_checkIndex_8e157) (by decide +kernel) (by decide +kernel)) (inG (w := .initialized RJ3) (by decide +kernel) (by decide +kernel)) (inG (w := .code yJ3_checkIndex_8e157 cJ3_checkIndex_8e157 3 (some .int)) (by decide +kernel) (by decide +kernel)) (by decide +kernel) ⟨Nat.le_of_ble_eq_true rfl, Nat.le_of_ble_eq_true rfl⟩ hS hB rfl hl.1 (Nat.le_of_ble_eq_true rfl) dJ0_checkIndex_df160_5 ⟨Nat.le_of_ble_eq_true rfl, Nat.le_of_ble_eq_true rfl⟩ ?_
    refine lv_pop hx hb dJ0_checkIndex_df160_8 rfl ?_
    exact W.vret hx hb hr (fun t ht _ => ⟨rfl, ht⟩) (fun q h => absurd h List.not_mem_nil) dJ0_checkIndex_df160_9
set_option maxHeartbeats 2000000 in
set_option maxRecDepth 100000 in
theorem p_lch (l : Launch) {i : Nat} (hi : i < 5) {k : Int} (h0 : 0 ≤ k) (hk : k < (sTxt (200 + i)).length) : PuM l yJ1_charAt_3b067 cJ1_charAt_3b067 2 (some .char) 3 (SxA ad adV) [.ref (adV i), .int (Int32.ofInt k)] (some (.int (Int32.ofInt ((sTxt (200 + i)).getD k.toNat 0)))) := by
  intro hp
  refine Met.ofW (cc := cJ1_charAt_3b067) (maxL := 2) (ret := some .char) (by decide) rfl ?_
  intro p e s m args below meth c s₁ B hml hv
  obtain ⟨rfl, rfl, hB⟩ := hv
  have hx := B.exec
  have hb := B.bytes
  have hr := B.returns
  have hts0 := atoms_spec (ws := puW yJ1_charAt_3b067 cJ1_charAt_3b067 2 (some .char)) B.pre
  have hts : ∀ w ∈ lw_good, w.before _ s = true := fun w hw => hts0 w (List.mem_cons_of_mem _ hw)
  have hown : s.vm.findClass RJ1 = some m.cls := findClass_of_methodNamed B.named
  have hS : va_S (ShA ad) s.heap s.heap [] := va_S.rf
  have hl := lv_entry ([.ref (adV i), .int (Int32.ofInt k)]) (n := 2) (Nat.le_of_ble_eq_true rfl)
  rw [lg_entry_eq]
  generalize (lg_sl ([.ref (adV i), .int (Int32.ofInt k)]) ++ List.replicate (2 - (lg_sl ([.ref (adV i), .int (Int32.ofInt k)])).length) Slot.unset).toArray = ls at hl ⊢
  have hl : lv_has ls 2 [(0, .ref (adV i)), (1, .int (Int32.ofInt k))] := hl
  have hL6 := txt_len (200 + i)
  have hkr : ir k := ⟨by omega, by omega⟩
  have hLe := (lenS_ok i hi).1
  have hk0 : ¬ Int32.ofInt k < 0 := i32_nn hkr h0
  have hkn : Int32.ofInt k < Int32.ofNat (lenS.getD i 0) := by
    rw [hLe]
    show Int32.ofInt k < Int32.ofInt ((sTxt (200 + i)).length : Nat)
    rw [i32_lt hkr ⟨by omega, by omega⟩]
    exact hk
  refine lv_iload_n hx hb dJ1_charAt_3b067_0 rfl (lv_at hl 1 rfl) ?_
  refine lv_aload_n hx hb dJ1_charAt_3b067_1 rfl (lv_at hl 0 rfl) ?_
  refine va_tlen hx hb (hB.1.1 i hi).2.2.2 hS rfl dJ1_charAt_3b067_2 ?_
  refine pu_stat (As := [.int (Int32.ofInt k), .int (Int32.ofNat (lenS.getD i 0))]) (n := 2) (p_chk l hk0 hkn) ⟨hx, hb, hml, hown, hts⟩ (inG (w := .methodLink RJ1 9 yJ0_checkIndex_df160) (by decide +kernel) (by decide +kernel)) (inG (w := .static yJ0_checkIndex_df160) (by decide +kernel) (by decide +kernel)) (inG (w := .initialized RJ0) (by decide +kernel) (by decide +kernel)) (inG (w := .code yJ0_checkIndex_df160 cJ0_checkIndex_df160 2 none) (by decide +kernel) (by decide +kernel)) (by decide +kernel) ⟨Nat.le_of_ble_eq_true rfl, Nat.le_of_ble_eq_true rfl⟩ hS hB rfl hl.1 (Nat.le_of_ble_eq_true rfl) dJ1_charAt_3b067_3 ⟨Nat.le_of_ble_eq_true rfl, Nat.le_of_ble_eq_true rfl⟩ ?_
  refine lv_aload_n hx hb dJ1_charAt_3b067_6 rfl (lv_at hl 0 rfl) ?_
  refine lv_iload_n hx hb dJ1_charAt_3b067_7 rfl (lv_at hl 1 rfl) ?_
  refine va_tb (v := .int ((bytS.getD i []).getD k.toNat 0)) hx hb (hB.1.1 i hi).2.2.2 hS (i32_in hkr h0 (by rw [hLe]; exact hk)) (by show Value.int _ = _; rw [i32_cl hkr]) dJ1_charAt_3b067_8 ?_
  refine lv_sipush (v := 255) hx hb dJ1_charAt_3b067_9 (by decide) ?_
  refine lv_iand hx hb dJ1_charAt_3b067_12 ?_
  refine lv_i2c hx hb dJ1_charAt_3b067_13 (sc_c2 _) ?_
  have hch := bytS_ok i hi k.toNat (by omega)
  have hnr := sc_nar ((bytS.getD i []).getD k.toNat 0)
  rw [hch] at hnr ⊢
  exact W.zret hx hb hr hnr (fun t ht _ => ⟨rfl, ht⟩) (fun q h => absurd h List.not_mem_nil) dJ1_charAt_3b067_14
set_option maxHeartbeats 2000000 in
set_option maxRecDepth 100000 in
theorem p_ch (l : Launch) {i : Nat} (hi : i < 5) {k : Int} (h0 : 0 ≤ k) (hk : k < (sTxt (200 + i)).length) : PuM l yJ0_charAt_5068e cJ0_charAt_5068e 2 (some .char) 4 (SxA ad adV) [.ref (ad (200 + i)), .int (Int32.ofInt k)] (some (.int (Int32.ofInt ((sTxt (200 + i)).getD k.toNat 0)))) := by
  intro hp
  refine Met.ofW (cc := cJ0_charAt_5068e) (maxL := 2) (ret := some .char) (by decide) rfl ?_
  intro p e s m args below meth c s₁ B hml hv
  obtain ⟨rfl, rfl, hB⟩ := hv
  have hx := B.exec
  have hb := B.bytes
  have hr := B.returns
  have hts0 := atoms_spec (ws := puW yJ0_charAt_5068e cJ0_charAt_5068e 2 (some .char)) B.pre
  have hts : ∀ w ∈ lw_good, w.before _ s = true := fun w hw => hts0 w (List.mem_cons_of_mem _ hw)
  have hown : s.vm.findClass RJ0 = some m.cls := findClass_of_methodNamed B.named
  have hS : va_S (ShA ad) s.heap s.heap [] := va_S.rf
  have hl := lv_entry ([.ref (ad (200 + i)), .int (Int32.ofInt k)]) (n := 2) (Nat.le_of_ble_eq_true rfl)
  rw [lg_entry_eq]
  generalize (lg_sl ([.ref (ad (200 + i)), .int (Int32.ofInt k)]) ++ List.replicate (2 - (lg_sl ([.ref (ad (200 + i)), .int (Int32.ofInt k)])).length) Slot.unset).toArray = ls at hl ⊢
  have hl : lv_has ls 2 [(0, .ref (ad (200 + i))), (1, .int (Int32.ofInt k))] := hl
  have hL6 := txt_len (200 + i)
  refine lv_aload_n hx hb dJ0_charAt_5068e_0 rfl (lv_at hl 0 rfl) ?_
  refine pu_virt (As := []) (n := 0) (C := RJ0) (p_lat l hi) ⟨hx, hb, hml, hown, hts⟩ (inG (w := .methodLink RJ0 492 yJ0_isLatin1_aae02) (by decide +kernel) (by decide +kernel)) (inG (w := .instanceMethod yJ0_isLatin1_aae02) (by decide +kernel) (by decide +kernel)) (inG (w := .selects RJ0 yJ0_isLatin1_aae02 yJ0_isLatin1_aae02) (by decide +kernel) (by decide +kernel)) (inG (w := .initialized RJ0) (by decide +kernel) (by decide +kernel)) (inG (w := .code yJ0_isLatin1_aae02 cJ0_isLatin1_aae02 1 (some .boolean)) (by decide +kernel) (by decide +kernel)) (by decide +kernel) ⟨Nat.le_of_ble_eq_true rfl, Nat.le_of_ble_eq_true rfl⟩ (vk_recv (adK := fun i => ad (200 + i)) (i := i) hB.1 hi hS) hS hB rfl hl.1 (Nat.le_of_ble_eq_true rfl) dJ0_charAt_5068e_1 ⟨Nat.le_of_ble_eq_true rfl, Nat.le_of_ble_eq_true rfl⟩ ?_
  refine lv_if_eq (tgt := 16) hx hb dJ0_charAt_5068e_4 (by decide) (fun h => absurd h (by decide)) (fun _ => ?_)
  refine lv_aload_n hx hb dJ0_charAt_5068e_7 rfl (lv_at hl 0 rfl) ?_
  have wf := hts _ (inG (w := .fieldLink RJ0 9 RJ0 "value" "[B") (by decide +kernel) (by decide +kernel))
  refine vk_getf hx hb (hB.1.1 i hi).2.2.1 hS hown wf (fun _ h => h) dJ0_charAt_5068e_8 ?_
  refine lv_iload_n hx hb dJ0_charAt_5068e_11 rfl (lv_at hl 1 rfl) ?_
  refine pu_stat (As := [.ref (adV i), .int (Int32.ofInt k)]) (n := 2) (p_lch l hi h0 hk) ⟨hx, hb, hml, hown, hts⟩ (inG (w := .methodLink RJ0 495 yJ1_charAt_3b067) (by decide +kernel) (by decide +kernel)) (inG (w := .static yJ1_charAt_3b067) (by decide +kernel) (by decide +kernel)) (inG (w := .initialized RJ1) (by decide +kernel) (by decide +kernel)) (inG (w := .code yJ1_charAt_3b067 cJ1_charAt_3b067 2 (some .char)) (by decide +kernel) (by decide +kernel)) (by decide +kernel) ⟨Nat.le_of_ble_eq_true rfl, Nat.le_of_ble_eq_true rfl⟩ hS hB rfl hl.1 (Nat.le_of_ble_eq_true rfl) dJ0_charAt_5068e_12 ⟨Nat.le_of_ble_eq_true rfl, Nat.le_of_ble_eq_true rfl⟩ ?_
  have hch := bytS_ok i hi k.toNat (by omega)
  have hnr := sc_nar ((bytS.getD i []).getD k.toNat 0)
  rw [hch] at hnr
  exact W.zret hx hb hr hnr (fun t ht _ => ⟨rfl, ht⟩) (fun q h => absurd h List.not_mem_nil) dJ0_charAt_5068e_15
end PM
theorem ct7 : ∀ ow k n, cTab ow k = some (7, n) → ow = 10 ∧ k = 69 := by
  intro ow k n h
  unfold cTab at h
  obtain ⟨q, hq, he⟩ := Option.map_eq_some_iff.mp h
  have hp := List.find?_some hq
  have hm := List.mem_of_find?_eq_some hq
  have key : ∀ q ∈ cTb, q.2.2.1 = 7 → q.1 = 10 ∧ q.2.1 = 69 := by decide +kernel
  have h7 : q.2.2.1 = 7 := congrArg Prod.fst he
  have := key q hm h7
  simp only [Bool.and_eq_true, beq_iff_eq] at hp
  omega
theorem ct8 : ∀ ow k n, cTab ow k = some (8, n) → ow = 10 ∧ k = 73 := by
  intro ow k n h
  unfold cTab at h
  obtain ⟨q, hq, he⟩ := Option.map_eq_some_iff.mp h
  have hp := List.find?_some hq
  have hm := List.mem_of_find?_eq_some hq
  have key : ∀ q ∈ cTb, q.2.2.1 = 8 → q.1 = 10 ∧ q.2.1 = 73 := by decide +kernel
  have h7 : q.2.2.1 = 8 := congrArg Prod.fst he
  have := key q hm h7
  simp only [Bool.and_eq_true, beq_iff_eq] at hp
  omega
set_option maxHeartbeats 2000000 in
theorem strLen (ad adV : Nat → Nat) : StrLen ad (SxA ad adV) := by
  intro p l e R s m args below meth c H locs cells slots Q cc nL pc ra rest ow k n a hx hb hml hown hts hfr hlo hce hsl hB hS hsz hct ha1 ha2 hrest hdg kk
  obtain ⟨rfl, rfl⟩ := ct7 _ _ _ hct
  obtain ⟨i, rfl⟩ : ∃ i, a = 200 + i := ⟨a - 200, by omega⟩
  have hi : i < 5 := by omega
  exact pu_virt (As := []) (n := 0) (C := RJ0) (rest := rest) (p_len l hi) ⟨hx, hb, hml, hown, hts⟩ (inG (w := .methodLink RX10 69 yJ0_length_8abf5) (by decide +kernel) (by decide +kernel)) (inG (w := .instanceMethod yJ0_length_8abf5) (by decide +kernel) (by decide +kernel)) (inG (w := .selects RJ0 yJ0_length_8abf5 yJ0_length_8abf5) (by decide +kernel) (by decide +kernel)) (inG (w := .initialized RJ0) (by decide +kernel) (by decide +kernel)) (inG (w := .code yJ0_length_8abf5 cJ0_length_8abf5 1 (some .int)) (by decide +kernel) (by decide +kernel)) (by decide +kernel) ⟨by omega, by omega⟩ (vk_recv (adK := fun i => ad (200 + i)) (i := i) hB.1 hi hS) hS hB rfl hsz hrest hdg ⟨hce, hsl⟩ kk
set_option maxHeartbeats 2000000 in
theorem strAt (ad adV : Nat → Nat) : StrAt ad (SxA ad adV) := by
  intro p l e R s m args below meth c H locs cells slots Q cc nL pc ra rest ow k n a z hx hb hml hown hts hfr hlo hce hsl hB hS hsz hct ha1 ha2 h0 hz hrest hdg kk
  obtain ⟨rfl, rfl⟩ := ct8 _ _ _ hct
  obtain ⟨i, rfl⟩ : ∃ i, a = 200 + i := ⟨a - 200, by omega⟩
  have hi : i < 5 := by omega
  exact pu_virt (As := [.int (Int32.ofInt z)]) (n := 1) (C := RJ0) (rest := rest) (p_ch l hi h0 hz) ⟨hx, hb, hml, hown, hts⟩ (inG (w := .methodLink RX10 73 yJ0_charAt_5068e) (by decide +kernel) (by decide +kernel)) (inG (w := .instanceMethod yJ0_charAt_5068e) (by decide +kernel) (by decide +kernel)) (inG (w := .selects RJ0 yJ0_charAt_5068e yJ0_charAt_5068e) (by decide +kernel) (by decide +kernel)) (inG (w := .initialized RJ0) (by decide +kernel) (by decide +kernel)) (inG (w := .code yJ0_charAt_5068e cJ0_charAt_5068e 2 (some .char)) (by decide +kernel) (by decide +kernel)) (by decide +kernel) ⟨by omega, by omega⟩ (vk_recv (adK := fun i => ad (200 + i)) (i := i) hB.1 hi hS) hS hB rfl hsz hrest hdg ⟨hce, hsl⟩ kk
