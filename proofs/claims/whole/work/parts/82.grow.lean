/-! constructors: rows for a world that grows at its end -/
def NQ (U : State) : Prop := NC U ∧ (va_AO RX7 U ∧ va_AO RX2 U) ∧ ∀ C ∈ [RX1, RX0, RX5, RX4, RX3], va_Nw (.castable C RX7) U
theorem NQ.warm {s U : State} (hW : s.WarmedH U.vm) (h : NQ s) : NQ U := ⟨NC.warm hW h.1, ⟨va_AO.moved hW.alike h.2.1.1, va_AO.moved hW.alike h.2.1.2⟩, fun C hC => va_Nw.warmC hW (h.2.2 C hC)⟩
theorem NQ.same {s U : State} (hv : s.vm = U.vm) (h : NQ s) : NQ U := ⟨NC.same hv h.1, ⟨va_AO.moved (by rw [hv]; exact Vm.Alike.refl _) h.2.1.1, va_AO.moved (by rw [hv]; exact Vm.Alike.refl _) h.2.1.2⟩, fun C hC => va_Nw.same rfl hv (h.2.2 C hC)⟩
/-- a constructor's contract, in one form -/
def CtM (l : Launch) (y : MethodName) (yc : ByteArray) (rm : Room) (dC : Nat → ClassId) (dI : Nat → Nat → Nat) (ci : Nat) (fs0 : List Value) {S : Type} (post : Nat → S → Prop) (w1 : Nat → S → va_W) (t1 : S → List (ClassId × FieldType)) (mc ms : Nat) : Prop :=
  ∀ h0 sz : Nat, Met l y (ctWs y yc) rm (va_Pc [.ref h0] (fun U => U.heap.size = sz ∧ va_P (dC, dI) vwCl [(h0, .inr (ci, fs0))] U.heap ∧ va_K (dC, dI) vwCl [] U ∧ va_D (fun _ => True) [(h0, .inr (ci, fs0))] ∧ NQ U)) (va_Qv (post h0) (fun u => CtB dC dI (va_A [(h0, .inr (ci, fs0))] sz) (w1 h0 u) (t1 u)) (va_A [(h0, .inr (ci, fs0))] sz)) mc ms (va_A [(h0, .inr (ci, fs0))] sz)
theorem Met.str {l : Launch} {y : MethodName} {ws : List Cond} {rm : Room} {Pc Pc' : Array Value → State → Prop} {Qc : Array Value → State → Outcome → State → Prop} {mc ms : Nat} {free : Addr → Prop} (hM : Met l y ws rm Pc Qc mc ms free) (h : ∀ a s, Pc' a s → Pc a s) : Met l y ws rm Pc' Qc mc ms free :=
  fun p e ha hc hk s m args below hf happ hP' ht => hM p e ha hc hk s m args below hf happ (h _ _ hP') ht
theorem cut_P {D : va_G} {cl : List vw_C} {pre : va_W} {x : Nat × va_E} {H : Heap} (hP : va_P D cl (pre ++ [x]) H) : va_P D cl [x] H := by
  intro k q hk
  cases k with
  | zero => cases hk; exact hP pre.length x (by simp)
  | succ k => simp at hk
theorem cut_D {A : Nat → Prop} {pre : va_W} {x : Nat × va_E} (hD : va_D A (pre ++ [x])) : va_D A [x] := by
  refine ⟨fun i j p q hi hj _ => ?_, fun k q hk => ?_⟩
  · cases i with
    | zero =>
      cases j with
      | zero => rfl
      | succ j => simp at hj
    | succ i => simp at hi
  · cases k with
    | zero => cases hk; exact hD.2 pre.length x (by simp)
    | succ k => simp at hk
theorem cut_F {A0 : Nat → Prop} {pre : va_W} {x : Nat × va_E} {H0 H : Heap} {locs : List Loc} (hD : va_D A0 (pre ++ [x])) (hS : va_S A0 H0 H locs) (hA : ∀ q, H0.size ≤ q → A0 q) : ∀ q, va_A [x] H.size q → A0 q := va_free hD hS hA [pre.length] (by simp)
theorem nd_range : ∀ (n s : Nat), va_nd (List.range' s n) = true := by
  intro n
  induction n with
  | zero => intro s; rfl
  | succ n ih =>
    intro s
    rw [List.range'_succ]
    simp only [va_nd, ih, Bool.and_true, decide_eq_true_eq]
    intro h
    have := (List.mem_range'_1.mp h).1
    omega
theorem cut_J {A0 : Nat → Prop} {D : va_G} {cl : List vw_C} {pre w1 : va_W} {x : Nat × va_E} {H H1 : Heap} (hP : va_P D cl (pre ++ [x]) H) (hD : va_D A0 (pre ++ [x])) (hk : ∀ q : Nat, q < H.size → ¬ va_A [x] H.size q → H1[q]? = H[q]?) (hF : ∀ q, va_A [x] H.size q → A0 q) (hP1 : va_P D cl w1 H1) (hD1 : va_D (va_A [x] H.size) w1) : va_P D cl (pre ++ w1) H1 ∧ va_D A0 (pre ++ w1) := by
  refine va_join (wr := pre) (w1 := w1) hP hD [pre.length] (List.range' 0 pre.length) (by simp) ?_ (nd_range _ _) ?_ hk hF hP1 hD1
  · apply List.ext_getElem
    · simp
    · intro i h1 h2
      have hi : i < pre.length := by simpa using h1
      simp only [List.getElem_map, List.getElem_range', Nat.zero_add, Nat.one_mul]
      rw [List.getElem?_append_left hi, List.getElem?_eq_getElem hi]
  · intro i hi
    have := (List.mem_range'_1.mp hi).2
    simp
    omega
section CT
variable {p : Program} {l : Launch} {e : Env} {R : Room} {s : State} {m : MethodId} {args : Array Value} {below : List Frame} {meth : Method} {c : Code} {H : Heap} {locs : List Loc} {cells slots : Nat} {Q : State → Prop} {cc : ByteArray} {pc : Nat} {ls : Array Slot} {rest : List Value}
variable {dC : Nat → ClassId} {dI : Nat → Nat → Nat} {tys : List (ClassId × FieldType)} {A : Nat → Prop} {H0 : Heap}
set_option maxHeartbeats 1000000 in
/-- new, dup, a call of the constructor -/
theorem ct_obj {own C : String} {T : u_T} {N ci ix : Nat} {Ts : List Cond} (ty : Nat → FieldType) {fs0 : List Value} {S : Type} {post : Nat → S → Prop} {w1 : Nat → S → va_W} {t1 : S → List (ClassId × FieldType)} {mc ms : Nat} {pre : va_W}
    (hx : p.tables.exec = Jvm.exec) (hb : c.code = cc) (hown : s.vm.findClass own = some m.cls) (hts : ∀ w ∈ Ts, w.before args s = true)
    (hin : ∀ w ∈ u_ws C T N, w ∈ Ts) (hty : ∀ k, k < N → parseFieldDescriptor (T k).2.2.1 = some (ty k)) (hcl : (Cond.classLink own ix C).before args s = true) (hinst : (Cond.instantiable C N).before args s = true) (hini : (Cond.initialized C).before args s = true)
    (hNQ : NQ s) (hK : va_K (dC, dI) vwCl tys s) (hP : va_P (dC, dI) vwCl pre H) (hD : va_D A pre) (hS : va_S A H0 H locs) (hA : ∀ q, H0.size ≤ q → A q)
    (hc : vwCl[ci]? = some (C, T, N)) (hfs : ∀ j, j < N → defaultValue (ty j) = vp_V fs0 j) (hcells : cells + 1 + mc ≤ R.cells) (hslots : slots + N + ms ≤ R.slots)
    (d1 : decode cc pc = .ok (.new ix, 3)) (d2 : decode cc (pc + 3) = .ok (.dup, 1))
    (hrun : ∀ (q : Nat) (H1 : Heap) (locs1 : List Loc), PreS s H1 (va_Pc [.ref q] (fun U => U.heap.size = H1.size ∧ va_P (dC, dI) vwCl [(q, .inr (ci, fs0))] U.heap ∧ va_K (dC, dI) vwCl [] U ∧ va_D (fun _ => True) [(q, .inr (ci, fs0))] ∧ NQ U)) [.ref q] →
      va_Run p l e R s m args below meth c H1 locs1 (cells + 1) (slots + N) mc ms (F0 m (pc + 4) ls (.ref q :: .ref q :: rest)) (.ref q :: rest) (va_Qv (post q) (fun u => CtB dC dI (va_A [(q, .inr (ci, fs0))] H1.size) (w1 q u) (t1 u)) (va_A [(q, .inr (ci, fs0))] H1.size) #[Value.ref q]) (va_A [(q, .inr (ci, fs0))] H1.size))
    (kk : ∀ (q : Nat) (u : S) (H1 : Heap) (locs1 : List Loc), post q u → va_K (dC, dI) vwCl (tys ++ t1 u) s → va_P (dC, dI) vwCl (pre ++ w1 q u) H1 → va_D A (pre ++ w1 q u) → va_S A H0 H1 locs1 → W p l e R s m args below meth c H1 locs1 (cells + 1 + mc) (slots + N + ms) Q (F0 m (pc + 7) ls (.ref q :: rest))) :
    W p l e R s m args below meth c H locs cells slots Q (F0 m pc ls rest) := by
  refine va_new (ci := ci) (fs := fs0) (C := C) (T := T) (N := N) hx hb hts hin ty hty hown hcl hinst hini hK hP hD hS hA hc hfs (by omega) (by omega) d1 (fun q H1 hP1 hD1 hS1 => ?_)
  refine lv_dup hx hb d2 rfl ?_
  have hPc := cut_P hP1
  have hDc := cut_D hD1
  have hKc := hK.sub (tys' := []) [] rfl
  have hFc := cut_F hD1 hS1 hA
  refine va_callv (hrun q H1 locs ⟨fun a U g mk q => by obtain ⟨q0, q1, qP, qK, qD, qN⟩ := q; exact ⟨q0, q1, qP, va_K.moved (u := U) (U := U.calling g mk a) (Vm.Alike.refl U.vm) qK, qD, NQ.same (s := U) (U := U.calling g mk a) rfl qN⟩, fun U hU hW => ⟨rfl, by rw [hU], by rw [hU]; exact hPc, va_K.moved hW.alike hKc, hDc.weaken (fun _ _ _ _ => trivial), hNQ.warm hW⟩⟩) hS1 (fun q _ h => hFc q h) hFc (fun u t H2 locs2 ht hvm hw hB hz1 hk1 hS2 => ?_)
  obtain ⟨hP2, hK2, hD2⟩ := hB
  rw [ht] at hP2
  have hK2 := va_K.moved hvm.symm hK2
  obtain ⟨hP3, hD3⟩ := cut_J hP1 hD1 hk1 hFc hP2 hD2
  exact kk q u H2 locs2 hw (hK.app hK2) hP3 hD3 hS2
set_option maxHeartbeats 1000000 in
/-- new, dup, a call of a nest mate's constructor -/
theorem ct_objN {own C : String} {T : u_T} {N ci ix iy nL : Nat} {Ts : List Cond} (ty : Nat → FieldType) {y : MethodName} {yc : ByteArray} {rm : Room} {fs0 : List Value} {S : Type} {post : Nat → S → Prop} {w1 : Nat → S → va_W} {t1 : S → List (ClassId × FieldType)} {mc ms : Nat} {pre : va_W}
    (hM : CtM l y yc rm dC dI ci fs0 post w1 t1 mc ms) (S0 : CallFix p m c cc nL s args Ts own) (hTs : ∀ w ∈ lw_good, w ∈ Ts)
    (hin : ∀ w ∈ u_ws C T N, w ∈ lw_good) (hty : ∀ k, k < N → parseFieldDescriptor (T k).2.2.1 = some (ty k)) (h1 : Cond.classLink own ix C ∈ lw_good) (h2 : Cond.instantiable C N ∈ lw_good) (h3 : Cond.initialized C ∈ lw_good)
    (hy : y.cls = C) (hy2 : y.name = "<init>") (h4 : Cond.instanceMethod y ∈ lw_good) (h5 : Cond.code y yc 1 none ∈ lw_good) (h6 : Cond.methodLinkNest own iy y RX11 ∈ nestC)
    (hd : y.cls ≠ "java/lang/invoke/MethodHandle" ∧ y.cls ≠ "java/lang/invoke/VarHandle" ∧ (parseMethodDescriptor y.desc).map (fun d => d.parameters.length) = some 0)
    (hrm : rm.cells = mc ∧ rm.slots = ms) (hR : rm.frames + 1 ≤ R.frames ∧ 8 + (1 + 11) + rm.locals ≤ R.locals)
    (hNQ : NQ s) (hK : va_K (dC, dI) vwCl tys s) (hP : va_P (dC, dI) vwCl pre H) (hD : va_D A pre) (hS : va_S A H0 H locs) (hA : ∀ q, H0.size ≤ q → A q)
    (hc : vwCl[ci]? = some (C, T, N)) (hfs : ∀ j, j < N → defaultValue (ty j) = vp_V fs0 j) (hcells : cells + 1 + mc ≤ R.cells) (hslots : slots + N + ms ≤ R.slots) (hsz : ls.size = nL) (hrest : 1 + (rest.map fun v => v.category).sum ≤ 8)
    (d1 : decode cc pc = .ok (.new ix, 3)) (d2 : decode cc (pc + 3) = .ok (.dup, 1)) (d3 : decode cc (pc + 4) = .ok (.invokespecial iy, 3))
    (kk : ∀ (q : Nat) (u : S) (H1 : Heap) (locs1 : List Loc), post q u → va_K (dC, dI) vwCl (tys ++ t1 u) s → va_P (dC, dI) vwCl (pre ++ w1 q u) H1 → va_D A (pre ++ w1 q u) → va_S A H0 H1 locs1 → W p l e R s m args below meth c H1 locs1 (cells + 1 + mc) (slots + N + ms) Q (F0 m (pc + 7) ls (.ref q :: rest))) :
    W p l e R s m args below meth c H locs cells slots Q (F0 m pc ls rest) := by
  obtain ⟨hx, hb, hml, hown, hts⟩ := id S0
  have g1 := hts _ (hTs _ h1)
  have g2 := hts _ (hTs _ h2)
  have g3 := hts _ (hTs _ h3)
  have g4 := hts _ (hTs _ h4)
  have g6 := hNQ.1 _ h6
  have hG : GoodIn Ts (ctWs y yc) := fun w hw => ⟨hTs _ (ctWs_good h5 w hw).1, (ctWs_good h5 w hw).2⟩
  refine ct_obj ty hx hb hown hts (fun w hw => hTs w (hin w hw)) hty g1 g2 g3 hNQ hK hP hD hS hA hc hfs hcells hslots d1 d2 (fun q H1 locs1 hpre => ?_) kk
  exact va_runIN (As := []) (rest := .ref q :: rest) (g := F0 m (pc + 4) ls (.ref q :: .ref q :: rest)) S0 (hM q H1.size) ⟨va_cnB 0 hts hG rfl hrm.1 hrm.2 g6 (by rw [hy]; exact g3) hd hR, hy2, g4⟩ hpre rfl rfl hsz rfl (lv_room (by rw [List.map_cons, List.sum_cons]; exact hrest)) d3 ⟨hcells, hslots⟩
set_option maxHeartbeats 1000000 in
/-- a final field of the object that is made -/
theorem ct_put {own ref C : String} {T : u_T} {N ci index : Nat} (ty0 : Nat → FieldType) {a : Nat} {L : va_W} {fs : List Value} (hx : p.tables.exec = Jvm.exec) (hb : c.code = cc) (htg : ∀ w ∈ lw_good, w.before args s = true) (hin : ∀ w ∈ u_ws C T N, w ∈ lw_good) (hty : ∀ k, k < N → parseFieldDescriptor (T k).2.2.1 = some (ty0 k)) (hnm : ∀ a, a < N → ∀ b, b < N → a ≠ b → (T a).2.1 ≠ (T b).2.1) (hown : s.vm.findClass own = some m.cls)
    (hK : va_K (dC, dI) vwCl tys s) (hP : va_P (dC, dI) vwCl ((a, .inr (ci, fs)) :: L) H) (hD : va_D A ((a, .inr (ci, fs)) :: L)) (hS : va_S A H0 H locs) (hc : vwCl[ci]? = some (C, T, N)) (k : Nat) (hk : k < N) (hw : Cond.fieldLink own index ref (T k).2.1 (T k).2.2.1 ∈ lw_good) (href : ref = (T k).1) (hfin : (T k).2.2.2 = true) (hin2 : meth.name = "<init>") (hdecl : (T k).1 = own) {ft : FieldType} {v : Value} (hd : parseFieldDescriptor (T k).2.2.1 = some ft) (hn : narrow ft v = v) (hfit : fits ft v = true) (hl : k < fs.length)
    (hdg : decode cc pc = .ok (.putfield index, 3)) (kk : ∀ (H1 : Heap) (locs1 : List Loc), va_P (dC, dI) vwCl ((a, .inr (ci, fs.set k v)) :: L) H1 → va_D A ((a, .inr (ci, fs.set k v)) :: L) → va_S A H0 H1 locs1 → W p l e R s m args below meth c H1 locs1 cells slots Q (F0 m (pc + 3) ls rest)) : W p l e R s m args below meth c H locs cells slots Q (F0 m pc ls (v :: .ref a :: rest)) := by
  subst href
  exact va_putF (D := (dC, dI)) (ci := ci) (v := v) (ty := ft) (C := C) (T := T) (N := N) hx hb htg hin ty0 hty hnm hown hK hP hD hS 0 rfl hc k hk (htg _ hw) (fun _ h9 => h9) hfin hin2 hdecl hd hn hfit hl hdg kk
set_option maxHeartbeats 1000000 in
/-- newarray, into a final field of the object that is made -/
theorem ct_arr {own ref C : String} {T : u_T} {N ci index : Nat} (ty0 : Nat → FieldType) {a : Nat} {L : va_W} {fs : List Value} (hx : p.tables.exec = Jvm.exec) (hb : c.code = cc) (htg : ∀ w ∈ lw_good, w.before args s = true) (hin : ∀ w ∈ u_ws C T N, w ∈ lw_good) (hty : ∀ k, k < N → parseFieldDescriptor (T k).2.2.1 = some (ty0 k)) (hnm : ∀ a, a < N → ∀ b, b < N → a ≠ b → (T a).2.1 ≠ (T b).2.1) (hown : s.vm.findClass own = some m.cls)
    (hK : va_K (dC, dI) vwCl tys s) (hP : va_P (dC, dI) vwCl ((a, .inr (ci, fs)) :: L) H) (hD : va_D A ((a, .inr (ci, fs)) :: L)) (hS : va_S A H0 H locs) (hA : ∀ q, H0.size ≤ q → A q) (hc : vwCl[ci]? = some (C, T, N)) (k : Nat) (hk : k < N) (hw : Cond.fieldLink own index ref (T k).2.1 (T k).2.2.1 ∈ lw_good) (href : ref = (T k).1) (hfin : (T k).2.2.2 = true) (hin2 : meth.name = "<init>") (hdecl : (T k).1 = own)
    (atype : ArrayType) (aty : FieldType) (hat : newarray.typeOf atype = aty) (hwa : Cond.arrayClass aty ∈ lw_good) {n : Int32} (N' : Nat) (a0 : vp_A) (ha : ∀ cA : ClassId, vp_cell cA a0 = arrV cA N' (fun _ => defaultValue aty)) (hn : ¬ n < 0) (hN : n.toNatClampNeg = N') (hbytes : N' * componentBytes aty ≤ 536870912) (hcells : cells + 1 ≤ R.cells) (hslots : slots + N' ≤ R.slots)
    (hd : parseFieldDescriptor (T k).2.2.1 = some (.array aty)) (hl : k < fs.length)
    (d1 : decode cc pc = .ok (.newarray atype, 2)) (d2 : decode cc (pc + 2) = .ok (.putfield index, 3)) (kk : ∀ (q : Nat) (cA : ClassId) (H1 : Heap) (locs1 : List Loc), va_K (dC, dI) vwCl (tys ++ [(cA, aty)]) s → va_P (dC, dI) vwCl ((a, .inr (ci, fs.set k (.ref q))) :: (L ++ [(q, .inl (cA, a0))])) H1 → va_D A ((a, .inr (ci, fs.set k (.ref q))) :: (L ++ [(q, .inl (cA, a0))])) → va_S A H0 H1 locs1 → W p l e R s m args below meth c H1 locs1 (cells + 1) (slots + N') Q (F0 m (pc + 5) ls rest)) : W p l e R s m args below meth c H locs cells slots Q (F0 m pc ls (.int n :: .ref a :: rest)) := by
  refine va_newa (atype := atype) (a0 := a0) (N' := N') (ty := aty) hx hb (by rw [hat]; exact htg _ hwa) hat hK hP hD hS hA ha hn hN hbytes hcells hslots d1 (fun q cA H1 hK1 hP1 hD1 hS1 => ?_)
  exact ct_put ty0 hx hb htg hin hty hnm hown hK1 hP1 hD1 hS1 hc k hk hw href hfin hin2 hdecl (ft := .array aty) (v := .ref q) hd rfl rfl hl d2 (fun H2 locs2 hP2 hD2 hS2 => kk q cA H2 locs2 hK1 hP2 hD2 hS2)
end CT
