/-! THE CLAIM OUT OF ONE WALK OF THE LAW'S BODY. Your part is whole_start (and what it stands on); all else here is the same for every law, but numbers. -/
def R_law : String := "MiserBridgesLaw"
def lw_P (b : Addr) (xs : List Int32) (args : Array Value) (s : State) : Prop := args = #[.ref b] ∧ s.IntsAt b xs ∧ xs.length ≤ 2560 ∧ (Jvm.Cond.and given_1 narrow_1).before args s = true
def lw_Q (_ : Array Value) (s : State) (o : Outcome) (t : State) : Prop := o = .returned (some (.int 1)) ∧ Framed s o t [] 600000 7302250
def lw_Z (below : List Frame) (a : Array Value) (s : State) : State → Prop := fun t => ∃ o, t.status = .running ∧ Ended t below o ∧ lw_Q a s o t
/-- the law's own end, with 1 on the stack, nothing written that was there before, its room as the claim has it -/
theorem lw_ret {p : Program} {l : Launch} {e : Env} {s : State} {m : MethodId} {below : List Frame} {meth : Method} {c : Code} {b : Nat} (hx : p.tables.exec = Jvm.exec) (hb : c.code = code) (hr : meth.sig.returnType = ret) (hlocks : meth.locks = false) {pc : Nat} {H : Heap} {ls : Array Slot} (hdg : decode code pc = .ok (.ireturn, 1)) : W p l e room_1 s m #[Value.ref b] below meth c H [] 600000 7302250 (lw_Z below #[Value.ref b] s) (F0 m pc ls [.int 1]) := by
  intro T hT X
  obtain ⟨fs, hret, hrun, hended, hW, hframe⟩ := X.leave (v := some (.int 1)) (hlocks := hlocks) (fun h => by rw [hr] at h; cases h)
  have hmeth' : T.vm.method? m = some meth := X.method'
  refine ⟨T.setFrames fs, ?_, .returned (some (.int 1)), hrun, hended, rfl, ⟨_, rfl⟩, hW, hframe⟩
  jvm_step X.here [X.here.top, hx, hb, hdg, hmeth', hr, ret, narrow_b1]
  (try refine ⟨rfl, ?_⟩); (try refine ⟨rfl, ?_⟩)
  first | (intro acts; rw [hret _ acts rfl rfl rfl]) | rw [hret _ _ rfl rfl rfl]
  exact Steps.refl _
/-- what holds at the law's entry: the machine, the code, the tables' words (any of lw_tbl by 'hts w (by decide +kernel)'), the script of L ints xs at the cell b, what the Statement gives of the start (any of its parts by flat_of_before) -/
def lw_At (p : Program) (s : State) (m : MethodId) (meth : Method) (c : Code) (b L : Nat) (xs : Nat → Int32) : Prop :=
  p.tables.exec = Jvm.exec ∧ c.code = code ∧ meth.sig.returnType = ret ∧ c.maxLocals = 4 ∧ s.vm.findClass R_law = some m.cls ∧ (∀ w ∈ lw_tbl, w.before #[Value.ref b] s = true) ∧ va_X b L xs s s.heap ∧ b < s.heap.size ∧ meth.locks = false ∧ (Jvm.Cond.and given_1 narrow_1).before #[Value.ref b] s = true
theorem good_in_tbl {w : Cond} (h : w ∈ lw_good) : w ∈ lw_tbl := (List.mem_filter.mp h).1
theorem vwCl_in : ∀ q ∈ vwCl, (∀ w ∈ u_ws q.1 q.2.1 q.2.2, w ∈ lw_tbl) ∧ Cond.instantiable q.1 q.2.2 ∈ lw_tbl := by
  intro q hq
  simp only [vwCl, List.mem_cons, List.not_mem_nil, or_false] at hq
  rcases hq with rfl | rfl | rfl | rfl | rfl | rfl | rfl | rfl | rfl | rfl | rfl | rfl | rfl <;> exact ⟨by decide +kernel, by decide +kernel⟩
theorem st_K {s : State} {args : Array Value} (hts : ∀ w ∈ lw_tbl, w.before args s = true) : ∃ (dC : Nat → ClassId) (dI : Nat → Nat → Nat), va_K (dC, dI) vwCl [] s := by
  have h0 : ∀ k : Nat, ∃ d : ClassId × (Nat → Nat), ∀ q : vw_C, vwCl[k]? = some q → u_Kn s q.1 q.2.1 q.2.2 d.1 d.2 := by
    intro k
    cases hk : vwCl[k]? with
    | none => exact ⟨(0, fun _ => 0), fun q h => by cases h⟩
    | some q =>
      have hm := vwCl_in q (List.mem_of_getElem? hk)
      obtain ⟨c, iS, h⟩ := u_known (C := q.1) (T := q.2.1) (N := q.2.2) (n := q.2.2) hts hm.1 (hts _ hm.2)
      exact ⟨(c, iS), fun q' h' => by cases h'; exact h⟩
  obtain ⟨d, hd⟩ := Classical.axiomOfChoice h0
  exact ⟨fun k => (d k).1, fun k => (d k).2, fun k q hq => hd k q hq, fun k q h => by simp at h⟩
theorem nestC_tab : ∀ w ∈ nestC, w.onTables = true := by decide +kernel
theorem nestW_in : ∀ w ∈ nestW, w ∈ lw_tbl := by decide +kernel
theorem st_nest {s : State} {args : Array Value} (hts : ∀ w ∈ lw_tbl, w.before args s = true) : ∀ w ∈ nestW, va_Nw w s := fun w hw => va_Nw.of (nestW_tab hw) (hts w (nestW_in w hw))
theorem st_NQ {s : State} {args : Array Value} (hts : ∀ w ∈ lw_tbl, w.before args s = true) : NQ s := by
  have h1 := hts (.arrayOver (.object RX7)) (by decide +kernel)
  have h2 := hts (.arrayOver (.object RX2)) (by decide +kernel)
  refine ⟨fun w hw => va_Nw.of (nestC_tab w hw) (hts w (nestC_in w hw)), ⟨va_AO.of h1, va_AO.of h2⟩, fun C hC => ?_⟩
  have h3 : Cond.castable C RX7 ∈ lw_tbl := (show ∀ C ∈ [RX1, RX0, RX5, RX4, RX3], Cond.castable C RX7 ∈ lw_tbl by decide +kernel) C hC
  exact va_Nw.of rfl (hts _ h3)
def numZ (i : Int) : Int := if i < 3 then 3 else 2
abbrev tNum : Term := .static RX8 "NUMBERS" "[I"
theorem num_in : ∀ j, j < 5 → Cond.eq (.elem tNum (.int (Int32.ofNat j))) (.int (Int32.ofInt (numZ j))) ∈ flatC (Jvm.Cond.and given_1 narrow_1) := by decide +kernel
theorem st_num {s : State} {args : Array Value} {A : Nat → Prop} (hts : ∀ w ∈ lw_tbl, w.before args s = true) (hs : ∀ c ∈ flatC (Jvm.Cond.and given_1 narrow_1), c.before args s = true) (hA : ∀ a : Nat, a < s.heap.size → ¬ A a) : ∃ nb : Nat, va_Z RX8 "NUMBERS" "[I" (.ref nb) A s s.heap ∧ va_T .int nb 5 (fun i => .int (Int32.ofInt (numZ i))) A s s.heap := by
  have h1 := hs (.arrayOf tNum .int) (by decide +kernel)
  have h2 := hs (.eq (.length tNum) (.int 5)) (by decide +kernel)
  obtain ⟨t, ht, hT⟩ := va_Tof (N := 5) (f := fun i => .int (Int32.ofInt (numZ i))) (A := A) (by decide) h1 (va_eqt h2) (fun j hj => va_eqt (hs _ (num_in j hj))) hA
  have h3 := hts (.laysStatic RX8 "NUMBERS" "[I") (by decide +kernel)
  have h4 := hts (.initialized RX8) (by decide +kernel)
  exact ⟨t, va_Zof h3 h4 ht hA, hT⟩
abbrev tmS (i : Nat) : Term := .string RX10 ([53, 61, 63, 65, 67].getD i 0)
abbrev tmV (i : Nat) : Term := .field (tmS i) "java/lang/String" "value" "[B"
theorem str_in1 : ∀ i, i < 5 → Cond.exactly (tmS i) "java/lang/String" ∈ flatC (Jvm.Cond.and given_1 narrow_1) := by decide +kernel
theorem str_in2 : ∀ i, i < 5 → Cond.eq (.field (tmS i) "java/lang/String" "coder" "B") (.int 0) ∈ flatC (Jvm.Cond.and given_1 narrow_1) := by decide +kernel
theorem str_in3 : ∀ i, i < 5 → Cond.arrayOf (tmV i) .byte ∈ flatC (Jvm.Cond.and given_1 narrow_1) := by decide +kernel
theorem str_in4 : ∀ i, i < 5 → Cond.eq (.length (tmV i)) (.int (Int32.ofNat (lenS.getD i 0))) ∈ flatC (Jvm.Cond.and given_1 narrow_1) := by decide +kernel
theorem str_in5 : ∀ i, i < 5 → ∀ j, j < lenS.getD i 0 → Cond.eq (.elem (tmV i) (.int (Int32.ofNat j))) (.int ((bytS.getD i []).getD j 0)) ∈ flatC (Jvm.Cond.and given_1 narrow_1) := by decide +kernel
theorem str_in6 : ∀ i, i < 5 → ∀ j, j < 5 → i ≠ j → (Cond.not (Cond.eq (tmS i) (tmS j)) ∈ flatC (Jvm.Cond.and given_1 narrow_1) ∨ Cond.not (Cond.eq (tmS j) (tmS i)) ∈ flatC (Jvm.Cond.and given_1 narrow_1)) := by decide +kernel
theorem st_str {s : State} {args : Array Value} {A : Nat → Prop} (hts : ∀ w ∈ lw_tbl, w.before args s = true) (hs : ∀ c ∈ flatC (Jvm.Cond.and given_1 narrow_1), c.before args s = true) (hA : ∀ a : Nat, a < s.heap.size → ¬ A a) : ∃ adK adV : Nat → Nat, vk_S 5 lenS bytS adK adV A s s.heap ∧ (∀ q ∈ gTb, vk_R (oNm q.1) q.2.1 (sNm q.2.2) (adK (q.2.2 - 200)) s) ∧ va_Z RJ0 "COMPACT_STRINGS" "Z" (.int 1) A s s.heap ∧ va_Zq RJ3 "SIOOBE_FORMATTER" "Ljava/util/function/BiFunction;" A s s.heap := by
  obtain ⟨adK, adV, h1, h2⟩ := vk_Sof (N := 5) (tm := tmS) (len := lenS) (byt := bytS) (A := A) (by decide) (fun i hi => hs _ (str_in1 i hi)) (fun i hi => hs _ (str_in2 i hi)) (fun i hi => hs _ (str_in3 i hi)) (fun i hi => hs _ (str_in4 i hi)) (fun i hi j hj => hs _ (str_in5 i hi j hj)) (fun i j hi hj hij => (str_in6 i hi j hj hij).elim (fun h => Or.inl (hs _ h)) (fun h => Or.inr (hs _ h))) hA
  have w1 := hts (.laysStatic RJ0 "COMPACT_STRINGS" "Z") (by decide +kernel)
  have w2 := hts (.initialized RJ0) (by decide +kernel)
  have w3 := hs (.eq (.static RJ0 "COMPACT_STRINGS" "Z") (.int 1)) (by decide +kernel)
  have w4 := hts (.laysStatic RJ3 "SIOOBE_FORMATTER" "Ljava/util/function/BiFunction;") (by decide +kernel)
  have w5 := hts (.initialized RJ3) (by decide +kernel)
  have w6 := hs (.isRef (.static RJ3 "SIOOBE_FORMATTER" "Ljava/util/function/BiFunction;")) (by decide +kernel)
  have r0 := hts (.stringRef RX10 53 "bridge") (by decide +kernel)
  have r1 := hts (.stringRef RX10 61 "down") (by decide +kernel)
  have r2 := hts (.stringRef RX10 63 "chain") (by decide +kernel)
  have r3 := hts (.stringRef RX10 65 "one") (by decide +kernel)
  have r4 := hts (.stringRef RX10 67 "load") (by decide +kernel)
  refine ⟨adK, adV, h1, ?_, va_Zof w1 w2 (va_eqt w3) hA, va_Zqof w4 w5 w6 hA⟩
  intro q hq
  simp only [gTb, List.mem_cons, List.not_mem_nil, or_false] at hq
  rcases hq with rfl | rfl | rfl | rfl | rfl
  · exact vk_R.of r0 (h2 0 (by decide))
  · exact vk_R.of r1 (h2 1 (by decide))
  · exact vk_R.of r2 (h2 2 (by decide))
  · exact vk_R.of r3 (h2 3 (by decide))
  · exact vk_R.of r4 (h2 4 (by decide))
