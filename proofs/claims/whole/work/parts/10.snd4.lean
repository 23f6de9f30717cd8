/-! THE SHADOW IS SOUND: frames, calls, and the whole -/
theorem mkA_args (ad : Nat → Nat) : ∀ (a : List SV) (k j : Nat) (v : SV), (mkA a)[j]? = some v → isU v = false → (k + j, rv ad v) ∈ lv_args k (a.map (rv ad)) := by
  intro a
  induction a with
  | nil => intro k j v h; simp [mkA] at h
  | cons x a ih =>
    intro k j v h hu
    rw [mkA_cons] at h
    simp only [List.map_cons, lv_args]
    rcases x with x | x | x
    · have e1 : (rv ad (.inl x)).category ≠ 2 := by simp [rv, Value.category]
      rw [if_neg e1]
      cases j with
      | zero =>
        simp [mkA1] at h
        subst h
        exact List.mem_cons_self
      | succ j =>
        have h2 : (mkA a)[j]? = some v := by simpa [mkA1] using h
        have := ih (k + 1) j v h2 hu
        rw [show k + 1 + j = k + (j + 1) by omega] at this
        exact List.mem_cons_of_mem _ this
    · have e1 : (rv ad (.inr (.inl x))).category = 2 := rfl
      rw [if_pos e1]
      match j, h with
      | 0, h =>
        simp [mkA1] at h
        subst h
        exact List.mem_cons_self
      | 1, h =>
        simp [mkA1] at h
        subst h
        simp [isU] at hu
      | j + 2, h =>
        have h2 : (mkA a)[j]? = some v := by simpa [mkA1] using h
        have := ih (k + 2) j v h2 hu
        rw [show k + 2 + j = k + (j + 2) by omega] at this
        exact List.mem_cons_of_mem _ this
    · have e1 : (rv ad (.inr (.inr x))).category ≠ 2 := by rcases x with x | x <;> simp [rv, Value.category]
      rw [if_neg e1]
      cases j with
      | zero =>
        simp [mkA1] at h
        subst h
        exact List.mem_cons_self
      | succ j =>
        have h2 : (mkA a)[j]? = some v := by simpa [mkA1] using h
        have := ih (k + 1) j v h2 hu
        rw [show k + 1 + j = k + (j + 1) by omega] at this
        exact List.mem_cons_of_mem _ this
theorem mkA_sl (ad : Nat → Nat) (a : List SV) : (lg_sl (a.map (rv ad))).length = (mkA a).length := by
  induction a with
  | nil => rfl
  | cons x a ih =>
    have e1 : lg_sl ((x :: a).map (rv ad)) = (if (rv ad x).category = 2 then [.val (rv ad x), .second] else [.val (rv ad x)]) ++ lg_sl (a.map (rv ad)) := by simp [lg_sl]
    rw [mkA_cons, e1, List.length_append, List.length_append, ih]
    congr 1
    rcases x with x | x | x | x <;> simp [rv, Value.category, mkA1]
theorem mkL_lvl (ad : Nat → Nat) (n : Nat) (a : List SV) : ∀ q ∈ lvl ad (mkL n a), q ∈ lv_args 0 (a.map (rv ad)) := by
  rintro ⟨j, w⟩ hq
  obtain ⟨v, h1, h2, rfl⟩ := lvl_mem.mp hq
  unfold mkL at h1
  by_cases hj : j < (mkA a).length
  · rw [List.getElem?_append_left hj] at h1
    have := mkA_args ad a 0 j v h1 h2
    rwa [Nat.zero_add] at this
  · rw [List.getElem?_append_right (by omega)] at h1
    have := List.eq_of_mem_replicate (List.mem_of_getElem? h1)
    subst this
    simp [isU] at h2
theorem mkL_len {n : Nat} {a : List SV} (h : (mkA a).length ≤ n) : (mkL n a).length = n := by
  simp [mkL]
  omega
theorem mkL_ok {n : Nat} {a : List SV} (h : ∀ v ∈ a, okV v) : ∀ v ∈ mkL n a, okV v := by
  intro v hv
  unfold mkL at hv
  rcases List.mem_append.mp hv with hv | hv
  · unfold mkA at hv
    obtain ⟨x, hx, hx2⟩ := List.mem_flatMap.mp hv
    rcases x with x | x | x
    · simp [mkA1] at hx2; subst hx2; exact h _ hx
    · simp [mkA1] at hx2
      rcases hx2 with rfl | rfl
      · exact h _ hx
      · trivial
    · simp [mkA1] at hx2; subst hx2; exact h _ hx
  · have := List.eq_of_mem_replicate hv
    subst this
    trivial
section SZ
variable {ad : Nat → Nat} {cA dC : Nat → ClassId} {dI : Nat → Nat → Nat} {n0 x0 : Int → Int} {Sx : State → Prop}
/-- the facts of strings go over to a state that is alike, whose foreign cells are the same -/
def SxMv (ad : Nat → Nat) (Sx : State → Prop) : Prop := ∀ s U : State, s.vm.Alike U.vm → (∀ q : Nat, q < s.heap.size → ¬ ShA ad q → U.heap[q]? = s.heap[q]?) → Sx s → Sx U
theorem ShK.warm {s U : State} (hW : s.WarmedH U.vm) (h : ShK cA dC dI s) : ShK cA dC dI U :=
  ⟨va_K.moved hW.alike h.1, fun k hk h1 => ⟨arrOfT_moved hW.alike (h.2.1 k hk h1).1, (h.2.1 k hk h1).2.moved hW.alike⟩, fun w hw => nestW_warm hw hW (h.2.2 w hw)⟩
theorem ShK.same {s U : State} (hv : s.vm = U.vm) (h : ShK cA dC dI s) : ShK cA dC dI U := by
  have ha : s.vm.Alike U.vm := hv ▸ Vm.Alike.refl s.vm
  exact ⟨va_K.moved ha h.1, fun k hk h1 => ⟨arrOfT_moved ha (h.2.1 k hk h1).1, (h.2.1 k hk h1).2.moved ha⟩, fun w hw => va_Nw.same (nestW_tab hw) hv (h.2.2 w hw)⟩
theorem ShF.warm (hSx : SxMv ad Sx) {s U : State} (hW : s.WarmedH U.vm) (hz : s.heap.size ≤ U.heap.size) (hq : ∀ q : Nat, q < s.heap.size → ¬ ShA ad q → U.heap[q]? = s.heap[q]?) (h : ShF ad n0 x0 Sx s) : ShF ad n0 x0 Sx U := by
  obtain ⟨h1, h2, h3, h4, h5, h6, h7⟩ := h
  exact ⟨(h1.kept hq).moved hW.alike, (h2.kept hq).moved hW.alike, va_X.moved hW.alike (h3.kept (hq _ h4 h5)), Nat.lt_of_lt_of_le h4 hz, h5, fun q hq => vk_R.warm hW (h6 q hq), hSx s U hW.alike hq h7⟩
theorem ShF.same (hSx : SxMv ad Sx) {s U : State} (hv : s.vm = U.vm) (hh : U.heap = s.heap) (h : ShF ad n0 x0 Sx s) : ShF ad n0 x0 Sx U := by
  have ha : s.vm.Alike U.vm := hv ▸ Vm.Alike.refl s.vm
  obtain ⟨h1, h2, h3, h4, h5, h6, h7⟩ := h
  refine ⟨?_, ?_, ?_, by rw [hh]; exact h4, h5, fun q hq => vk_R.same hv.symm (h6 q hq), hSx s U ha (fun q _ _ => by rw [hh]) h7⟩
  · rw [hh]; exact h1.moved ha
  · rw [hh]; exact h2.moved ha
  · rw [hh]; exact va_X.moved ha h3
def ShPc (ad : Nat → Nat) (cA dC : Nat → ClassId) (dI : Nat → Nat → Nat) (n0 x0 : Int → Int) (Sx : State → Prop) (a : List SV) (g : Hp) : Array Value → State → Prop := va_Pc (a.map (rv ad)) (fun U => ShK cA dC dI U ∧ ShF ad n0 x0 Sx U ∧ va_P (dC, dI) vwCl (wl ad cA g) U.heap)
def ShQc (ad : Nat → Nat) (cA dC : Nat → ClassId) (dI : Nat → Nat → Nat) (r : Option SV) (g' : Hp) : Array Value → State → Outcome → State → Prop := fun _ st o t => o = .returned (r.map (rv ad)) ∧ va_P (dC, dI) vwCl (wl ad cA g') t.heap ∧ va_F (ShA ad) st t
theorem ShPc.blind (hSx : SxMv ad Sx) {a : List SV} {g : Hp} : FrameBlind (ShPc ad cA dC dI n0 x0 Sx a g) := fun _ U _ _ h => ⟨h.1, ShK.same (s := U) rfl h.2.1, ShF.same hSx (s := U) rfl rfl h.2.2.1, h.2.2.2⟩
abbrev shRm (d : Nat) : Room := { frames := d, cells := 0, slots := 0, locals := 40 * d }
def shWs (q : MI) : List Cond := .code q.2.2.2.2.1 q.2.2.2.1 q.2.1 q.2.2.2.2.2 :: lw_good
def RetAt (q : MI) (pc : Nat) (r : Option SV) : Prop := ∃ ins len, decode q.2.2.2.1 pc = .ok (ins, len) ∧ lnOk ins len = true ∧ rx q.2.2.2.2.2 r.toList ins = some r
/-- what is claimed of n steps -/
def SndAt (ad : Nat → Nat) (cA dC : Nat → ClassId) (dI : Nat → Nat → Nat) (n0 x0 : Int → Int) (Sx : State → Prop) (n : Nat) : Prop := ∀ (d : Nat) (q : MI) (pc : Nat) (ls st : List SV) (g : Hp) (r : Option SV) (g' : Hp), shRun n d q pc ls st g = some (r, g') →
  ∀ (p : Program) (l : Launch) (e : Env) (R : Room) (s : State) (m : MethodId) (args : Array Value) (below : List Frame) (meth : Method) (c : Code) (H : Heap) (locs : List Loc) (cells slots : Nat) (Q : State → Prop) (ra : Array Slot),
  FrC p R s m args c q d cells slots → ShK cA dC dI s → ShF ad n0 x0 Sx s → va_P (dC, dI) vwCl (wl ad cA g) H → okH g → g 210 = n0 → g 220 = x0 → va_S (ShA ad) s.heap H locs → lv_has ra q.2.1 (lvl ad ls) → ls.length = q.2.1 → (∀ v ∈ ls, okV v) → (∀ v ∈ st, okV v) →
  (∀ (pc' : Nat) (H' : Heap) (locs' : List Loc) (ra' : Array Slot), RetAt q pc' r → va_P (dC, dI) vwCl (wl ad cA g') H' → okH g' → g' 210 = n0 → g' 220 = x0 → va_S (ShA ad) s.heap H' locs' → (∀ v ∈ r, okV v) → W p l e R s m args below meth c H' locs' cells slots Q (F0 m pc' ra' (r.toList.map (rv ad)))) →
  W p l e R s m args below meth c H locs cells slots Q (F0 m pc ra (st.map (rv ad)))
theorem shWs_good {q : MI} (h : Cond.code q.2.2.2.2.1 q.2.2.2.1 q.2.1 q.2.2.2.2.2 ∈ lw_good) : GoodIn lw_good (shWs q) := by
  intro w hw
  have h1 : w ∈ lw_good := by
    rcases List.mem_cons.mp hw with rfl | hw
    · exact h
    · exact hw
  exact ⟨h1, good_of_word (List.mem_filter.mp h1).2⟩
set_option maxHeartbeats 4000000 in
theorem met_of {n : Nat} (ih : SndAt ad cA dC dI n0 x0 Sx n) {d : Nat} {q : MI} {a : List SV} {g : Hp} {r : Option SV} {g' : Hp} (hrun : shRun n d q 0 (mkL q.2.1 a) [] g = some (r, g')) (hpl : plainFor q.2.2.2.2.1 = true) (hon : oNm q.1 = q.2.2.2.2.1.cls) (hd8 : 8 ≤ d) (hml0 : (mkA a).length ≤ q.2.1) (hg : okH g) (h210 : g 210 = n0) (h220 : g 220 = x0) (ha : ∀ v ∈ a, okV v) (l : Launch) :
    Met l q.2.2.2.2.1 (shWs q) (shRm d) (ShPc ad cA dC dI n0 x0 Sx a g) (ShQc ad cA dC dI r g') 0 0 (ShA ad) := by
  refine va_MetF (cc := q.2.2.2.1) (maxL := q.2.1) (ret := q.2.2.2.2.2) hpl rfl ?_
  intro p e s m args below meth c s₁ B hml hv
  obtain ⟨rfl, hK, hF, hP⟩ := hv
  have hx := B.exec
  have hb := B.bytes
  have hr := B.returns
  have hts := atoms_spec (ws := shWs q) B.pre
  have hown : s.vm.findClass q.2.2.2.2.1.cls = some m.cls := findClass_of_methodNamed B.named
  have hlocks := B.notSynchronized
  have hl := lv_entry (a.map (rv ad)) (n := q.2.1) (by rw [mkA_sl]; exact hml0)
  rw [lg_entry_eq]
  refine ih d q 0 (mkL q.2.1 a) [] g r g' hrun p l e _ s m _ below meth c s.heap [] 0 0 _ _ ⟨hx, hb, hml, by rw [hon]; exact hown, fun w hw => hts w (List.mem_cons_of_mem _ hw), ⟨hd8, Nat.le_refl _⟩, Nat.le_refl _, Nat.le_refl _, Nat.le_refl _⟩ hK hF hP hg h210 h220 va_S.rf (lv_less hl (mkL_lvl ad q.2.1 a)) (mkL_len hml0) (mkL_ok ha) (fun v hv => absurd hv List.not_mem_nil) ?_
  intro pc' H' locs' ra' hret hP' hg' _ _ hS' hrok
  obtain ⟨ins, len, hd, hln, hrx⟩ := hret
  cases ins with
  | return_ =>
    have e1 : len = 1 := eq_of_beq (show (len == 1) = true from hln)
    subst e1
    simp only [rx] at hrx
    split at hrx
    · rename_i hc
      cases hrx
      exact W.vret hx hb (by rw [hr]; exact hc.1) (fun t ht hW => ⟨rfl, by rw [ht]; exact hP', hS'.F ht⟩) hS'.2.2 hd
    · cases hrx
  | ireturn =>
    have e1 : len = 1 := eq_of_beq (show (len == 1) = true from hln)
    subst e1
    simp only [rx] at hrx
    split at hrx
    · rename_i x hst
      split at hrx
      · rename_i hc
        cases hrx
        rcases hc with hc | ⟨hc, hc2⟩
        · exact W.zret (ty := .int) hx hb (by rw [hr]; exact hc) rfl (fun t ht hW => ⟨rfl, by rw [ht]; exact hP', hS'.F ht⟩) hS'.2.2 hd
        · exact W.zret (ty := .boolean) hx hb (by rw [hr]; exact hc) (by rcases hc2 with rfl | rfl <;> decide) (fun t ht hW => ⟨rfl, by rw [ht]; exact hP', hS'.F ht⟩) hS'.2.2 hd
      · cases hrx
    · cases hrx
  | lreturn =>
    have e1 : len = 1 := eq_of_beq (show (len == 1) = true from hln)
    subst e1
    simp only [rx] at hrx
    split at hrx
    · rename_i x hst
      split at hrx
      · rename_i hc
        cases hrx
        exact W.lret hx hb (by rw [hr]; exact hc) (fun t ht hW => ⟨rfl, by rw [ht]; exact hP', hS'.F ht⟩) hS'.2.2 hd
      · cases hrx
    · cases hrx
  | _ => simp [rx] at hrx
theorem call_go {p : Program} {l : Launch} {e : Env} {R : Room} {s : State} {m : MethodId} {args : Array Value} {below : List Frame} {meth : Method} {c : Code} {H : Heap} {locs : List Loc} {cells slots : Nat} {Q : State → Prop} {pc : Nat} {ra : Array Slot} {st0 rest : List Value} {aa : Array Value} {r : Option SV} {g' : Hp}
    (hr : va_Run p l e R s m args below meth c H locs cells slots 0 0 (F0 m pc ra st0) rest (ShQc ad cA dC dI r g' aa) (ShA ad)) (hS : va_S (ShA ad) s.heap H locs)
    (kk : ∀ (H1 : Heap) (locs1 : List Loc), va_P (dC, dI) vwCl (wl ad cA g') H1 → va_S (ShA ad) s.heap H1 locs1 → W p l e R s m args below meth c H1 locs1 cells slots Q (F0 m (pc + 3) ra ((r.map (rv ad)).toList ++ rest))) : W p l e R s m args below meth c H locs cells slots Q (F0 m pc ra st0) := by
  intro T hT X
  obtain ⟨v, st₀, t, T', L, h0, X', hL, e1, e2, ⟨hv, hP1, hz, hk⟩, st⟩ := hr T hT X
  cases hv
  rw [h0] at hz hk
  obtain ⟨t2, a1, b1⟩ := kk T'.heap (locs ++ L) (by rw [e1]; exact hP1) ⟨Nat.le_trans hS.1 (by rw [e1]; exact hz), fun q h1 h2 => by rw [e1, hk q (Nat.lt_of_lt_of_le h1 hS.1) h2]; exact hS.2.1 q h1 h2, fun q hq => by
      rcases List.mem_append.mp hq with h | h
      · exact hS.2.2 q h
      · exact hL q h⟩ T' rfl X'
  exact ⟨t2, st t2 a1, b1⟩
end SZ
