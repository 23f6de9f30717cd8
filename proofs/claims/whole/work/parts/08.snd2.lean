/-! THE SHADOW IS SOUND: one instruction, over the machine -/
def FrC (p : Program) (R : Room) (s : State) (m : MethodId) (args : Array Value) (c : Code) (q : MI) (d cells slots : Nat) : Prop :=
  p.tables.exec = Jvm.exec ∧ c.code = q.2.2.2.1 ∧ c.maxLocals = q.2.1 ∧ s.vm.findClass (oNm q.1) = some m.cls ∧ (∀ w ∈ lw_good, w.before args s = true) ∧ (8 ≤ d ∧ d ≤ R.frames) ∧ 40 * d ≤ R.locals ∧ cells ≤ R.cells ∧ slots ≤ R.slots
def ShK (cA : Nat → ClassId) (dC : Nat → ClassId) (dI : Nat → Nat → Nat) (U : State) : Prop :=
  va_K (dC, dI) vwCl [] U ∧ (∀ k, k < cNum → 100 ≤ cK k → ArrOfT U (cA k) (aTy (cK k)) ∧ va_RA U (cA k) (aTy (cK k))) ∧ ∀ w ∈ nestW, va_Nw w U
def ShF (ad : Nat → Nat) (n0 x0 : Int → Int) (Sx : State → Prop) (U : State) : Prop :=
  va_Z RX8 "NUMBERS" "[I" (.ref (ad 210)) (ShA ad) U U.heap ∧ va_T .int (ad 210) 5 (fun i => .int (Int32.ofInt (n0 i))) (ShA ad) U U.heap ∧ va_X (ad 220) (x0 100000).toNat (fun i => Int32.ofInt (x0 i)) U U.heap ∧ ad 220 < U.heap.size ∧ ¬ ShA ad (ad 220) ∧ (∀ q ∈ gTb, vk_R (oNm q.1) q.2.1 (sNm q.2.2) (ad q.2.2) U) ∧ Sx U
/-- the rows of String.length and String.charAt, of the constants -/
def StrLen (ad : Nat → Nat) (Sx : State → Prop) : Prop := ∀ (p : Program) (l : Launch) (e : Env) (R : Room) (s : State) (m : MethodId) (args : Array Value) (below : List Frame) (meth : Method) (c : Code) (H : Heap) (locs : List Loc) (cells slots : Nat) (Q : State → Prop) (cc : ByteArray) (nL pc : Nat) (ra : Array Slot) (rest : List Value) (ow k n a : Nat),
  p.tables.exec = Jvm.exec → c.code = cc → c.maxLocals = nL → s.vm.findClass (oNm ow) = some m.cls → (∀ w ∈ lw_good, w.before args s = true) → 8 ≤ R.frames → 320 ≤ R.locals → cells ≤ R.cells → slots ≤ R.slots → Sx s → va_S (ShA ad) s.heap H locs → ra.size = nL → cTab ow k = some (7, n) → 200 ≤ a → a < 205 → (rest.map fun v => v.category).sum ≤ 8 → decode cc pc = .ok (.invokevirtual k, 3) →
  W p l e R s m args below meth c H locs cells slots Q (F0 m (pc + 3) ra (.int (Int32.ofInt ((sTxt a).length : Nat)) :: rest)) → W p l e R s m args below meth c H locs cells slots Q (F0 m pc ra (.ref (ad a) :: rest))
def StrAt (ad : Nat → Nat) (Sx : State → Prop) : Prop := ∀ (p : Program) (l : Launch) (e : Env) (R : Room) (s : State) (m : MethodId) (args : Array Value) (below : List Frame) (meth : Method) (c : Code) (H : Heap) (locs : List Loc) (cells slots : Nat) (Q : State → Prop) (cc : ByteArray) (nL pc : Nat) (ra : Array Slot) (rest : List Value) (ow k n a : Nat) (i : Int),
  p.tables.exec = Jvm.exec → c.code = cc → c.maxLocals = nL → s.vm.findClass (oNm ow) = some m.cls → (∀ w ∈ lw_good, w.before args s = true) → 8 ≤ R.frames → 320 ≤ R.locals → cells ≤ R.cells → slots ≤ R.slots → Sx s → va_S (ShA ad) s.heap H locs → ra.size = nL → cTab ow k = some (8, n) → 200 ≤ a → a < 205 → 0 ≤ i → i < (sTxt a).length → (rest.map fun v => v.category).sum ≤ 8 → decode cc pc = .ok (.invokevirtual k, 3) →
  W p l e R s m args below meth c H locs cells slots Q (F0 m (pc + 3) ra (.int (Int32.ofInt ((sTxt a).getD i.toNat 0)) :: rest)) → W p l e R s m args below meth c H locs cells slots Q (F0 m pc ra (.int (Int32.ofInt i) :: .ref (ad a) :: rest))
theorem shK_arr {cA dC : Nat → ClassId} {dI : Nat → Nat → Nat} {s : State} (hK : ShK cA dC dI s) {k : Nat} {ty : FieldType} (hk : k < cNum) (h1 : 100 ≤ cK k) (ht : aTy (cK k) = ty) : va_K (dC, dI) vwCl [(cA k, ty)] s := by
  refine ⟨hK.1.1, fun j q hj => ?_⟩
  cases j with
  | zero =>
    simp only [List.getElem?_cons_zero, Option.some.injEq] at hj
    subst hj
    rw [← ht]
    exact hK.2.1 k hk h1
  | succ j => simp at hj
theorem ent_i {ad : Nat → Nat} {cA : Nat → ClassId} {g : Hp} {k : Nat} (h : cK k = 100 ∨ cK k = 102) : ent ad cA g k = .inl (cA k, cLn k, .inl (fun i => Int32.ofInt (g k i))) := by
  rcases h with h | h <;> simp [ent, arrE, h]
theorem ent_l {ad : Nat → Nat} {cA : Nat → ClassId} {g : Hp} {k : Nat} (h : cK k = 101) : ent ad cA g k = .inl (cA k, cLn k, .inr (.inl (fun i => Int64.ofInt (g k i)))) := by
  simp [ent, arrE, h]
theorem ent_q {ad : Nat → Nat} {cA : Nat → ClassId} {g : Hp} {k : Nat} (h : cK k = 103 ∨ cK k = 104) : ent ad cA g k = .inl (cA k, cLn k, .inr (.inr (.inr (.inr (fun i => some (ad (cRef k i))))))) := by
  rcases h with h | h <;> simp [ent, arrE, h]
theorem ent_o {ad : Nat → Nat} {cA : Nat → ClassId} {g : Hp} {k ci : Nat} (h : cK k = ci) (hc : ci < 13) : ent ad cA g k = .inr (ci, (List.range (fNm ci)).map (fun i => fV ad g ci k i)) := by
  subst h
  simp [ent, show cK k < 100 by omega]
theorem ent_put {ad : Nat → Nat} {cA : Nat → ClassId} {g : Hp} {a ci s : Nat} {x : Int} {v : Value} (h : cK a = ci) (hc : ci < 13) (hv : fV ad (up g a s x) ci a s = v) : ent ad cA (up g a s x) a = .inr (ci, ((List.range (fNm ci)).map (fun i => fV ad g ci a i)).set s v) := by
  rw [ent_o h hc]
  congr 2
  apply List.ext_getElem?
  intro j
  by_cases hj : j = s
  · subst hj
    by_cases hl : j < fNm ci
    · rw [List.getElem?_set_self (by simpa using hl)]
      simp [hl, hv]
    · rw [List.getElem?_eq_none (by simp; omega), List.getElem?_eq_none (by simp; omega)]
  · rw [List.getElem?_set_ne (fun e => hj e.symm)]
    by_cases hl : j < fNm ci
    · have e : ¬ ((j : Nat) : Int) = (s : Int) := by omega
      simp [hl, fV, up, e]
    · rw [List.getElem?_eq_none (by simp; omega), List.getElem?_eq_none (by simp; omega)]
theorem upd_32 {g : Hp} {a : Nat} {i x : Int} (h : ir i) (h0 : 0 ≤ i) : (fun j : Nat => Int32.ofInt (up g a i x a j)) = upd (fun j : Nat => Int32.ofInt (g a j)) (Int32.ofInt i).toNatClampNeg (Int32.ofInt x) := by
  rw [i32_cl h]
  funext j
  by_cases hj : j = i.toNat
  · have e : ((j : Nat) : Int) = i := by omega
    simp only [up, upd]
    rw [if_pos (by simp [e]), if_pos hj]
  · have e : ¬ ((j : Nat) : Int) = i := by omega
    simp [up, upd, hj, e]
theorem upd_64 {g : Hp} {a : Nat} {i x : Int} (h : ir i) (h0 : 0 ≤ i) : (fun j : Nat => Int64.ofInt (up g a i x a j)) = vp_updL (fun j : Nat => Int64.ofInt (g a j)) (Int32.ofInt i).toNatClampNeg (Int64.ofInt x) := by
  rw [i32_cl h]
  funext j
  by_cases hj : j = i.toNat
  · have e : ((j : Nat) : Int) = i := by omega
    simp only [up, vp_updL]
    rw [if_pos (by simp [e]), if_pos hj]
  · have e : ¬ ((j : Nat) : Int) = i := by omega
    simp [up, vp_updL, hj, e]
section SX
variable {p : Program} {l : Launch} {e : Env} {R : Room} {s : State} {m : MethodId} {args : Array Value} {below : List Frame} {meth : Method} {c : Code} {H : Heap} {locs : List Loc} {cells slots : Nat} {Q : State → Prop}
variable {ad : Nat → Nat} {cA dC : Nat → ClassId} {dI : Nat → Nat → Nat} {n0 x0 : Int → Int} {Sx : State → Prop} {q : MI} {d pc : Nat} {ls st ls' st' : List SV} {g g' : Hp} {pc' : Nat} {ra : Array Slot} {ins : ClassFile.Instr} {len : Nat}
/-- how it goes on behind an instruction -/
def Kon (p : Program) (l : Launch) (e : Env) (R : Room) (s : State) (m : MethodId) (args : Array Value) (below : List Frame) (meth : Method) (c : Code) (cells slots : Nat) (Q : State → Prop) (ad : Nat → Nat) (cA dC : Nat → ClassId) (dI : Nat → Nat → Nat) (nL pc' : Nat) (ls' st' : List SV) (g' : Hp) : Prop :=
  ∀ (H' : Heap) (locs' : List Loc) (ra' : Array Slot), va_P (dC, dI) vwCl (wl ad cA g') H' → va_S (ShA ad) s.heap H' locs' → lv_has ra' nL (lvl ad ls') → W p l e R s m args below meth c H' locs' cells slots Q (F0 m pc' ra' (st'.map (rv ad)))
theorem k_ldI (hx : p.tables.exec = Jvm.exec) (hb : c.code = q.2.2.2.1) (hP : va_P (dC, dI) vwCl (wl ad cA g) H) (hS : va_S (ShA ad) s.heap H locs) (hl : lv_has ra q.2.1 (lvl ad ls)) {k : Nat}
    (row : ∀ x, ra[k]? = some (.val (.int x)) → W p l e R s m args below meth c H locs cells slots Q (F0 m (pc + len) ra (.int x :: st.map (rv ad))) → W p l e R s m args below meth c H locs cells slots Q (F0 m pc ra (st.map (rv ad))))
    (h : ldI pc len k ls st g = some (pc', ls', st', g')) (K : Kon p l e R s m args below meth c cells slots Q ad cA dC dI q.2.1 pc' ls' st' g') : W p l e R s m args below meth c H locs cells slots Q (F0 m pc ra (st.map (rv ad))) := by
  unfold ldI at h
  split at h
  · rename_i x hxk
    cases h
    exact row _ (lvl_at hl hxk rfl) (K H locs ra hP hS hl)
  · cases h
theorem k_ldL (hx : p.tables.exec = Jvm.exec) (hb : c.code = q.2.2.2.1) (hP : va_P (dC, dI) vwCl (wl ad cA g) H) (hS : va_S (ShA ad) s.heap H locs) (hl : lv_has ra q.2.1 (lvl ad ls)) {k : Nat}
    (row : ∀ x, ra[k]? = some (.val (.long x)) → W p l e R s m args below meth c H locs cells slots Q (F0 m (pc + len) ra (.long x :: st.map (rv ad))) → W p l e R s m args below meth c H locs cells slots Q (F0 m pc ra (st.map (rv ad))))
    (h : ldL pc len k ls st g = some (pc', ls', st', g')) (K : Kon p l e R s m args below meth c cells slots Q ad cA dC dI q.2.1 pc' ls' st' g') : W p l e R s m args below meth c H locs cells slots Q (F0 m pc ra (st.map (rv ad))) := by
  unfold ldL at h
  split at h
  · rename_i x hxk
    cases h
    exact row _ (lvl_at hl hxk rfl) (K H locs ra hP hS hl)
  · cases h
theorem k_ldR (hx : p.tables.exec = Jvm.exec) (hb : c.code = q.2.2.2.1) (hP : va_P (dC, dI) vwCl (wl ad cA g) H) (hS : va_S (ShA ad) s.heap H locs) (hl : lv_has ra q.2.1 (lvl ad ls)) {k : Nat}
    (row : ∀ x, ra[k]? = some (.val (.ref x)) → W p l e R s m args below meth c H locs cells slots Q (F0 m (pc + len) ra (.ref x :: st.map (rv ad))) → W p l e R s m args below meth c H locs cells slots Q (F0 m pc ra (st.map (rv ad))))
    (h : ldR pc len k ls st g = some (pc', ls', st', g')) (K : Kon p l e R s m args below meth c cells slots Q ad cA dC dI q.2.1 pc' ls' st' g') : W p l e R s m args below meth c H locs cells slots Q (F0 m pc ra (st.map (rv ad))) := by
  unfold ldR at h
  split at h
  · rename_i x hxk
    cases h
    exact row _ (lvl_at hl hxk rfl) (K H locs ra hP hS hl)
  · cases h
theorem k_soI (hP : va_P (dC, dI) vwCl (wl ad cA g) H) (hS : va_S (ShA ad) s.heap H locs) (hl : lv_has ra q.2.1 (lvl ad ls)) (hll : ls.length = q.2.1) {k : Nat}
    (row : ∀ (x : Int32) (rest : List Value), k < q.2.1 → (∀ ra', lv_has ra' q.2.1 ((k, Value.int x) :: (lvl ad ls).filter (fun q => !(q.1 == k) && !(q.1 + 1 == k && q.2.category == 2))) → W p l e R s m args below meth c H locs cells slots Q (F0 m (pc + len) ra' rest)) → W p l e R s m args below meth c H locs cells slots Q (F0 m pc ra (.int x :: rest)))
    (h : soI pc len k ls st g = some (pc', ls', st', g')) (K : Kon p l e R s m args below meth c cells slots Q ad cA dC dI q.2.1 pc' ls' st' g') : W p l e R s m args below meth c H locs cells slots Q (F0 m pc ra (st.map (rv ad))) := by
  unfold soI at h
  split at h
  · split at h
    · rename_i x r hk
      cases h
      exact row _ _ (by omega) (fun ra' hl' => K H locs ra' hP hS (lv_less hl' (st1_sub (v := .inl x) rfl)))
    · cases h
  · cases h
theorem k_soL (hP : va_P (dC, dI) vwCl (wl ad cA g) H) (hS : va_S (ShA ad) s.heap H locs) (hl : lv_has ra q.2.1 (lvl ad ls)) (hll : ls.length = q.2.1) {k : Nat}
    (row : ∀ (x : Int64) (rest : List Value), k + 1 < q.2.1 → (∀ ra', lv_has ra' q.2.1 ((k, Value.long x) :: (lvl ad ls).filter (fun q => !(q.1 == k) && (!(q.1 == k + 1) && !(q.1 + 1 == k && q.2.category == 2)))) → W p l e R s m args below meth c H locs cells slots Q (F0 m (pc + len) ra' rest)) → W p l e R s m args below meth c H locs cells slots Q (F0 m pc ra (.long x :: rest)))
    (h : soL pc len k ls st g = some (pc', ls', st', g')) (K : Kon p l e R s m args below meth c cells slots Q ad cA dC dI q.2.1 pc' ls' st' g') : W p l e R s m args below meth c H locs cells slots Q (F0 m pc ra (st.map (rv ad))) := by
  unfold soL at h
  split at h
  · split at h
    · rename_i x r hk
      cases h
      exact row _ _ (by omega) (fun ra' hl' => K H locs ra' hP hS (lv_less hl' (st2_sub (v := .inr (.inl x)))))
    · cases h
  · cases h
theorem k_bi {f : Int → Int → Int} {F : Int32 → Int32 → Int32} (hf : ∀ a b, F (Int32.ofInt a) (Int32.ofInt b) = Int32.ofInt (f a b)) (hP : va_P (dC, dI) vwCl (wl ad cA g) H) (hS : va_S (ShA ad) s.heap H locs) (hl : lv_has ra q.2.1 (lvl ad ls))
    (row : ∀ (x y : Int32) (rest : List Value), W p l e R s m args below meth c H locs cells slots Q (F0 m (pc + 1) ra (.int (F x y) :: rest)) → W p l e R s m args below meth c H locs cells slots Q (F0 m pc ra (.int y :: .int x :: rest)))
    (h : bi f pc ls st g = some (pc', ls', st', g')) (K : Kon p l e R s m args below meth c cells slots Q ad cA dC dI q.2.1 pc' ls' st' g') : W p l e R s m args below meth c H locs cells slots Q (F0 m pc ra (st.map (rv ad))) := by
  unfold bi at h
  split at h
  · rename_i b a r
    cases h
    refine row (Int32.ofInt a) (Int32.ofInt b) (r.map (rv ad)) ?_
    rw [hf]
    exact K H locs ra hP hS hl
  · cases h
theorem k_bl {f : Int → Int → Int} {F : Int64 → Int64 → Int64} (hf : ∀ a b, F (Int64.ofInt a) (Int64.ofInt b) = Int64.ofInt (f a b)) (hP : va_P (dC, dI) vwCl (wl ad cA g) H) (hS : va_S (ShA ad) s.heap H locs) (hl : lv_has ra q.2.1 (lvl ad ls))
    (row : ∀ (x y : Int64) (rest : List Value), W p l e R s m args below meth c H locs cells slots Q (F0 m (pc + 1) ra (.long (F x y) :: rest)) → W p l e R s m args below meth c H locs cells slots Q (F0 m pc ra (.long y :: .long x :: rest)))
    (h : bl f pc ls st g = some (pc', ls', st', g')) (K : Kon p l e R s m args below meth c cells slots Q ad cA dC dI q.2.1 pc' ls' st' g') : W p l e R s m args below meth c H locs cells slots Q (F0 m pc ra (st.map (rv ad))) := by
  unfold bl at h
  split at h
  · rename_i b a r
    cases h
    refine row (Int64.ofInt a) (Int64.ofInt b) (r.map (rv ad)) ?_
    rw [hf]
    exact K H locs ra hP hS hl
  · cases h
theorem k_bs {f : Int → Int → Int} {F : Int64 → Int32 → Int64} (hf : ∀ a b, F (Int64.ofInt a) (Int32.ofInt b) = Int64.ofInt (f a b)) (hP : va_P (dC, dI) vwCl (wl ad cA g) H) (hS : va_S (ShA ad) s.heap H locs) (hl : lv_has ra q.2.1 (lvl ad ls))
    (row : ∀ (x : Int64) (y : Int32) (rest : List Value), W p l e R s m args below meth c H locs cells slots Q (F0 m (pc + 1) ra (.long (F x y) :: rest)) → W p l e R s m args below meth c H locs cells slots Q (F0 m pc ra (.int y :: .long x :: rest)))
    (h : bs f pc ls st g = some (pc', ls', st', g')) (K : Kon p l e R s m args below meth c cells slots Q ad cA dC dI q.2.1 pc' ls' st' g') : W p l e R s m args below meth c H locs cells slots Q (F0 m pc ra (st.map (rv ad))) := by
  unfold bs at h
  split at h
  · rename_i b a r
    cases h
    refine row (Int64.ofInt a) (Int32.ofInt b) (r.map (rv ad)) ?_
    rw [hf]
    exact K H locs ra hP hS hl
  · cases h
theorem k_jmp {off : Int} (hP : va_P (dC, dI) vwCl (wl ad cA g) H) (hS : va_S (ShA ad) s.heap H locs) (hl : lv_has ra q.2.1 (lvl ad ls)) (h : jmp pc off ls st g = some (pc', ls', st', g')) (K : Kon p l e R s m args below meth c cells slots Q ad cA dC dI q.2.1 pc' ls' st' g') : (pc : Int) + off = (pc' : Int) ∧ W p l e R s m args below meth c H locs cells slots Q (F0 m pc' ra (st.map (rv ad))) := by
  unfold jmp at h
  split at h
  · cases h
    exact ⟨by omega, K H locs ra hP hS hl⟩
  · cases h
end SX
