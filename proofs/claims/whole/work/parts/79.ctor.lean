/-! constructors -/
def ctWs (y : MethodName) (c : ByteArray) : List Cond := .code y c 1 none :: lw_good
theorem inG {w : Cond} (h : w ∈ lw_tbl) (hg : goodWord w = true) : w ∈ lw_good := List.mem_filter.mpr ⟨h, hg⟩
theorem ctWs_good {y : MethodName} {c : ByteArray} (h : Cond.code y c 1 none ∈ lw_good) : GoodIn lw_good (ctWs y c) := by
  intro w hw
  have h1 : w ∈ lw_good := by
    rcases List.mem_cons.mp hw with rfl | hw
    · exact h
    · exact hw
  exact ⟨h1, good_of_word (List.mem_filter.mp h1).2⟩
theorem ctWs_in {y y' : MethodName} {c c' : ByteArray} (h : Cond.code y c 1 none ∈ lw_good) : GoodIn (ctWs y' c') (ctWs y c) := by
  intro w hw
  have := ctWs_good h w hw
  exact ⟨List.mem_cons_of_mem _ this.1, this.2⟩
theorem oi_1 : Cond.instanceMethod objectInit ∈ lw_good := inG (by decide +kernel) (by decide +kernel)
/-- the words of the nest's constructors -/
def nestC : List Cond := [.methodLinkNest RX1 1 yX7_init RX11, .methodLinkNest RX0 1 yX7_init RX11, .methodLinkNest RX5 1 yX7_init RX11, .methodLinkNest RX4 1 yX1_init RX11, .methodLinkNest RX3 1 yX0_init RX11, .methodLinkNest RX2 11 yX7_init RX11, .methodLinkNest RX2 14 yX1_init RX11, .methodLinkNest RX2 17 yX0_init RX11, .methodLinkNest RX2 20 yX5_init RX11, .methodLinkNest RX2 23 yX4_init RX11, .methodLinkNest RX2 26 yX3_init RX11, .methodLinkNest RX2 63 yX6_init RX11, .methodLinkNest RX11 11 yX2_init RX11, .methodLinkNest RX11 29 yX10_init RX11, .methodLinkNest RX11 36 yX8_init RX11, .methodLinkNest RX11 43 yX9_init RX11]
theorem nestC_in : ∀ w ∈ nestC, w ∈ lw_tbl := by decide +kernel
def cnF (w : Cond) : Bool := match w with
  | .methodLinkNest _ _ _ _ => true
  | _ => false
theorem nestC_frm : nestC.all cnF = true := by decide +kernel
def NC (U : State) : Prop := ∀ w ∈ nestC, va_Nw w U
theorem NC.warm {s U : State} (hW : s.WarmedH U.vm) (h : NC s) : NC U := fun w hw => by
  have hf := List.all_eq_true.mp nestC_frm w hw
  have h2 := h w hw
  cases w <;> first | exact va_Nw.warmM hW h2 | exact absurd hf (by simp [cnF])
theorem NC.same {s U : State} (hv : s.vm = U.vm) (h : NC s) : NC U := fun w hw => by
  have hf := List.all_eq_true.mp nestC_frm w hw
  have h2 := h w hw
  cases w <;> first | exact va_Nw.same rfl hv h2 | exact absurd hf (by simp [cnF])
/-- a world after a constructor -/
def CtB (dC : Nat → ClassId) (dI : Nat → Nat → Nat) (A : Nat → Prop) (ws : va_W) (tys : List (ClassId × FieldType)) (t : State) : Prop := va_P (dC, dI) vwCl ws t.heap ∧ va_K (dC, dI) vwCl tys t ∧ va_D A ws
abbrev ctRm (f c n : Nat) : Room := { frames := f, cells := c, slots := n, locals := 20 * f }
set_option maxHeartbeats 4000000 in
set_option maxRecDepth 100000 in
theorem c_X7_init (l : Launch) (dC : Nat → ClassId) (dI : Nat → Nat → Nat) (ci h0 sz : Nat) : Met l yX7_init (ctWs yX7_init cX7_init) (ctRm 1 0 0) (va_Pc [.ref h0] (fun U => U.heap.size = sz ∧ va_P (dC, dI) vwCl [(h0, .inr (ci, []))] U.heap ∧ va_K (dC, dI) vwCl [] U ∧ va_D (fun _ => True) [(h0, .inr (ci, []))])) (va_Qv (fun _ : Unit => True) (fun _ => CtB dC dI (va_A [(h0, .inr (ci, []))] sz) [(h0, .inr (ci, []))] []) (va_A [(h0, .inr (ci, []))] sz)) 0 0 (va_A [(h0, .inr (ci, []))] sz) := by
  refine Met.ofW (cc := cX7_init) (maxL := 1) (ret := none) (by decide) rfl ?_
  intro p e s m args below meth c s₁ B hml hv
  obtain ⟨rfl, hsz, hP, hK, hD0⟩ := hv
  have hx := B.exec
  have hb := B.bytes
  have hr := B.returns
  have hts := atoms_spec (ws := ctWs yX7_init cX7_init) B.pre
  have hown : s.vm.findClass RX7 = some m.cls := findClass_of_methodNamed B.named
  subst hsz
  have hD := hD0.self (sz := s.heap.size)
  generalize hAe : va_A [(h0, .inr (ci, []))] s.heap.size = A at hD ⊢
  have hS : va_S A s.heap s.heap [] := va_S.rf
  have hl := lv_entry ([.ref h0]) (n := 1) (Nat.le_of_ble_eq_true rfl)
  rw [lg_entry_eq]
  generalize (lg_sl ([.ref h0]) ++ List.replicate (1 - (lg_sl ([.ref h0])).length) Slot.unset).toArray = ls at hl ⊢
  have hl : lv_has ls 1 [(0, .ref h0)] := hl
  refine lv_aload_n hx hb dX7_init_0 rfl (lv_at hl 0 rfl) ?_
  have hw1 := hts _ (List.mem_cons_of_mem _ (inG (w := .methodLink RX7 1 objectInit) (by decide +kernel) (by decide +kernel)))
  have hw2 := hts _ (List.mem_cons_of_mem _ oi_1)
  have hw3 := hts _ (List.mem_cons_of_mem _ (inG (w := .code objectInit ⟨#[0xb1]⟩ 1 none) (by decide +kernel) (by decide +kernel)))
  refine W.objInit hx hb hown hw1 hw2 hw3 rfl (by rw [hml]; exact hl.1) rfl dX7_init_1 (Nat.le_of_ble_eq_true rfl) (Nat.le_of_ble_eq_true rfl) ?_
  refine W.eq (g2 := F0 m 4 ls []) rfl ?_
  exact W.vret hx hb hr (fun t ht hW => ⟨⟨(), rfl, trivial, by rw [ht]; exact hP, va_K.moved hW.alike hK, hD⟩, hS.F ht⟩) hS.2.2 dX7_init_4
