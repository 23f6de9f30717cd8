/-! class and reference, side by side -/
theorem FI_congr {φ ψ : Int → Int} (h : ∀ k, 0 ≤ k → k < 110 → ψ k = φ k) (hI : FI φ) : FI ψ := by
  obtain ⟨h0, hbb, hl, hc, hch, hch2, hp, hpp, hs, hss⟩ := hI
  unfold FI
  rw [h 0 (by omega) (by omega), h 21 (by omega) (by omega), h 22 (by omega) (by omega), h 23 (by omega) (by omega), h 24 (by omega) (by omega), h 25 (by omega) (by omega), h 26 (by omega) (by omega), h 29 (by omega) (by omega), h 36 (by omega) (by omega)]
  refine ⟨h0, fun k k0 k1 => ?_, hl, hc, fun c c0 c1 => ?_, hch2, hp, fun p p0 p1 => ?_, hs, fun s s0 s1 => ⟨?_, fun p p0 p1 => ?_⟩⟩
  · rw [h (1 + k) (by omega) (by omega), h (6 + k) (by omega) (by omega), h (11 + k) (by omega) (by omega), h (16 + k) (by omega) (by omega)]
    exact hbb k k0 k1
  · rw [h (23 + c) (by omega) (by omega), h (25 + c) (by omega) (by omega), h (27 + c) (by omega) (by omega)]
    exact hch c c0 c1
  · rw [h (30 + p) (by omega) (by omega), h (33 + p) (by omega) (by omega)]
    exact hpp p p0 p1
  · rw [h (37 + 4 * s) (by omega) (by omega)]
    exact (hss s s0 s1).1
  · rw [h (38 + 4 * s + p) (by omega) (by omega)]
    exact (hss s s0 s1).2 p p0 p1
theorem ClsF_congr {g : Hp} {f : Nat} {φ ψ : Int → Int} (h : ∀ k, 0 ≤ k → k < 110 → ψ k = φ k) (hI : FI φ) (hC : ClsF g f φ) : ClsF g f ψ := by
  obtain ⟨h0, hbb, hl, hc, hch, hch2, hp, hpp, hs, hss⟩ := hI
  obtain ⟨c0, c1, c2, c3, c4, c5, c6, c7, c8⟩ := hC
  unfold ClsF
  rw [h 0 (by omega) (by omega), h 21 (by omega) (by omega), h 22 (by omega) (by omega), h 29 (by omega) (by omega), h 36 (by omega) (by omega)]
  refine ⟨c0, fun k k0 k1 => ?_, c2, c3, fun c k0 k1 => ?_, c5, fun p k0 k1 => ?_, c7, fun s k0 k1 => ?_⟩
  · rw [h (1 + k) (by omega) (by omega), h (6 + k) (by omega) (by omega), h (11 + k) (by omega) (by omega), h (16 + k) (by omega) (by omega)]
    exact c1 k k0 k1
  · rw [h (23 + c) (by omega) (by omega), h (25 + c) (by omega) (by omega), h (27 + c) (by omega) (by omega)]
    exact c4 c k0 k1
  · rw [h (30 + p) (by omega) (by omega), h (33 + p) (by omega) (by omega)]
    exact c6 p k0 k1
  · rw [h (37 + 4 * s) (by omega) (by omega), h (38 + 4 * s) (by omega) (by omega), h (39 + 4 * s) (by omega) (by omega), h (40 + 4 * s) (by omega) (by omega)]
    exact c8 s k0 k1
def FCl (g : Hp) (f : Nat) (φ : Int → Int) : Prop := FI φ ∧ ClsF g f φ
def TxR (g : Hp) : Prop := g 79 1 = g 86 3 ∧ (0 ≤ g 86 3 ∧ g 86 3 ≤ 200) ∧ ∀ k, 0 ≤ k → k < g 86 3 → g 80 k = g 89 k ∧ 0 ≤ g 89 k ∧ g 89 k ≤ 255
def StR (g : Hp) (n : Int) : Prop := ∀ k, 0 ≤ k → k < 3 → g 0 (7 + k) = g 90 k ∧ 0 ≤ g 90 k ∧ g 90 k ≤ n
def ImR (g : Hp) : Prop := (∀ i, i = 0 ∨ i = 1 → g 78 i = g 88 i ∧ (g 88 i = 0 ∨ g 88 i = 1)) ∧ (g 88 0 = 1 → FCl g 40 (rg g 110)) ∧ (g 88 1 = 1 → FCl g 59 (rg g 220))
/-- what holds between two calls -/
def Rel (g : Hp) (n : Int) : Prop := FCl g 1 (rg g 0) ∧ ImR g ∧ TxR g ∧ StR g n
theorem FCl.keep {g g' : Hp} {f : Nat} {φ ψ : Int → Int} (h : FCl g f φ) (hk : ∀ a : Nat, f ≤ a → a ≤ f + 18 → g' a = g a) (he : ∀ k, 0 ≤ k → k < 110 → ψ k = φ k) : FCl g' f ψ := ⟨FI_congr he h.1, ClsF_congr he h.1 (h.2.keep hk)⟩
theorem ImR.keep {g g' : Hp} (h : ImR g) (h1 : ∀ a : Nat, 40 ≤ a → a ≤ 78 → g' a = g a) (h2 : g' 88 = g 88) (h3 : ∀ k, 110 ≤ k → k < 330 → g' 87 k = g 87 k) : ImR g' := by
  obtain ⟨a, b, c⟩ := h
  unfold ImR
  rw [h2, h1 78 (by omega) (by omega)]
  refine ⟨a, fun z => (b z).keep (fun a' a1 a2 => h1 a' (by omega) (by omega)) (fun k k0 k1 => ?_), fun z => (c z).keep (fun a' a1 a2 => h1 a' (by omega) (by omega)) (fun k k0 k1 => ?_)⟩
  · exact h3 (110 + k) (by omega) (by omega)
  · exact h3 (220 + k) (by omega) (by omega)
theorem TxR.keep {g g' : Hp} (h : TxR g) (h1 : g' 79 1 = g 79 1) (h2 : g' 80 = g 80) (h3 : g' 86 3 = g 86 3) (h4 : g' 89 = g 89) : TxR g' := by
  unfold TxR at *
  rw [h1, h2, h3, h4]
  exact h
theorem StR.keep {g g' : Hp} {n m : Int} (h : StR g n) (hn : n ≤ m) (h1 : ∀ k, 7 ≤ k → k < 10 → g' 0 k = g 0 k) (h2 : g' 90 = g 90) : StR g' m := by
  intro k k0 k1
  have := h k k0 k1
  rw [h1 (7 + k) (by omega) (by omega), h2]
  omega
def frT (g g' : Hp) : Prop := ∀ a : Nat, ¬ (20 ≤ a ∧ a ≤ 38) → ¬ (83 ≤ a ∧ a ≤ 85) → g' a = g a
def frS (g g' : Hp) : Prop := (∀ a : Nat, a ≠ 86 → ¬ (91 ≤ a ∧ a ≤ 101) → g' a = g a) ∧ g' 86 3 = g 86 3
theorem frG.T {g g' : Hp} (h : frG g g') : frT g g' := fun a a1 a2 => h a (by omega) (by omega) (by omega) (by omega) (by omega)
theorem frH.S {g g' : Hp} (h : frH g g') : frS g g' := ⟨fun a a1 a2 => h.1 a a1 (by omega) (by omega) (by omega), h.2 3 (by omega) (by omega)⟩
theorem frT.refl (g : Hp) : frT g g := fun _ _ _ => rfl
theorem frS.refl (g : Hp) : frS g g := ⟨fun _ _ _ => rfl, rfl⟩
theorem frT.trans {g g' g'' : Hp} (h : frT g g') (h' : frT g' g'') : frT g g'' := fun a a1 a2 => (h' a a1 a2).trans (h a a1 a2)
theorem frS.trans {g g' g'' : Hp} (h : frS g g') (h' : frS g' g'') : frS g g'' := ⟨fun a a1 a2 => (h'.1 a a1 a2).trans (h.1 a a1 a2), h'.2.trans h.2⟩
/-- nothing that lasts was written -/
theorem Rel.ro {g g1 g2 : Hp} {n m : Int} (h : Rel g n) (hn : n ≤ m) (h1 : frT g g1) (h2 : frS g1 g2) : Rel g2 m := by
  have k : ∀ a : Nat, a ≠ 86 → ¬ (20 ≤ a ∧ a ≤ 38) → ¬ (83 ≤ a ∧ a ≤ 85) → ¬ (91 ≤ a ∧ a ≤ 101) → g2 a = g a := fun a a0 a1 a2 a3 => by rw [h2.1 a a0 a3, h1 a a1 a2]
  have k3 : g2 86 3 = g 86 3 := by rw [h2.2, h1 86 (by omega) (by omega)]
  obtain ⟨a, b, c, d⟩ := h
  refine ⟨a.keep (fun a' a1 a2 => k a' (by omega) (by omega) (by omega) (by omega)) (fun j _ _ => ?_), b.keep (fun a' a1 a2 => k a' (by omega) (by omega) (by omega) (by omega)) (k 88 (by omega) (by omega) (by omega) (by omega)) (fun j _ _ => ?_), c.keep ?_ (k 80 (by omega) (by omega) (by omega) (by omega)) k3 (k 89 (by omega) (by omega) (by omega) (by omega)), d.keep hn (fun j _ _ => ?_) (k 90 (by omega) (by omega) (by omega) (by omega))⟩
  · unfold rg
    rw [k 87 (by omega) (by omega) (by omega) (by omega)]
  · rw [k 87 (by omega) (by omega) (by omega) (by omega)]
  · rw [k 79 (by omega) (by omega) (by omega) (by omega)]
  · rw [k 0 (by omega) (by omega) (by omega) (by omega)]
theorem frT_220 {g g1 g2 : Hp} (h1 : frT g g1) (h2 : frS g1 g2) : g2 220 = g 220 := by
  rw [h2.1 220 (by omega) (by omega), h1 220 (by omega) (by omega)]
/-- a call: both answer alike, and what holds between two calls holds again -/
def Opk (g : Hp) (n : Int) (C M : Hp → Option (Option SV × Hp)) : Prop := ∃ (v : Int) (g1 g2 : Hp), C g = some (some (vI v), g1) ∧ M g1 = some (some (vI v), g2) ∧ Rel g2 (n + 1) ∧ g2 220 = g 220
/-- the same, the answer a long -/
def OpkL (g : Hp) (n : Int) (C M : Hp → Option (Option SV × Hp)) : Prop := ∃ (v : Int) (g1 g2 : Hp), C g = some (some (vL v), g1) ∧ M g1 = some (some (vL v), g2) ∧ Rel g2 (n + 1) ∧ g2 220 = g 220
def ctH (g : Hp) (x : Int) : Hp := if x = -2 ∨ x = -3 ∨ x = -4 then up g 0 (5 - x) (g 0 (5 - x) + 1) else g
theorem c_counted (g : Hp) (x : Int) (h : ∀ k, 7 ≤ k → k < 10 → 0 ≤ g 0 k ∧ g 0 k < 2147483647) : EV 8 qX11_counted 0 [vR 0, vI x] [] g = some (some (vI x), ctH g x) := by
  unfold ctH
  have h7 := h 7 (by omega) (by omega)
  have h8 := h 8 (by omega) (by omega)
  have h9 := h 9 (by omega) (by omega)
  rw [bX11_counted_0]
  by_cases e2 : x = -2
  · subst e2
    rw [if_pos rfl, bX11_counted_6 _ _ (by omega), bX11_counted_54, if_pos (by omega)]
    rfl
  · rw [if_neg e2, bX11_counted_19]
    by_cases e3 : x = -3
    · subst e3
      rw [if_pos rfl, bX11_counted_25 _ _ (by omega), bX11_counted_54, if_pos (by omega)]
      rfl
    · rw [if_neg e3, bX11_counted_38]
      by_cases e4 : x = -4
      · subst e4
        rw [if_pos rfl, bX11_counted_44 _ _ (by omega), bX11_counted_54, if_pos (by omega)]
        rfl
      · rw [if_neg e4, bX11_counted_54, if_neg (by omega)]
theorem Rel.c7 {g : Hp} {n : Int} (h : Rel g n) (hn : n < 2147483647) : ∀ k, 7 ≤ k → k < 10 → 0 ≤ g 0 k ∧ g 0 k < 2147483647 := fun k k0 k1 => by
  have := h.2.2.2 (k - 7) (by omega) (by omega)
  rw [show 7 + (k - 7) = k by omega] at this
  omega
theorem Rel.m9 {g : Hp} {n : Int} (h : Rel g n) (hn : n < 2147483647) (x : Int) : ∀ k, 0 ≤ k → k < 3 → 0 ≤ ctH g x 90 k ∧ ctH g x 90 k < 2147483647 := fun k k0 k1 => by
  have := h.2.2.2 k k0 k1
  have e : ctH g x 90 k = g 90 k := by
    unfold ctH
    split
    · rw [up_ne (by omega)]
    · rfl
  rw [e]
  omega
theorem Rel.cnt {g : Hp} {n : Int} (h : Rel g n) (x : Int) (hx : x = -2 ∨ x = -3 ∨ x = -4) : Rel (metH (ctH g x) x) (n + 1) ∧ metH (ctH g x) x 220 = g 220 := by
  have e : metH (ctH g x) x = up (up g 0 (5 - x) (g 0 (5 - x) + 1)) 90 (-2 - x) (g 90 (-2 - x) + 1) := by
    unfold metH ctH
    rw [if_pos hx, if_pos hx, up_ne (by omega)]
  rw [e]
  have k : ∀ a : Nat, a ≠ 0 → a ≠ 90 → up (up g 0 (5 - x) (g 0 (5 - x) + 1)) 90 (-2 - x) (g 90 (-2 - x) + 1) a = g a := fun a a0 a1 => by
    funext i
    rw [up_ne a1, up_ne a0]
  refine ⟨?_, k 220 (by omega) (by omega)⟩
  obtain ⟨a, b, c, d⟩ := h
  refine ⟨a.keep (fun a' a1 a2 => k a' (by omega) (by omega)) (fun j _ _ => ?_), b.keep (fun a' a1 a2 => k a' (by omega) (by omega)) (k 88 (by omega) (by omega)) (fun j _ _ => ?_), c.keep ?_ (k 80 (by omega) (by omega)) ?_ (k 89 (by omega) (by omega)), fun j j0 j1 => ?_⟩
  · unfold rg
    rw [k 87 (by omega) (by omega)]
  · rw [k 87 (by omega) (by omega)]
  · rw [k 79 (by omega) (by omega)]
  · rw [k 86 (by omega) (by omega)]
  · have q := d j j0 j1
    rw [up_ne (by omega)]
    by_cases ej : j = -2 - x
    · have e5 : 7 + j = 5 - x := by omega
      rw [e5, up_eq, ej, up_eq, ← ej, ← e5]
      omega
    · rw [up_nei (by omega), up_nei ej, up_ne (by omega)]
      omega
/-- a call that is refused -/
theorem Opk.no {g : Hp} {n : Int} {C M : Hp → Option (Option SV × Hp)} (h : Rel g n) (x : Int) (hx : x = -2 ∨ x = -3 ∨ x = -4) (v : SV) (hC : C g = some (some v, ctH g x)) (hM : M (ctH g x) = some (some v, metH (ctH g x) x)) (hv : ∃ y, v = vI y := by exact ⟨_, rfl⟩) : Opk g n C M := by
  obtain ⟨y, rfl⟩ := hv
  exact ⟨y, ctH g x, metH (ctH g x) x, hC, hM, (h.cnt x hx).1, (h.cnt x hx).2⟩
theorem Opk.ro {g g1 g2 : Hp} {n : Int} {C M : Hp → Option (Option SV × Hp)} (h : Rel g n) (v : SV) (hC : C g = some (some v, g1)) (hM : M g1 = some (some v, g2)) (h1 : frT g g1) (h2 : frS g1 g2) (hv : ∃ y, v = vI y := by exact ⟨_, rfl⟩) : Opk g n C M := by
  obtain ⟨y, rfl⟩ := hv
  exact ⟨y, g1, g2, hC, hM, h.ro (by omega) h1 h2, frT_220 h1 h2⟩
theorem OpkL.ro {g g1 g2 : Hp} {n y : Int} {C M : Hp → Option (Option SV × Hp)} (h : Rel g n) (hC : C g = some (some (vL y), g1)) (hM : M g1 = some (some (vL y), g2)) (h1 : frT g g1) (h2 : frS g1 g2) : OpkL g n C M := ⟨y, g1, g2, hC, hM, h.ro (by omega) h1 h2, frT_220 h1 h2⟩
theorem ctH_86 {g : Hp} {x : Int} {a : Nat} (h : a ≠ 0) : ctH g x a = g a := by
  unfold ctH
  split
  · funext i
    rw [up_ne h]
  · rfl
theorem metH_0 (g : Hp) {x : Int} (h : 0 ≤ x) : metH g x = g := by
  unfold metH
  rw [if_neg (by omega)]
theorem ctH_0 (g : Hp) {x : Int} (h : 0 ≤ x) : ctH g x = g := by
  unfold ctH
  rw [if_neg (by omega)]
theorem hF1 : isFort 1 := Or.inl rfl
theorem hF40 : isFort 40 := Or.inr (Or.inr (Or.inl rfl))
theorem hF59 : isFort 59 := Or.inr (Or.inr (Or.inr rfl))
/-! telling a bridge -/
theorem c_bridge {g : Hp} (h : ∀ k, 7 ≤ k → k < 10 → 0 ≤ g 0 k ∧ g 0 k < 2147483647) {a b kd dn x : Int} {g' : Hp} (hE : EV 9 qX2_addBridge 0 [vR 1, vI a, vI b, vI kd, vI dn] [] g = some (some (vI x), g')) (h0 : ∀ k, 7 ≤ k → g' 0 k = g 0 k) : EV 10 qX11_bridge 0 [vR 0, vI a, vI b, vI kd, vI dn] [] g = some (some (vI x), ctH g' x) := by
  rw [bX11_bridge_0, hE, bnd_some]
  show EV 10 qX11_bridge 13 _ [vI _, vR 0] _ = _
  rw [bX11_bridge_13, c_counted _ _ (fun k k0 k1 => by rw [h0 k k0]; exact h k k0 k1), bnd_some]
  exact bX11_bridge_16 _ _ _ _ _ _
theorem m_bridge {g : Hp} (h : ∀ k, 0 ≤ k → k < 3 → 0 ≤ g 90 k ∧ g 90 k < 2147483647) {a b kd dn x : Int} {g' : Hp} (hE : EV 9 qX12_addBridge 0 [vR 86, vI 0, vI a, vI b, vI kd, vI dn, vU] [] g = some (some (vI x), g')) (h0 : g' 90 = g 90) : EV 10 qX12_bridge 0 [vR 86, vI a, vI b, vI kd, vI dn] [] g = some (some (vI x), metH g' x) := by
  rw [bX12_bridge_0, hE, bnd_some]
  show EV 10 qX12_bridge 11 _ [vI _, vR 86] _ = _
  rw [bX12_bridge_11, e_met _ _ (fun k k0 k1 => by rw [h0]; exact h k k0 k1), bnd_some]
  exact bX12_bridge_14 _ _ _ _ _ _
theorem hBr_fr (g : Hp) (r a b kd dn : Int) {x : Nat} (h : x ≠ 87) : hBr g r a b kd dn x = g x := by
  funext i
  unfold hBr
  rw [up_ne h, up_ne h, up_ne h, up_ne h, up_ne h, up_ne h, up_ne h]
theorem cBr_fr (g : Hp) (f : Nat) (a b kd dn : Int) {x : Nat} (h : x < f ∨ f + 18 < x) : cBr g f a b kd dn x = g x := by
  funext i
  unfold cBr
  split
  · simp (disch := omega) only [up_ne]
  · simp (disch := omega) only [up_ne]
theorem hBr_hi (g : Hp) (a b kd dn : Int) (hn : 0 ≤ g 87 0 ∧ g 87 0 ≤ 5) {k : Int} (h : 110 ≤ k) : hBr g 0 a b kd dn 87 k = g 87 k := by
  unfold hBr
  simp (disch := omega) only [up_nei]
/-- a call that tells -/
theorem Opk.tell {g g1 g2 : Hp} {n x : Int} {C M : Hp → Option (Option SV × Hp)} (h : Rel g n) (hC : C g = some (some (vI x), g1)) (hM : M g1 = some (some (vI x), g2)) (hF : FCl g2 1 (rg g2 0)) (h1 : ∀ a : Nat, (a < 1 ∨ 19 < a) → g1 a = g a) (h2 : ∀ a : Nat, a ≠ 87 → g2 a = g1 a) (h3 : ∀ k, 110 ≤ k → g2 87 k = g1 87 k) : Opk g n C M := by
  have k : ∀ a : Nat, (a < 1 ∨ 19 < a) → a ≠ 87 → g2 a = g a := fun a a1 a2 => by rw [h2 a a2, h1 a a1]
  obtain ⟨a, b, c, d⟩ := h
  refine ⟨x, g1, g2, hC, hM, ⟨hF, b.keep (fun a' a1 a2 => k a' (by omega) (by omega)) (k 88 (by omega) (by omega)) (fun j j0 _ => by rw [h3 j j0, h1 87 (by omega)]), c.keep ?_ (k 80 (by omega) (by omega)) ?_ (k 89 (by omega) (by omega)), d.keep (by omega) (fun j _ _ => ?_) (k 90 (by omega) (by omega))⟩, k 220 (by omega) (by omega)⟩
  · rw [k 79 (by omega) (by omega)]
  · rw [k 86 (by omega) (by omega)]
  · rw [k 0 (by omega) (by omega)]
theorem o_bridge {g : Hp} {n : Int} (hR : Rel g n) (hn : n < 1000) (a b kd dn : Int) : Opk g n (EV 10 qX11_bridge 0 [vR 0, vI a, vI b, vI kd, vI dn] []) (EV 10 qX12_bridge 0 [vR 86, vI a, vI b, vI kd, vI dn] []) := by
  have c7 := hR.c7 (by omega)
  have hI := hR.1.1
  have hC := hR.1.2
  have h0 := hI.1
  rw [rg_0] at h0
  have e1 : g 1 1 = g 87 0 := by have := hC.1; rw [rg_0] at this; exact this
  have e87 : ∀ x, ctH g x 87 = g 87 := fun x => ctH_86 (by omega)
  by_cases ok : okBr a b kd
  · have hc := c_addBridge_ok hF1 g a b kd dn ok (by omega)
    by_cases h5 : g 87 0 = 5
    · rw [if_pos (by omega)] at hc
      refine Opk.no hR (-4) (by omega) (vI (-4)) (c_bridge c7 hc (fun _ _ => rfl)) (m_bridge (hR.m9 (by omega) _) ?_ rfl)
      rw [e_addBridge_ok _ _ _ _ _ _ ok (by omega), if_pos (by rw [e87]; exact h5)]
    · rw [if_neg (by omega), e1] at hc
      have k87 : cBr g 1 a b kd dn 87 = g 87 := cBr_fr _ _ _ _ _ _ (by omega)
      have k90 : cBr g 1 a b kd dn 90 = g 90 := cBr_fr _ _ _ _ _ _ (by omega)
      have hm := e_addBridge (cBr g 1 a b kd dn) 0 a b kd dn (by omega) (by rw [k87]; exact h0) ok (by rw [k87]; exact h5)
      rw [k87] at hm
      have hc2 := c_bridge c7 hc (fun k _ => by rw [cBr_fr _ _ _ _ _ _ (by omega)])
      have hm2 := m_bridge (fun k k0 k1 => by have := hR.2.2.2 k k0 k1; rw [k90]; omega) hm (hBr_fr _ _ _ _ _ _ (by omega))
      rw [ctH_0 _ (by omega)] at hc2
      rw [metH_0 _ (by omega)] at hm2
      have hrg : rg (cBr g 1 a b kd dn) 0 = rg g 0 := by unfold rg; rw [k87]
      have hI' : FI (rg (cBr g 1 a b kd dn) 0) := by rw [hrg]; exact hI
      refine Opk.tell hR hc2 hm2 ⟨?_, ?_⟩ (fun x hx => cBr_fr _ _ _ _ _ _ (by omega)) (fun x hx => hBr_fr _ _ _ _ _ _ hx) (fun k hk => hBr_hi _ _ _ _ _ (by rw [k87]; exact h0) hk)
      · rw [rg_hBr hI' (by rw [k87]; exact h5), hrg]
        exact FI_fBr hI (by rw [rg_0]; exact h5) ok
      · rw [rg_hBr hI' (by rw [k87]; exact h5), hrg]
        exact (ClsF_cBr hC hI (by rw [rg_0]; exact h5)).keep (fun x x1 x2 => hBr_fr _ _ _ _ _ _ (by omega))
  · refine Opk.no hR (-2) (by omega) (vI (-2)) (c_bridge c7 (c_addBridge_bad hF1 _ _ _ _ _ ok) (fun _ _ => rfl)) (m_bridge (hR.m9 (by omega) _) (e_addBridge_bad _ _ _ _ _ _ ok) rfl)
