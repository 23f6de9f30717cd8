/-! a Fort is taken; the tellers keep the relation -/
theorem cpy0_in {g : Hp} {s t : Nat} {n i : Int} (h : 0 ≤ i ∧ i < n) : cpy g s 0 t 0 n t i = g s i := by
  unfold cpy
  rw [if_pos ⟨rfl, by omega⟩]
  congr 1
  omega
/-- the Fort at f is the one that was at e -/
def Tkn (g g' : Hp) (f e : Nat) : Prop :=
  g' f 1 = g e 1 ∧ g' f 6 = g e 6 ∧ g' f 7 = g e 7 ∧ g' f 11 = g e 11 ∧ g' (f + 17) 1 = g (e + 17) 1 ∧
  (∀ k, 0 ≤ k ∧ k < 5 → g' (f + 8) k = g (e + 8) k ∧ g' (f + 9) k = g (e + 9) k ∧ g' (f + 10) k = g (e + 10) k ∧ g' (f + 11) k = g (e + 11) k) ∧
  (∀ k, 0 ≤ k ∧ k < 2 → g' (f + 12) k = g (e + 12) k ∧ g' (f + 13) k = g (e + 13) k ∧ g' (f + 14) k = g (e + 14) k) ∧
  (∀ k, 0 ≤ k ∧ k < 3 → g' (f + 15) k = g (e + 15) k ∧ g' (f + 16) k = g (e + 16) k) ∧
  ∀ k, 0 ≤ k ∧ k < 16 → g' (f + 18) k = g (e + 18) k
theorem c_take {e f : Nat} (hE : isFort e) (hF : isFort f) (hd : f + 19 ≤ e ∨ e + 19 ≤ f) (g : Hp) : ∃ g', EV 9 qX2_take 0 [vR f, vR e] [] g = some (none, g') ∧ Tkn g g' f e ∧ sameBut g g' f := by
  rw [bX2_take_0 hE hF, bX6_take_0 hE hF, bnd_some]
  refine ⟨_, bX2_take_169 hE hF _, ⟨?_, ?_, ?_, ?_, ?_, fun k hk => ⟨?_, ?_, ?_, ?_⟩, fun k hk => ⟨?_, ?_, ?_⟩, fun k hk => ⟨?_, ?_⟩, fun k hk => ?_⟩, fun a ha => ?_⟩
  all_goals (try funext i)
  all_goals simp (disch := omega) only [up_ne, cpy_ne, up_nei, up_eq, cpy0_in]
theorem Tkn.cls {g g' : Hp} {f e : Nat} {φ : Int → Int} (h : Tkn g g' f e) (hI : FI φ) (hC : ClsF g e φ) : ClsF g' f φ := by
  obtain ⟨t1, t2, t3, t4, t5, t6, t7, t8, t9⟩ := h
  obtain ⟨c0, c1, c2, c3, c4, c5, c6, c7, c8⟩ := hC
  obtain ⟨h0, hb, hl, hc, hch, hch2, hp, hpp, hs, hss⟩ := hI
  refine ⟨by rw [t1, c0], fun k k0 k1 => ?_, by rw [t2, c2], by rw [t3, c3], fun c k0 k1 => ?_, by rw [t4, c5], fun p k0 k1 => ?_, by rw [t5, c7], fun s k0 k1 => ?_⟩
  · obtain ⟨a, b, c, d⟩ := t6 k (by omega)
    rw [a, b, c, d]
    exact c1 k k0 k1
  · obtain ⟨a, b, d⟩ := t7 c (by omega)
    rw [a, b, d]
    exact c4 c k0 k1
  · obtain ⟨a, b⟩ := t8 p (by omega)
    rw [a, b]
    exact c6 p k0 k1
  · rw [t9 s (by omega)]
    exact c8 s k0 k1
theorem cBr_e {g : Hp} {f : Nat} {a b kd dn : Int} : (∀ i, cBr g f a b kd dn (f + 8) i = if i = g f 1 then a else g (f + 8) i) ∧ (∀ i, cBr g f a b kd dn (f + 9) i = if i = g f 1 then b else g (f + 9) i) ∧ (∀ i, cBr g f a b kd dn (f + 10) i = if i = g f 1 then kd else g (f + 10) i) ∧ (∀ i, cBr g f a b kd dn (f + 11) i = if i = g f 1 then 0 else g (f + 11) i) ∧ cBr g f a b kd dn f 1 = g f 1 + 1 ∧ cBr g f a b kd dn f 6 = (if dn = 0 then g f 6 else bOr (g f 6) (bShl 1 (g f 1))) ∧ cBr g f a b kd dn f 7 = g f 7 ∧ cBr g f a b kd dn f 11 = g f 11 ∧ (∀ i, cBr g f a b kd dn (f + 12) i = g (f + 12) i) ∧ (∀ i, cBr g f a b kd dn (f + 13) i = g (f + 13) i) ∧ (∀ i, cBr g f a b kd dn (f + 14) i = g (f + 14) i) ∧ (∀ i, cBr g f a b kd dn (f + 15) i = g (f + 15) i) ∧ (∀ i, cBr g f a b kd dn (f + 16) i = g (f + 16) i) ∧ cBr g f a b kd dn (f + 17) 1 = 0 := by
  unfold cBr
  by_cases hd : dn = 0
  · simp [hd, up]
  · simp [hd, up]
theorem ClsF_cBr {g : Hp} {f : Nat} {φ : Int → Int} {a b kd dn : Int} (hC : ClsF g f φ) (hI : FI φ) (h5 : φ 0 ≠ 5) : ClsF (cBr g f a b kd dn) f (fBr φ a b kd dn) := by
  obtain ⟨e8, e9, e10, e11, e1, e6, e7, ep, e12, e13, e14, e15, e16, e17⟩ := cBr_e (g := g) (f := f) (a := a) (b := b) (kd := kd) (dn := dn)
  have hl := lyBr hI h5 dn
  obtain ⟨c0, c1, c2, c3, c4, c5, c6, c7, c8⟩ := hC
  have h0 := hI.1
  have hl2 := hI.2.2.1
  have hc := hI.2.2.2.1
  have hn : 0 ≤ φ 0 ∧ φ 0 < 5 := by omega
  refine ⟨by rw [e1, fBr_0, c0], fun k k0 k1 => ?_, ?_, by rw [e7, fBr_hi hn (by omega) (by omega)]; exact c3, fun c k0 k1 => ?_, by rw [ep, fBr_hi hn (by omega) (by omega)]; exact c5, fun p k0 k1 => ?_, by rw [e17, fBr_36], fun s k0 k1 => ?_⟩
  · rw [fBr_0] at k1
    rw [e8, e9, e10, e11, c0, fBr_A hn (by omega), fBr_B hn (by omega), fBr_K hn (by omega), fBr_S hn (by omega)]
    by_cases e : k = φ 0
    · simp [e]
    · simp only [if_neg e]
      exact c1 k k0 (by omega)
  · rw [e6, fBr_21, c2, c0]
    by_cases hd : dn = 0
    · rw [if_pos hd, if_pos hd, Int.add_zero]
    · rw [if_neg hd, if_neg hd] at *
      exact hl
  · rw [fBr_hi hn (by omega) (by omega)] at k1
    rw [e12, e13, e14, fBr_hi hn (by omega) (by omega), fBr_hi hn (by omega) (by omega), fBr_hi hn (by omega) (by omega)]
    exact c4 c k0 k1
  · rw [fBr_hi hn (by omega) (by omega)] at k1
    have hp := hI.2.2.2.2.2.2.1
    rw [e15, e16, fBr_hi hn (by omega) (by omega), fBr_hi hn (by omega) (by omega)]
    exact c6 p k0 k1
  · rw [fBr_36] at k1
    omega
/-- a chain more -/
def fCh (φ : Int → Int) (a b v : Int) : Int → Int := fu (fu (fu (fu (fu φ (23 + φ 22) a) (25 + φ 22) b) (27 + φ 22) v) 22 (φ 22 + 1)) 36 0
theorem fCh_o {φ : Int → Int} {a b v j : Int} (hn : 0 ≤ φ 22 ∧ φ 22 < 2) (h : j < 22 ∨ 29 ≤ j) (h36 : j ≠ 36) : fCh φ a b v j = φ j := by
  unfold fCh
  rw [fu_ne h36, fu_ne (by omega), fu_ne (by omega), fu_ne (by omega), fu_ne (by omega)]
theorem fCh_36 {φ : Int → Int} {a b v : Int} : fCh φ a b v 36 = 0 := fu_eq
theorem fCh_22 {φ : Int → Int} {a b v : Int} : fCh φ a b v 22 = φ 22 + 1 := by
  unfold fCh
  rw [fu_ne (by omega), fu_eq]
theorem fCh_A {φ : Int → Int} {a b v k : Int} (hn : 0 ≤ φ 22 ∧ φ 22 < 2) (hk : 0 ≤ k ∧ k < 2) : fCh φ a b v (23 + k) = if k = φ 22 then a else φ (23 + k) := by
  unfold fCh
  rw [fu_ne (by omega), fu_ne (by omega), fu_ne (by omega), fu_ne (by omega), fu_if]
  by_cases h : k = φ 22
  · rw [if_pos h, if_pos (by omega)]
  · rw [if_neg h, if_neg (by omega)]
theorem fCh_B {φ : Int → Int} {a b v k : Int} (hn : 0 ≤ φ 22 ∧ φ 22 < 2) (hk : 0 ≤ k ∧ k < 2) : fCh φ a b v (25 + k) = if k = φ 22 then b else φ (25 + k) := by
  unfold fCh
  rw [fu_ne (by omega), fu_ne (by omega), fu_ne (by omega), fu_if]
  by_cases h : k = φ 22
  · rw [if_pos h, if_pos (by omega)]
  · rw [if_neg h, if_neg (by omega), fu_ne (by omega)]
theorem fCh_R {φ : Int → Int} {a b v k : Int} (hn : 0 ≤ φ 22 ∧ φ 22 < 2) (hk : 0 ≤ k ∧ k < 2) : fCh φ a b v (27 + k) = if k = φ 22 then v else φ (27 + k) := by
  unfold fCh
  rw [fu_ne (by omega), fu_ne (by omega), fu_if]
  by_cases h : k = φ 22
  · rw [if_pos h, if_pos (by omega)]
  · rw [if_neg h, if_neg (by omega), fu_ne (by omega), fu_ne (by omega)]
theorem rg_hCh (g : Hp) (r a b v : Int) : rg (hCh g r a b v) r = fCh (rg g r) a b v := by
  unfold hCh fCh
  rw [rg_up, rg_up, rg_up, rg_up, rg_up, rg_at g r 22]
  rw [show r + 23 + g 87 (r + 22) - r = 23 + g 87 (r + 22) by omega, show r + 25 + g 87 (r + 22) - r = 25 + g 87 (r + 22) by omega, show r + 27 + g 87 (r + 22) - r = 27 + g 87 (r + 22) by omega, show r + 22 - r = 22 by omega, show r + 36 - r = 36 by omega]
theorem tied01_0 {φ : Int → Int} {b : Int} (h : tied01 φ b = 0) : (0 < φ 22 → φ 23 ≠ b ∧ φ 25 ≠ b) ∧ (1 < φ 22 → φ 24 ≠ b ∧ φ 26 ≠ b) := by
  unfold tied01 at h
  split at h
  · omega
  · omega
theorem FI_fCh {φ : Int → Int} {a b v : Int} (hI : FI φ) (h2 : φ 22 ≠ 2) (ha : 0 ≤ a ∧ a ≤ φ 0 - 1) (hb : 0 ≤ b ∧ b ≤ φ 0 - 1) (hab : a ≠ b) (hv : 0 ≤ v ∧ v ≤ 9) (ta : tied01 φ a = 0) (tb : tied01 φ b = 0) : FI (fCh φ a b v) := by
  obtain ⟨h0, hbb, hl, hc, hch, hch2, hp, hpp, hs, hss⟩ := hI
  have hn : 0 ≤ φ 22 ∧ φ 22 < 2 := by omega
  have t1 := tied01_0 ta
  have t2 := tied01_0 tb
  unfold FI
  rw [fCh_22, fCh_36, fCh_o (j := 0) hn (by omega) (by omega), fCh_o (j := 21) hn (by omega) (by omega), fCh_o (j := 29) hn (by omega) (by omega)]
  refine ⟨h0, fun k k0 k1 => ?_, hl, by omega, fun c c0 c1 => ?_, fun e => ?_, hp, fun p p0 p1 => ?_, by omega, fun s s0 s1 => by omega⟩
  · rw [fCh_o hn (by omega) (by omega), fCh_o hn (by omega) (by omega), fCh_o hn (by omega) (by omega), fCh_o hn (by omega) (by omega)]
    exact hbb k k0 k1
  · rw [fCh_A hn (by omega), fCh_B hn (by omega), fCh_R hn (by omega)]
    by_cases e : c = φ 22
    · simp only [if_pos e]
      omega
    · simp only [if_neg e]
      exact hch c c0 (by omega)
  · have e1 : φ 22 = 1 := by omega
    have q1 := fCh_A (a := a) (b := b) (v := v) (k := 0) hn (by omega)
    have q2 := fCh_A (a := a) (b := b) (v := v) (k := 1) hn (by omega)
    have q3 := fCh_B (a := a) (b := b) (v := v) (k := 0) hn (by omega)
    have q4 := fCh_B (a := a) (b := b) (v := v) (k := 1) hn (by omega)
    rw [show (23 : Int) + 0 = 23 from rfl, if_neg (by omega)] at q1
    rw [show (23 : Int) + 1 = 24 from rfl, if_pos (by omega)] at q2
    rw [show (25 : Int) + 0 = 25 from rfl, if_neg (by omega)] at q3
    rw [show (25 : Int) + 1 = 26 from rfl, if_pos (by omega)] at q4
    rw [q1, q2, q3, q4]
    have := t1.1 (by omega)
    have := t2.1 (by omega)
    omega
  · rw [fCh_o hn (by omega) (by omega), fCh_o hn (by omega) (by omega)]
    exact hpp p p0 p1
theorem ClsF_cCh {g : Hp} {f : Nat} {φ : Int → Int} {a b v : Int} (hC : ClsF g f φ) (hI : FI φ) (h2 : φ 22 ≠ 2) : ClsF (cCh g f a b v) f (fCh φ a b v) := by
  obtain ⟨c0, c1, c2, c3, c4, c5, c6, c7, c8⟩ := hC
  have hc := hI.2.2.2.1
  have h0 := hI.1
  have hp := hI.2.2.2.2.2.2.1
  have hn : 0 ≤ φ 22 ∧ φ 22 < 2 := by omega
  unfold cCh
  refine ⟨?_, fun k k0 k1 => ?_, ?_, ?_, fun c k0 k1 => ?_, ?_, fun p k0 k1 => ?_, ?_, fun s k0 k1 => ?_⟩
  · rw [fCh_o hn (by omega) (by omega), ← c0]
    simp (disch := omega) only [up_ne, up_nei]
  · rw [fCh_o (j := 0) hn (by omega) (by omega)] at k1
    rw [fCh_o hn (by omega) (by omega), fCh_o hn (by omega) (by omega), fCh_o hn (by omega) (by omega), fCh_o hn (by omega) (by omega)]
    have := c1 k k0 k1
    simp (disch := omega) only [up_ne, up_nei]
    exact this
  · rw [fCh_o hn (by omega) (by omega), ← c2]
    simp (disch := omega) only [up_ne, up_nei]
  · rw [fCh_22, up_eq, c3]
  · rw [fCh_22] at k1
    rw [fCh_A hn (by omega), fCh_B hn (by omega), fCh_R hn (by omega), c3]
    by_cases e : c = φ 22
    · subst e
      simp (disch := omega) only [up_ne, up_eq, if_true, and_self]
    · have := c4 c k0 (by omega)
      simp (disch := omega) only [up_ne, up_nei, if_neg e]
      exact this
  · rw [fCh_o hn (by omega) (by omega), ← c5]
    simp (disch := omega) only [up_ne, up_nei]
  · rw [fCh_o hn (by omega) (by omega)] at k1
    rw [fCh_o hn (by omega) (by omega), fCh_o hn (by omega) (by omega)]
    have := c6 p k0 k1
    simp (disch := omega) only [up_ne, up_nei]
    exact this
  · rw [fCh_36, up_ne (by omega), up_eq]
  · rw [fCh_36] at k1
    omega
/-- a person more -/
def fOne (φ : Int → Int) (v room : Int) : Int → Int := fu (fu (fu (fu φ (30 + φ 29) v) (33 + φ 29) room) 29 (φ 29 + 1)) 36 0
theorem fOne_o {φ : Int → Int} {v room j : Int} (hn : 0 ≤ φ 29 ∧ φ 29 < 3) (h : j < 29 ∨ 36 < j) : fOne φ v room j = φ j := by
  unfold fOne
  rw [fu_ne (by omega), fu_ne (by omega), fu_ne (by omega), fu_ne (by omega)]
theorem fOne_36 {φ : Int → Int} {v room : Int} : fOne φ v room 36 = 0 := fu_eq
theorem fOne_29 {φ : Int → Int} {v room : Int} : fOne φ v room 29 = φ 29 + 1 := by
  unfold fOne
  rw [fu_ne (by omega), fu_eq]
theorem fOne_L {φ : Int → Int} {v room k : Int} (hn : 0 ≤ φ 29 ∧ φ 29 < 3) (hk : 0 ≤ k ∧ k < 3) : fOne φ v room (30 + k) = if k = φ 29 then v else φ (30 + k) := by
  unfold fOne
  rw [fu_ne (by omega), fu_ne (by omega), fu_ne (by omega), fu_if]
  by_cases h : k = φ 29
  · rw [if_pos h, if_pos (by omega)]
  · rw [if_neg h, if_neg (by omega)]
theorem fOne_P {φ : Int → Int} {v room k : Int} (hn : 0 ≤ φ 29 ∧ φ 29 < 3) (hk : 0 ≤ k ∧ k < 3) : fOne φ v room (33 + k) = if k = φ 29 then room else φ (33 + k) := by
  unfold fOne
  rw [fu_ne (by omega), fu_ne (by omega), fu_if]
  by_cases h : k = φ 29
  · rw [if_pos h, if_pos (by omega)]
  · rw [if_neg h, if_neg (by omega), fu_ne (by omega)]
theorem rg_hOne (g : Hp) (r v room : Int) : rg (hOne g r v room) r = fOne (rg g r) v room := by
  unfold hOne fOne
  rw [rg_up, rg_up, rg_up, rg_up, rg_at g r 29]
  rw [show r + 30 + g 87 (r + 29) - r = 30 + g 87 (r + 29) by omega, show r + 33 + g 87 (r + 29) - r = 33 + g 87 (r + 29) by omega, show r + 29 - r = 29 by omega, show r + 36 - r = 36 by omega]
theorem FI_fOne {φ : Int → Int} {v room : Int} (hI : FI φ) (h3 : φ 29 ≠ 3) (hv : 1 ≤ v ∧ v ≤ 9) (hr : 0 ≤ room ∧ room ≤ 4) : FI (fOne φ v room) := by
  obtain ⟨h0, hbb, hl, hc, hch, hch2, hp, hpp, hs, hss⟩ := hI
  have hn : 0 ≤ φ 29 ∧ φ 29 < 3 := by omega
  unfold FI
  rw [fOne_29, fOne_36, fOne_o (j := 0) hn (by omega), fOne_o (j := 21) hn (by omega), fOne_o (j := 22) hn (by omega), fOne_o (j := 23) hn (by omega), fOne_o (j := 24) hn (by omega), fOne_o (j := 25) hn (by omega), fOne_o (j := 26) hn (by omega)]
  refine ⟨h0, fun k k0 k1 => ?_, hl, hc, fun c c0 c1 => ?_, hch2, by omega, fun p p0 p1 => ?_, by omega, fun s s0 s1 => by omega⟩
  · rw [fOne_o hn (by omega), fOne_o hn (by omega), fOne_o hn (by omega), fOne_o hn (by omega)]
    exact hbb k k0 k1
  · rw [fOne_o hn (by omega), fOne_o hn (by omega), fOne_o hn (by omega)]
    exact hch c c0 c1
  · rw [fOne_L hn (by omega), fOne_P hn (by omega)]
    by_cases e : p = φ 29
    · simp only [if_pos e]
      omega
    · simp only [if_neg e]
      exact hpp p p0 (by omega)
theorem ClsF_cOne {g : Hp} {f : Nat} {φ : Int → Int} {v room : Int} (hC : ClsF g f φ) (hI : FI φ) (h3 : φ 29 ≠ 3) : ClsF (cOne g f v room) f (fOne φ v room) := by
  obtain ⟨c0, c1, c2, c3, c4, c5, c6, c7, c8⟩ := hC
  have h0 := hI.1
  have hc := hI.2.2.2.1
  have hp := hI.2.2.2.2.2.2.1
  have hn : 0 ≤ φ 29 ∧ φ 29 < 3 := by omega
  unfold cOne
  refine ⟨?_, fun k k0 k1 => ?_, ?_, ?_, fun c k0 k1 => ?_, ?_, fun p k0 k1 => ?_, ?_, fun s k0 k1 => ?_⟩
  · rw [fOne_o hn (by omega), ← c0]
    simp (disch := omega) only [up_ne, up_nei]
  · rw [fOne_o (j := 0) hn (by omega)] at k1
    rw [fOne_o hn (by omega), fOne_o hn (by omega), fOne_o hn (by omega), fOne_o hn (by omega)]
    have := c1 k k0 k1
    simp (disch := omega) only [up_ne, up_nei]
    exact this
  · rw [fOne_o hn (by omega), ← c2]
    simp (disch := omega) only [up_ne, up_nei]
  · rw [fOne_o hn (by omega), ← c3]
    simp (disch := omega) only [up_ne, up_nei]
  · rw [fOne_o (j := 22) hn (by omega)] at k1
    rw [fOne_o hn (by omega), fOne_o hn (by omega), fOne_o hn (by omega)]
    have := c4 c k0 k1
    simp (disch := omega) only [up_ne, up_nei]
    exact this
  · rw [fOne_29, up_eq, c5]
  · rw [fOne_29] at k1
    rw [fOne_L hn (by omega), fOne_P hn (by omega), c5]
    by_cases e : p = φ 29
    · subst e
      simp (disch := omega) only [up_ne, up_eq, if_true, and_self]
    · have := c6 p k0 (by omega)
      simp (disch := omega) only [up_ne, up_nei, if_neg e]
      exact this
  · rw [fOne_36, up_ne (by omega), up_eq]
  · rw [fOne_36] at k1
    omega
/-- ballast -/
theorem FI_fLd {φ : Int → Int} {b v : Int} (hI : FI φ) (hb : 0 ≤ b ∧ b ≤ φ 0 - 1) (hv : 0 ≤ v ∧ v ≤ 20) : FI (fu φ (16 + b) v) := by
  obtain ⟨h0, hbb, hl, hc, hch, hch2, hp, hpp, hs, hss⟩ := hI
  unfold FI
  rw [fu_ne (k := 0) (by omega), fu_ne (k := 21) (by omega), fu_ne (k := 22) (by omega), fu_ne (k := 23) (by omega), fu_ne (k := 24) (by omega), fu_ne (k := 25) (by omega), fu_ne (k := 26) (by omega), fu_ne (k := 29) (by omega), fu_ne (k := 36) (by omega)]
  refine ⟨h0, fun k k0 k1 => ?_, hl, hc, fun c c0 c1 => ?_, hch2, hp, fun p p0 p1 => ?_, hs, fun s s0 s1 => ⟨?_, fun p p0 p1 => ?_⟩⟩
  · have q := hbb k k0 k1
    rw [fu_ne (by omega), fu_ne (by omega), fu_ne (by omega), fu_if]
    split <;> omega
  · rw [fu_ne (by omega), fu_ne (by omega), fu_ne (by omega)]
    exact hch c c0 c1
  · rw [fu_ne (by omega), fu_ne (by omega)]
    exact hpp p p0 p1
  · rw [fu_ne (by omega)]
    exact (hss s s0 s1).1
  · rw [fu_ne (by omega)]
    exact (hss s s0 s1).2 p p0 p1
theorem ClsF_ld {g : Hp} {f : Nat} {φ : Int → Int} {b v : Int} (hC : ClsF g f φ) (hI : FI φ) (hb : 0 ≤ b ∧ b ≤ φ 0 - 1) : ClsF (up g (f + 11) b v) f (fu φ (16 + b) v) := by
  obtain ⟨c0, c1, c2, c3, c4, c5, c6, c7, c8⟩ := hC
  obtain ⟨h0, hbb, hl, hc, hch, hch2, hp, hpp, hs, hss⟩ := hI
  refine ⟨by rw [up_ne (by omega), fu_ne (by omega), c0], fun k k0 k1 => ?_, by rw [up_ne (by omega), fu_ne (by omega), c2], by rw [up_ne (by omega), fu_ne (by omega), c3], fun c k0 k1 => ?_, by rw [up_ne (by omega), fu_ne (by omega), c5], fun p k0 k1 => ?_, by rw [up_ne (by omega), fu_ne (by omega), c7], fun s k0 k1 => ?_⟩
  · rw [fu_ne (by omega)] at k1
    have q := c1 k k0 k1
    rw [up_ne (by omega), up_ne (by omega), up_ne (by omega), fu_ne (by omega), fu_ne (by omega), fu_ne (by omega), fu_if]
    by_cases e : k = b
    · rw [e, up_eq, if_pos rfl, ← e]
      exact ⟨q.1, q.2.1, q.2.2.1, rfl⟩
    · rw [up_nei e, if_neg (by omega)]
      exact q
  · rw [fu_ne (by omega)] at k1
    rw [up_ne (by omega), up_ne (by omega), up_ne (by omega), fu_ne (by omega), fu_ne (by omega), fu_ne (by omega)]
    exact c4 c k0 k1
  · rw [fu_ne (by omega)] at k1
    rw [up_ne (by omega), up_ne (by omega), fu_ne (by omega), fu_ne (by omega)]
    exact c6 p k0 k1
  · rw [fu_ne (by omega)] at k1
    rw [up_ne (by omega), fu_ne (by omega), fu_ne (by omega), fu_ne (by omega), fu_ne (by omega), fu_ne (by omega)]
    exact c8 s k0 k1
