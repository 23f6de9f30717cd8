/-! how all is now -/
def stF (φ : Int → Int) : St := (φ 21, if 0 < φ 29 then φ 33 else 0, if 1 < φ 29 then φ 34 else 0, if 2 < φ 29 then φ 35 else 0)
theorem KI_F {φ : Int → Int} (h : FI φ) : KI φ := by
  obtain ⟨h0, hbb, hl, hc, hch, hch2, hp, hpp, hs, hss⟩ := h
  refine ⟨h0, fun k k0 k1 => ?_, hc, hch, hch2, hp, fun p p0 p1 => (hpp p p0 p1).1⟩
  have := hbb k k0 k1
  omega
theorem stF_qa {φ : Int → Int} {i : Int} (hi : 0 ≤ i ∧ i < 3) : qa (stF φ) i = if i < φ 29 then φ (33 + i) else 0 := by
  rcases (by omega : i = 0 ∨ i = 1 ∨ i = 2) with rfl | rfl | rfl <;> rfl
theorem SVd_F {φ : Int → Int} (h : FI φ) : SVd φ (stF φ) := by
  obtain ⟨h0, hbb, hl, hc, hch, hch2, hp, hpp, hs, hss⟩ := h
  refine ⟨hl, fun i i0 i1 => ?_⟩
  rw [stF_qa ⟨i0, i1⟩]
  by_cases e : i < φ 29
  · rw [if_pos e]
    have := (hpp i i0 e).2
    exact ⟨this, fun z => by omega⟩
  · rw [if_neg e]
    exact ⟨by omega, fun _ => rfl⟩
theorem ClsK_F {g : Hp} {f : Nat} {φ : Int → Int} (hI : FI φ) (h : ClsF g f φ) : ClsK g f φ (stF φ) := by
  obtain ⟨c0, c1, c2, c3, c4, c5, c6, c7, c8⟩ := h
  have hp := hI.2.2.2.2.2.2.1
  refine ⟨c0, c1, c2, c3, c4, c5, fun p p0 p1 => ?_⟩
  rw [stF_qa (by omega), if_pos p1]
  exact c6 p p0 p1
/-- all are there -/
def tF (w : Int) : Int := pw2 w - 1
theorem tF_dn {w p : Int} (hw : 0 ≤ w ∧ w ≤ 3) (hp : 0 ≤ p ∧ p < 3) : dnB (tF w) p ↔ p < w := by
  rcases (by omega : w = 0 ∨ w = 1 ∨ w = 2 ∨ w = 3) with rfl | rfl | rfl | rfl <;> rcases (by omega : p = 0 ∨ p = 1 ∨ p = 2) with rfl | rfl | rfl <;> decide
theorem tF_cn {w : Int} (hw : 0 ≤ w ∧ w ≤ 3) : cn (tF w) = w := by
  rcases (by omega : w = 0 ∨ w = 1 ∨ w = 2 ∨ w = 3) with rfl | rfl | rfl | rfl <;> decide
theorem tF_rk {w p : Int} (hw : 0 ≤ w ∧ w ≤ 3) (hp : 0 ≤ p ∧ p < 3) (h : p < w) : rk (tF w) p = p := by
  rcases (by omega : w = 0 ∨ w = 1 ∨ w = 2 ∨ w = 3) with rfl | rfl | rfl | rfl <;> rcases (by omega : p = 0 ∨ p = 1 ∨ p = 2) with rfl | rfl | rfl <;> first | omega | decide
theorem tF_full {w : Int} (hw : 0 ≤ w ∧ w ≤ 3) : fullT (tF w) := fun p p0 p1 d => tF_rk hw ⟨p0, p1⟩ ((tF_dn hw ⟨p0, p1⟩).mp d)
theorem rg0 (g : Hp) (k : Int) : rg g 0 k = g 87 k := by rw [rg_at, Int.zero_add]
theorem Laid.modC {g g' : Hp} (h : Laid g g') (hI : FI (rg g 0)) : ModC g' (rg g 0) (tF (g 87 29)) := by
  obtain ⟨l1, l2, l3, l4, l5, l6⟩ := h
  obtain ⟨h0, hbb, hl, hc, hch, hch2, hp, hpp, hs, hss⟩ := hI
  have e87 := l5 87 (by omega) (by omega) (by omega) (by omega) (by omega)
  simp only [rg0] at *
  unfold ModC
  simp only [rg0, e87]
  refine ⟨trivial, fun k k0 k1 => ⟨trivial, trivial, trivial, l1 k k0 (by omega)⟩, l2, fun c c0 c1 => l3 c c0 c1, hp, l4, (tF_cn hp).symm, fun p p0 p1 d => ?_⟩
  have := (tF_dn hp ⟨p0, p1⟩).mp d
  rw [tF_rk hp ⟨p0, p1⟩ this]
  exact ⟨this, rfl⟩
theorem Laid.modN {g g' : Hp} (h : Laid g g') (hI : FI (rg g 0)) : ModN g' (tF (g 87 29)) (stF (rg g 0)) := by
  obtain ⟨l1, l2, l3, l4, l5, l6⟩ := h
  have hp := hI.2.2.2.2.2.2.1
  have e87 := l5 87 (by omega) (by omega) (by omega) (by omega) (by omega)
  rw [rg0] at hp
  refine ⟨by rw [e87]; exact (rg0 g 21).symm, fun p p0 p1 => ?_⟩
  unfold asP mpl
  have e10 : g' 86 10 = tF (g 87 29) := l4
  rw [e87, e10]
  have dd := tF_dn hp ⟨p0, p1⟩
  by_cases e : p < g 87 29
  · rw [if_pos ⟨e, dd.mpr e⟩, if_pos (dd.mpr e), tF_rk hp ⟨p0, p1⟩ e, stF_qa ⟨p0, p1⟩, rg0, rg0, if_pos e]
  · rw [if_neg (fun z => e z.1), if_neg (fun z => e (dd.mp z))]
theorem m_asNow' {g : Hp} {t : Int} {s0 : St} (hN : ModN g t s0) : EV 9 qX12_asNow 0 [vR 86, vU] [] g = some (none, dcd g s0.1 (mpl t s0 0) (mpl t s0 1) (mpl t s0 2)) := by
  rw [m_asNow, hN.1, hN.2 0 (by omega) (by omega), hN.2 1 (by omega) (by omega), hN.2 2 (by omega) (by omega)]
theorem Laid.S {g g' : Hp} (h : Laid g g') : frS g g' := ⟨fun a a1 a2 => h.2.2.2.2.1 a a1 (by omega) (by omega) (by omega) (by omega), h.2.2.2.2.2 3 (by omega) (by omega)⟩
theorem dcd_S (g : Hp) (ly a b c : Int) : frS g (dcd g ly a b c) := by
  refine ⟨fun x x1 x2 => ?_, ?_⟩
  · funext i
    unfold dcd
    rw [up_ne (by omega), up_ne (by omega), up_ne (by omega), up_ne x1]
  · unfold dcd
    rw [up_ne (by omega), up_ne (by omega), up_ne (by omega), up_nei (by omega)]
theorem Rel.h22 {g : Hp} {n : Int} (h : Rel g n) : (0 ≤ g 87 22 ∧ g 87 22 ≤ 2) ∧ g 1 7 = g 87 22 := by
  have a := h.1.1.2.2.2.1
  have b := h.1.2.2.2.2.1
  rw [rg0] at a b
  exact ⟨a, b⟩
theorem o_weight {g : Hp} {n : Int} (hR : Rel g n) (hn : n < 1000) (b : Int) : Opk g n (EV 11 qX11_weight 0 [vR 0, vI b] []) (EV 10 qX12_weight 0 [vR 86, vI b] []) := by
  have c7 := hR.c7 (by omega)
  obtain ⟨b1, b2, b3, b4⟩ := hR.b0
  have hI := hR.1.1
  by_cases ok : 0 ≤ b ∧ b ≤ g 87 0 - 1
  · have hK := ClsK_F hI hR.1.2
    have kI := KI_F hI
    obtain ⟨g1, m1, m2⟩ := m_layNow g hR.h22.1 hR.p29.1
    have mC := m2.modC hI
    have mN := m2.modN hI
    have mC2 := ModC_dcd mC (stF (rg g 0)).1 (mpl (tF (g 87 29)) (stF (rg g 0)) 0) (mpl (tF (g 87 29)) (stF (rg g 0)) 1) (mpl (tF (g 87 29)) (stF (rg g 0)) 2)
    have mS2 := ModS_dcd g1 (tF (g 87 29)) (stF (rg g 0))
    refine Opk.ro hR (vI (aLd (rg g 0) (stF (rg g 0)) b)) (g1 := g) ?_ ?_ (frT.refl g) (m2.S.trans (dcd_S g1 (stF (rg g 0)).1 (mpl (tF (g 87 29)) (stF (rg g 0)) 0) (mpl (tF (g 87 29)) (stF (rg g 0)) 1) (mpl (tF (g 87 29)) (stF (rg g 0)) 2)))
    · rw [bX11_weight_0, c_isBridge hF1, bnd_some]
      show EV 11 qX11_weight 8 _ [vI _] _ = _
      rw [bX11_weight_8, if_neg (b01_pos (by rw [b2]; exact ok)), bX11_weight_11, c_loadOn hF1 hK kI (by rw [rg0]; omega), bnd_some]
      show EV 11 qX11_weight 19 _ [vI _] _ = _
      rw [bX11_weight_19, bX11_weight_28]
    · rw [bX12_weight_0, e_isBridge _ _ _ (by omega) b1, bnd_some]
      show EV 10 qX12_weight 6 _ [vI _] _ = _
      rw [bX12_weight_6, if_neg (b01_pos ok), bX12_weight_14, m1, bnd_some]
      show EV 10 qX12_weight 18 _ [] _ = _
      rw [bX12_weight_18, m_asNow' mN, bnd_some]
      show EV 10 qX12_weight 22 _ [] _ = _
      rw [bX12_weight_22, m_loadOf mC2 mS2 kI (by rw [rg0]; omega), bnd_some]
      exact bX12_weight_27 _ _ _
  · refine Opk.no hR (-2) (by omega) (vI (-2)) ?_ ?_
    · rw [bX11_weight_0, c_isBridge hF1, bnd_some]
      show EV 11 qX11_weight 8 _ [vI _] _ = _
      rw [bX11_weight_8, if_pos (b01_neg (by rw [b2]; exact ok)), bX11_weight_22, c_counted _ _ c7, bnd_some]
      exact bX11_weight_28 _ _ _
    · have k87 : ctH g (-2) 87 = g 87 := ctH_86 (by omega)
      rw [bX12_weight_0, e_isBridge _ _ _ (by omega) (by rw [k87]; exact b1), bnd_some, k87]
      show EV 10 qX12_weight 6 _ [vI _] _ = _
      rw [bX12_weight_6, if_pos (b01_neg ok), bX12_weight_9, e_bad _ (hR.m9 (by omega) _), bnd_some]
      exact bX12_weight_13 _ _ _
/-! a step -/
def shf (g : Hp) (n : Int) : Hp := fun a i => if a = 87 ∧ 37 ≤ i ∧ i < 37 + n then g 87 (i + 4) else g a i
theorem shf_succ (g : Hp) (n : Int) (hn : 0 ≤ n) : up (shf g n) 87 (37 + n) (shf g n 87 (37 + n + 4)) = shf g (n + 1) := by
  funext a i
  unfold up shf
  by_cases ha : a = 87
  · subst ha
    by_cases hi : i = 37 + n
    · subst hi
      rw [if_pos ⟨rfl, rfl⟩, if_neg (by omega), if_pos ⟨rfl, by omega, by omega⟩]
    · rw [if_neg (fun h => hi h.2)]
      by_cases h2 : 37 ≤ i ∧ i < 37 + n
      · rw [if_pos ⟨rfl, h2⟩, if_pos ⟨rfl, by omega⟩]
      · rw [if_neg (fun h => h2 h.2), if_neg (fun h => by omega)]
  · rw [if_neg (fun h => ha h.1), if_neg (fun h => ha h.1), if_neg (fun h => ha h.1)]
/-- room for one more state ahead: sh is 1 where the oldest went -/
def Psh (g h : Hp) (m sh : Int) : Prop := ((g 87 36 = 16 ∧ m = 15 ∧ sh = 1) ∨ (g 87 36 ≠ 16 ∧ m = g 87 36 ∧ sh = 0)) ∧ h 87 36 = m ∧ (∀ i, i < 36 → h 87 i = g 87 i) ∧ (∀ i, 37 ≤ i → i < 37 + 4 * m → h 87 i = g 87 (i + 4 * sh)) ∧ (∀ i, 110 ≤ i → h 87 i = g 87 i) ∧ ∀ a : Nat, a ≠ 87 → h a = g a
theorem m_push (g : Hp) (p to : Int) (h36 : 0 ≤ g 87 36 ∧ g 87 36 ≤ 16) : ∃ h m sh u3, EV 11 qX12_step 45 [vR 86, vI p, vI to, vU, vU] [] g = EV 11 qX12_step 102 [vR 86, vI p, vI to, u3, vU] [] h ∧ Psh g h m sh := by
  rw [bX12_step_45]
  by_cases e : g 87 36 = 16
  · have loop : ∀ (m : Nat) (n : Int), 0 ≤ n → n + m = 60 → EV 11 qX12_step 59 [vR 86, vI p, vI to, vI n, vU] [] (shf g n) = EV 11 qX12_step 91 [vR 86, vI p, vI to, vI 60, vU] [] (shf g 60) := by
      intro m
      induction m with
      | zero =>
        intro n h0 hn
        rw [bX12_step_59, if_pos (by omega), show n = 60 by omega]
      | succ m ih =>
        intro n h0 hn
        rw [bX12_step_59, if_neg (by omega), bX12_step_65 _ _ _ _ (by omega) (by omega) (by omega) (by omega) (by omega) (by omega), shf_succ g n h0]
        exact ih (n + 1) (by omega) (by omega)
    have h0 : g = shf g 0 := by
      funext a i
      unfold shf
      rw [if_neg (by omega)]
    have l := loop 60 0 (by omega) (by omega)
    rw [← h0] at l
    have e36 : shf g 60 87 36 = 16 := by
      unfold shf
      rw [if_neg (by omega)]
      exact e
    refine ⟨up (shf g 60) 87 36 15, 15, 1, vI 60, ?_, Or.inl ⟨e, rfl, rfl⟩, up_eq, fun i hi => ?_, fun i i0 i1 => ?_, fun i hi => ?_, fun a ha => ?_⟩
    · rw [if_pos e, bX12_step_57, l, bX12_step_91 _ _ _ _ (by omega), e36]
      rfl
    · rw [up_nei (by omega)]
      unfold shf
      rw [if_neg (by omega)]
    · rw [up_nei (by omega)]
      unfold shf
      rw [if_pos ⟨rfl, by omega, by omega⟩]
      rfl
    · rw [up_nei (by omega)]
      unfold shf
      rw [if_neg (by omega)]
    · funext i
      rw [up_ne ha]
      unfold shf
      rw [if_neg (fun z => ha z.1)]
  · refine ⟨g, g 87 36, 0, vU, by rw [if_neg e], Or.inr ⟨e, rfl, rfl⟩, rfl, fun _ _ => rfl, fun i _ _ => by rw [Int.mul_zero, Int.add_zero], fun _ _ => rfl, fun _ _ => rfl⟩
/-- a state more ahead -/
def Pst (g h : Hp) (m sh : Int) : Prop := (0 ≤ m ∧ m < 16) ∧ ((g 87 36 = 16 ∧ m = 15 ∧ sh = 1) ∨ (g 87 36 ≠ 16 ∧ m = g 87 36 ∧ sh = 0)) ∧ h 87 36 = m ∧ (∀ i, i < 36 → h 87 i = g 87 i) ∧ (∀ i, 37 ≤ i → i < 37 + 4 * m → h 87 i = g 87 (i + 4 * sh)) ∧ h 87 (37 + 4 * m) = g 87 21 ∧ (∀ q, 0 ≤ q → q < 3 → h 87 (38 + 4 * m + q) = g 87 (33 + q)) ∧ (∀ i, 110 ≤ i → h 87 i = g 87 i) ∧ ∀ a : Nat, a ≠ 87 → h a = g a
theorem m_store (g : Hp) (p to : Int) (h36 : 0 ≤ g 87 36 ∧ g 87 36 ≤ 16) : ∃ h m sh u3 u4, EV 11 qX12_step 45 [vR 86, vI p, vI to, vU, vU] [] g = EV 11 qX12_step 164 [vR 86, vI p, vI to, vI u3, vI u4] [] h ∧ Pst g h m sh := by
  obtain ⟨h, m, sh, u3, a1, a2, a3, a4, a5, a6, a7⟩ := m_push g p to h36
  have hm : 0 ≤ m ∧ m < 16 := by omega
  have it : ∀ (x : Hp) (k q : Int), 0 ≤ q → q < 3 → 0 ≤ k → k < 200 → EV 11 qX12_step 131 [vR 86, vI p, vI to, vI k, vI q] [] x = EV 11 qX12_step 131 [vR 86, vI p, vI to, vI k, vI (q + 1)] [] (up x 87 (k + 1 + q) (x 87 (33 + q))) := fun x k q q0 q1 k0 k1 => by
    rw [bX12_step_131, if_neg (by omega), bX12_step_137 _ _ _ _ _ (by omega) (by omega) (by omega) (by omega) (by omega) (by omega)]
  refine ⟨up (up (up (up h 87 (37 + 4 * m) (g 87 21)) 87 (37 + 4 * m + 1 + 0) (g 87 (33 + 0))) 87 (37 + 4 * m + 1 + 1) (g 87 (33 + 1))) 87 (37 + 4 * m + 1 + 2) (g 87 (33 + 2)), m, sh, 37 + 4 * m, 3, ?_, hm, a2, ?_, fun i hi => ?_, fun i i0 i1 => ?_, ?_, fun q q0 q1 => ?_, fun i hi => ?_, fun a ha => ?_⟩
  · rw [a1, bX12_step_102 _ _ _ _ (by omega) (by omega) (by omega), a3, a4 21 (by omega), it _ _ _ (by omega) (by omega) (by omega) (by omega), up_nei (by omega), a4 (33 + 0) (by omega), show (0 : Int) + 1 = 1 from rfl, it _ _ _ (by omega) (by omega) (by omega) (by omega), up_nei (by omega), up_nei (by omega), a4 (33 + 1) (by omega), show (1 : Int) + 1 = 2 from rfl, it _ _ _ (by omega) (by omega) (by omega) (by omega), up_nei (by omega), up_nei (by omega), up_nei (by omega), a4 (33 + 2) (by omega), bX12_step_131, if_pos (by omega)]
    rfl
  · rw [up_nei (by omega), up_nei (by omega), up_nei (by omega), up_nei (by omega), a3]
  · rw [up_nei (by omega), up_nei (by omega), up_nei (by omega), up_nei (by omega), a4 i hi]
  · rw [up_nei (by omega), up_nei (by omega), up_nei (by omega), up_nei (by omega), a5 i i0 i1]
  · rw [up_nei (by omega), up_nei (by omega), up_nei (by omega), up_eq]
  · rcases (by omega : q = 0 ∨ q = 1 ∨ q = 2) with rfl | rfl | rfl
    · rw [up_nei (by omega), up_nei (by omega), show 38 + 4 * m + 0 = 37 + 4 * m + 1 + 0 by omega, up_eq]
    · rw [up_nei (by omega), show 38 + 4 * m + 1 = 37 + 4 * m + 1 + 1 by omega, up_eq]
    · rw [show 38 + 4 * m + 2 = 37 + 4 * m + 1 + 2 by omega, up_eq]
  · rw [up_nei (by omega), up_nei (by omega), up_nei (by omega), up_nei (by omega), a6 i hi]
  · funext i
    rw [up_ne ha, up_ne ha, up_ne ha, up_ne ha, a7 a ha]
/-- the class: one more ahead -/
theorem c_push {f : Nat} (hF : isFort f) (g : Hp) (x : Int) (h36 : 0 ≤ g (f + 17) 1 ∧ g (f + 17) 1 ≤ 16) (m sh : Int) (hm : (g (f + 17) 1 = 16 ∧ m = 15 ∧ sh = 1) ∨ (g (f + 17) 1 ≠ 16 ∧ m = g (f + 17) 1 ∧ sh = 0)) : ∃ g', EV 8 qX6_push 0 [vR (f + 17), vI x] [] g = some (none, g') ∧ g' (f + 17) 1 = m + 1 ∧ (∀ s, 0 ≤ s → s < m → g' (f + 18) s = g (f + 18) (s + sh)) ∧ g' (f + 18) m = x ∧ ∀ a : Nat, a ≠ f + 17 → a ≠ f + 18 → g' a = g a := by
  rw [bX6_push_0 hF]
  by_cases e : g (f + 17) 1 = 16
  · have e1 : m = 15 := by omega
    have e2 : sh = 1 := by omega
    subst e1
    subst e2
    have q : up (cpy g (f + 18) 1 (f + 18) 0 15) (f + 17) 1 (g (f + 17) 1 - 1) (f + 17) 1 = 15 := by rw [up_eq]; omega
    rw [if_pos e, bX6_push_9 hF _ _ (by omega), bX6_push_34 hF _ _ (by rw [q]; omega) (by rw [q]; omega), q]
    refine ⟨_, rfl, up_eq, fun s s0 s1 => ?_, ?_, fun a a1 a2 => ?_⟩
    · rw [up_ne (by omega), up_nei (by omega), up_ne (by omega)]
      unfold cpy
      rw [if_pos ⟨rfl, by omega, by omega⟩]
      congr 1
      omega
    · rw [up_ne (by omega), up_eq]
    · funext i
      rw [up_ne a1, up_ne a2, up_ne a1, cpy_ne a2]
  · have e1 : m = g (f + 17) 1 := by omega
    have e2 : sh = 0 := by omega
    subst e1
    subst e2
    rw [if_neg e, bX6_push_34 hF _ _ (by omega) (by omega)]
    refine ⟨_, rfl, up_eq, fun s s0 s1 => ?_, ?_, fun a a1 a2 => ?_⟩
    · rw [up_ne (by omega), up_nei (by omega), Int.add_zero]
    · rw [up_ne (by omega), up_eq]
    · funext i
      rw [up_ne a1, up_ne a2]
