/-! a step, on -/
theorem Opk.no2 {g g' : Hp} {n : Int} {C M : Hp → Option (Option SV × Hp)} (h : Rel g n) (x : Int) (hx : x = -2 ∨ x = -3 ∨ x = -4) (v : SV) (hC : C g = some (some v, ctH g x)) (hM : M (ctH g x) = some (some v, metH g' x)) (hf : frS (ctH g x) g') (hv : ∃ y, v = vI y := by exact ⟨_, rfl⟩) : Opk g n C M := by
  obtain ⟨y, rfl⟩ := hv
  have hc := h.cnt x hx
  have f2 : frS (metH (ctH g x) x) (metH g' x) := by
    have e90 := hf.1 90 (by omega) (by omega)
    unfold metH
    rw [if_pos hx, if_pos hx, e90]
    refine ⟨fun a a1 a2 => ?_, by rw [up_ne (by omega), up_ne (by omega)]; exact hf.2⟩
    funext i
    by_cases e : a = 90
    · subst e
      by_cases ei : i = -2 - x
      · rw [ei, up_eq, up_eq]
      · rw [up_nei ei, up_nei ei, e90]
    · rw [up_ne e, up_ne e, hf.1 a a1 a2]
  exact ⟨y, ctH g x, metH g' x, hC, hM, hc.1.ro (Int.le_refl _) (frT.refl _) f2, by rw [frT_220 (frT.refl _) f2]; exact hc.2⟩
theorem ModC_87 {g h : Hp} {κ : Int → Int} {t : Int} (hC : ModC g κ t) (hI : KI κ) (h1 : ∀ i, i < 36 → h 87 i = g 87 i) (h2 : ∀ a : Nat, a ≠ 87 → h a = g a) : ModC h κ t := by
  obtain ⟨c0, cb, c22, cc, c29, c10, ccn, cpp⟩ := hC
  have i0 := hI.1
  unfold ModC
  rw [h1 0 (by omega), h1 29 (by omega), h2 86 (by omega), h2 91 (by omega), h2 92 (by omega), h2 93 (by omega), h2 94 (by omega)]
  refine ⟨c0, fun k k0 k1 => ?_, c22, cc, c29, c10, ccn, fun p p0 p1 pd => ?_⟩
  · rw [h1 (1 + k) (by omega), h1 (6 + k) (by omega), h1 (11 + k) (by omega)]
    exact cb k k0 k1
  · rw [h1 (30 + p) (by omega)]
    exact cpp p p0 p1 pd
theorem ModS_87 {g h : Hp} {t : Int} {s : St} (hS : ModS g t s) (h2 : ∀ a : Nat, a ≠ 87 → h a = g a) : ModS h t s := by
  unfold ModS at *
  rw [h2 86 (by omega), h2 95 (by omega)]
  exact hS
theorem ClsK.keep2 {g g' : Hp} {f : Nat} {κ : Int → Int} {s : St} (h : ClsK g f κ s) (hk : ∀ a : Nat, f ≤ a → a ≤ f + 16 → g' a = g a) : ClsK g' f κ s := by
  unfold ClsK at *
  rw [hk f (by omega) (by omega), hk (f + 8) (by omega) (by omega), hk (f + 9) (by omega) (by omega), hk (f + 10) (by omega) (by omega), hk (f + 11) (by omega) (by omega), hk (f + 12) (by omega) (by omega), hk (f + 13) (by omega) (by omega), hk (f + 14) (by omega) (by omega), hk (f + 15) (by omega) (by omega), hk (f + 16) (by omega) (by omega)]
  exact h
theorem pk3_stF (φ : Int → Int) : pk3 (φ 29) (stF φ).1 (stF φ).2.1 (stF φ).2.2.1 (stF φ).2.2.2 = pk3 (φ 29) (φ 21) (φ 33) (φ 34) (φ 35) := by
  unfold pk3 stF
  by_cases a : 0 < φ 29 <;> by_cases b : 1 < φ 29 <;> by_cases c : 2 < φ 29 <;> simp [a, b, c]
/-- φ becomes ψ by a step -/
def StpF (φ ψ : Int → Int) (p to ly m sh : Int) : Prop := (0 ≤ m ∧ m < 16) ∧ ((φ 36 = 16 ∧ m = 15 ∧ sh = 1) ∨ (φ 36 ≠ 16 ∧ m = φ 36 ∧ sh = 0)) ∧ (∀ j, j < 33 → j ≠ 21 → ψ j = φ j) ∧ ψ 21 = ly ∧ (∀ q, 0 ≤ q → q < 3 → ψ (33 + q) = if q = p then to else φ (33 + q)) ∧ ψ 36 = m + 1 ∧ (∀ i, 37 ≤ i → i < 37 + 4 * m → ψ i = φ (i + 4 * sh)) ∧ ψ (37 + 4 * m) = φ 21 ∧ ∀ q, 0 ≤ q → q < 3 → ψ (38 + 4 * m + q) = φ (33 + q)
theorem FI_StpF {φ ψ : Int → Int} {p to ly m sh : Int} (hI : FI φ) (h : StpF φ ψ p to ly m sh) (hly : 0 ≤ ly ∧ ly < pw2 (φ 0)) (hto : 0 ≤ to ∧ to < 5 + φ 0) : FI ψ := by
  obtain ⟨s1, s2, s3, s4, s5, s6, s7, s8, s9⟩ := h
  obtain ⟨h0, hbb, hl, hc, hch, hch2, hp, hpp, hs, hss⟩ := hI
  unfold FI
  rw [s3 0 (by omega) (by omega), s3 22 (by omega) (by omega), s3 23 (by omega) (by omega), s3 24 (by omega) (by omega), s3 25 (by omega) (by omega), s3 26 (by omega) (by omega), s3 29 (by omega) (by omega), s4, s6]
  refine ⟨h0, fun k k0 k1 => ?_, hly, hc, fun c c0 c1 => ?_, hch2, hp, fun q q0 q1 => ?_, by omega, fun s k0 k1 => ?_⟩
  · rw [s3 (1 + k) (by omega) (by omega), s3 (6 + k) (by omega) (by omega), s3 (11 + k) (by omega) (by omega), s3 (16 + k) (by omega) (by omega)]
    exact hbb k k0 k1
  · rw [s3 (23 + c) (by omega) (by omega), s3 (25 + c) (by omega) (by omega), s3 (27 + c) (by omega) (by omega)]
    exact hch c c0 c1
  · rw [s3 (30 + q) (by omega) (by omega), s5 q q0 (by omega)]
    have := hpp q q0 q1
    refine ⟨this.1, ?_⟩
    split
    · exact hto
    · exact this.2
  · by_cases e : s = m
    · subst e
      rw [s8]
      refine ⟨hl, fun q q0 q1 => ?_⟩
      rw [s9 q q0 (by omega)]
      exact (hpp q q0 q1).2
    · have b := hss (s + sh) (by omega) (by omega)
      refine ⟨?_, fun q q0 q1 => ?_⟩
      · rw [s7 (37 + 4 * s) (by omega) (by omega), show 37 + 4 * s + 4 * sh = 37 + 4 * (s + sh) by omega]
        exact b.1
      · rw [s7 (38 + 4 * s + q) (by omega) (by omega), show 38 + 4 * s + q + 4 * sh = 38 + 4 * (s + sh) + q by omega]
        exact b.2 q q0 q1
theorem ClsF_StpF {g gb : Hp} {φ ψ : Int → Int} {p to ly m sh : Int} (hI : FI φ) (hC : ClsF g 1 φ) (h : StpF φ ψ p to ly m sh) (e18 : gb 18 1 = m + 1) (e19 : ∀ s, 0 ≤ s → s < m → gb 19 s = g 19 (s + sh)) (e19m : gb 19 m = pk3 (φ 29) (φ 21) (φ 33) (φ 34) (φ 35)) (e17 : ∀ q, gb 17 q = if q = p then to else g 17 q) (e6 : gb 1 6 = ly) (e1 : ∀ i, i ≠ 6 → gb 1 i = g 1 i) (eo : ∀ a : Nat, 9 ≤ a → a ≤ 16 → gb a = g a) : ClsF gb 1 ψ := by
  obtain ⟨s1, s2, s3, s4, s5, s6, s7, s8, s9⟩ := h
  obtain ⟨h0, hbb, hl, hc, hch, hch2, hp, hpp, hs, hss⟩ := hI
  obtain ⟨c0, c1, c2, c3, c4, c5, c6, c7, c8⟩ := hC
  unfold ClsF
  rw [s3 0 (by omega) (by omega), s3 22 (by omega) (by omega), s3 29 (by omega) (by omega), s4, s6, e1 1 (by omega), e1 7 (by omega), e1 11 (by omega)]
  refine ⟨c0, fun k k0 k1 => ?_, e6, c3, fun c k0 k1 => ?_, c5, fun q q0 q1 => ?_, e18, fun s k0 k1 => ?_⟩
  · rw [s3 (1 + k) (by omega) (by omega), s3 (6 + k) (by omega) (by omega), s3 (11 + k) (by omega) (by omega), s3 (16 + k) (by omega) (by omega), eo (1 + 8) (by omega) (by omega), eo (1 + 9) (by omega) (by omega), eo (1 + 10) (by omega) (by omega), eo (1 + 11) (by omega) (by omega)]
    exact c1 k k0 k1
  · rw [s3 (23 + c) (by omega) (by omega), s3 (25 + c) (by omega) (by omega), s3 (27 + c) (by omega) (by omega), eo (1 + 12) (by omega) (by omega), eo (1 + 13) (by omega) (by omega), eo (1 + 14) (by omega) (by omega)]
    exact c4 c k0 k1
  · have z := c6 q q0 q1
    have z2 : g 17 q = φ (33 + q) := z.2
    rw [s3 (30 + q) (by omega) (by omega), s5 q q0 (by omega), eo (1 + 15) (by omega) (by omega)]
    refine ⟨z.1, ?_⟩
    show gb 17 q = _
    rw [e17, z2]
  · show gb 19 s = _
    by_cases e : s = m
    · subst e
      have t0 := s9 0 (by omega) (by omega)
      have t1 := s9 1 (by omega) (by omega)
      have t2 := s9 2 (by omega) (by omega)
      rw [show 38 + 4 * s + 0 = 38 + 4 * s by omega, show (33 : Int) + 0 = 33 from rfl] at t0
      rw [show 38 + 4 * s + 1 = 39 + 4 * s by omega, show (33 : Int) + 1 = 34 from rfl] at t1
      rw [show 38 + 4 * s + 2 = 40 + 4 * s by omega, show (33 : Int) + 2 = 35 from rfl] at t2
      rw [e19m, s8, t0, t1, t2]
    · have b := c8 (s + sh) (by omega) (by omega)
      rw [e19 s k0 (by omega), s7 (37 + 4 * s) (by omega) (by omega), s7 (38 + 4 * s) (by omega) (by omega), s7 (39 + 4 * s) (by omega) (by omega), s7 (40 + 4 * s) (by omega) (by omega), show 37 + 4 * s + 4 * sh = 37 + 4 * (s + sh) by omega, show 38 + 4 * s + 4 * sh = 38 + 4 * (s + sh) by omega, show 39 + 4 * s + 4 * sh = 39 + 4 * (s + sh) by omega, show 40 + 4 * s + 4 * sh = 40 + 4 * (s + sh) by omega]
      exact b
theorem Rel.s36 {g : Hp} {n : Int} (h : Rel g n) : (0 ≤ g 87 36 ∧ g 87 36 ≤ 16) ∧ g 18 1 = g 87 36 := by
  have a := h.1.1.2.2.2.2.2.2.2.2.1
  have b := h.1.2.2.2.2.2.2.2.2.1
  rw [rg0] at a b
  exact ⟨a, b⟩
theorem o_step {g : Hp} {n : Int} (hR : Rel g n) (hn : n < 1000) (p to : Int) : Opk g n (EV 12 qX11_step 0 [vR 0, vI p, vI to] []) (EV 11 qX12_step 0 [vR 86, vI p, vI to, vU, vU] []) := by
  have c7 := hR.c7 (by omega)
  obtain ⟨b1, b2, b3, b4⟩ := hR.b0
  obtain ⟨p1, p2, p3⟩ := hR.p29
  obtain ⟨s1, s2⟩ := hR.s36
  have h22 := hR.h22.1
  have hI := hR.1.1
  have kI := KI_F hI
  have sV := SVd_F hI
  by_cases ok : (0 ≤ p ∧ p ≤ g 87 29 - 1) ∧ (0 ≤ to ∧ to ≤ 4 + g 87 0)
  · have hK := ClsK_F hI hR.1.2
    have hpq : 0 ≤ p ∧ p < rg g 0 29 := by rw [rg0]; omega
    have hqa := (sV.2 p (by omega) (by omega)).1
    have hto : 0 ≤ to ∧ to < 5 + rg g 0 0 := by rw [rg0]; omega
    have cg := c_canGo hF1 hK kI hpq hto hqa
    have dp : dnB (tF (g 87 29)) p := (tF_dn p1 (by omega)).mpr (by omega)
    have rp : rk (tF (g 87 29)) p = p := tF_rk p1 (by omega) (by omega)
    have toM : ∀ g1 : Hp, (∀ a : Nat, 86 ≤ a → g1 a = g a) → ∃ g3, Laid g1 g3 ∧ ModC (dcd g3 (stF (rg g 0)).1 (mpl (tF (g 87 29)) (stF (rg g 0)) 0) (mpl (tF (g 87 29)) (stF (rg g 0)) 1) (mpl (tF (g 87 29)) (stF (rg g 0)) 2)) (rg g 0) (tF (g 87 29)) ∧ EV 11 qX12_step 0 [vR 86, vI p, vI to, vU, vU] [] g1 = EV 11 qX12_step 35 [vR 86, vI p, vI to, vU, vU] [vI (b01 (aCan (rg g 0) (stF (rg g 0)) p to))] (dcd g3 (stF (rg g 0)).1 (mpl (tF (g 87 29)) (stF (rg g 0)) 0) (mpl (tF (g 87 29)) (stF (rg g 0)) 1) (mpl (tF (g 87 29)) (stF (rg g 0)) 2)) := fun g1 hg1 => by
      have e87 : g1 87 = g 87 := hg1 87 (by omega)
      have erg : rg g1 0 = rg g 0 := by unfold rg; rw [e87]
      obtain ⟨g3, m1, m2⟩ := m_layNow g1 (by rw [e87]; exact h22) (by rw [e87]; exact p1)
      have mC := m2.modC (by rw [erg]; exact hI)
      have mN := m2.modN (by rw [erg]; exact hI)
      rw [erg, e87] at mC mN
      have mC2 := ModC_dcd mC (stF (rg g 0)).1 (mpl (tF (g 87 29)) (stF (rg g 0)) 0) (mpl (tF (g 87 29)) (stF (rg g 0)) 1) (mpl (tF (g 87 29)) (stF (rg g 0)) 2)
      have mS2 := ModS_dcd g3 (tF (g 87 29)) (stF (rg g 0))
      have ms := m_mayStep mC2 mS2 kI (p := p) (to := to) (by omega) dp (by omega) (by rw [rp]; exact hqa)
      rw [rp] at ms
      refine ⟨g3, m2, mC2, ?_⟩
      rw [bX12_step_0, e_isOne _ _ (by rw [e87]; exact p1), bnd_some, e87]
      show EV 11 qX12_step 5 _ [vI _] _ = _
      rw [bX12_step_5, if_neg (b01_pos ok.1), bX12_step_8, e_isPlace _ _ (by rw [e87]; exact b1), bnd_some, e87]
      show EV 11 qX12_step 13 _ [vI _] _ = _
      rw [bX12_step_13, if_neg (b01_pos ok.2), bX12_step_21, m1, bnd_some]
      show EV 11 qX12_step 25 _ [] _ = _
      rw [bX12_step_25, m_asNow' mN, bnd_some]
      show EV 11 qX12_step 29 _ [] _ = _
      rw [bX12_step_29, ms, bnd_some]
      rfl
    have toC : EV 12 qX11_step 0 [vR 0, vI p, vI to] [] g = EV 12 qX11_step 38 [vR 0, vI p, vI to] [vI (b01 (aCan (rg g 0) (stF (rg g 0)) p to))] g := by
      rw [bX11_step_0, c_isPerson hF1, bnd_some]
      show EV 12 qX11_step 8 _ [vI _] _ = _
      rw [bX11_step_8, if_neg (b01_pos (by rw [p2]; exact ok.1)), bX11_step_11, c_isPlace hF1 _ _ (by rw [b2]; exact b1), bnd_some]
      show EV 12 qX11_step 19 _ [vI _] _ = _
      rw [bX11_step_19, if_neg (b01_pos (by rw [b2]; exact ok.2)), bX11_step_29, cg, bnd_some]
      rfl
    by_cases can : aCan (rg g 0) (stF (rg g 0)) p to
    · obtain ⟨m, sh, hms⟩ : ∃ m sh : Int, (g 87 36 = 16 ∧ m = 15 ∧ sh = 1) ∨ (g 87 36 ≠ 16 ∧ m = g 87 36 ∧ sh = 0) := by
        by_cases e : g 87 36 = 16
        · exact ⟨15, 1, Or.inl ⟨e, rfl, rfl⟩⟩
        · exact ⟨g 87 36, 0, Or.inr ⟨e, rfl, rfl⟩⟩
      have hpk := c_packed hF1 hK kI (SVd_ly kI.1 sV) (fun i i0 i1 => by have := (sV.2 i i0 (by have := kI.2.2.2.2.2.1; omega)).1; have := kI.1; omega)
      rw [pk3_stF] at hpk
      obtain ⟨ga, a1, a2, a3, a4, a5⟩ := c_push hF1 g (pk3 (rg g 0 29) (rg g 0 21) (rg g 0 33) (rg g 0 34) (rg g 0 35)) (by show 0 ≤ g 18 1 ∧ g 18 1 ≤ 16; omega) m sh (by show (g 18 1 = 16 ∧ _) ∨ (g 18 1 ≠ 16 ∧ m = g 18 1 ∧ _); rw [s2]; exact hms)
      have hKa : ClsK ga 1 (rg g 0) (stF (rg g 0)) := hK.keep2 (fun a x1 x2 => a5 a (by omega) (by omega))
      have hgo := c_go hF1 hKa kI (p := p) (to := to) (by omega)
      generalize hly : (aGo (rg g 0) (stF (rg g 0)) p to).1 = ly at hgo
      have hRch := Rch_go kI (SVd_ly kI.1 sV) (x := (stF (rg g 0)).1) ⟨sV, nine_self _ _⟩ hpq hto.1 can
      have hlyR : 0 ≤ ly ∧ ly < pw2 (rg g 0 0) := by rw [← hly]; exact hRch.1.1
      generalize hgb : up (up ga (1 + 16) p to) 1 6 ly = gb at hgo
      have gbo : ∀ a : Nat, a ≠ 1 → a ≠ 17 → a ≠ 18 → a ≠ 19 → gb a = g a := fun a x1 x2 x3 x4 => by
        subst hgb
        funext i
        rw [up_ne x1, up_ne (by omega), a5 a (by omega) (by omega)]
      obtain ⟨g3, l1, mC2, mE⟩ := toM gb (fun a ha => gbo a (by omega) (by omega) (by omega) (by omega))
      have mS2 := ModS_dcd g3 (tF (g 87 29)) (stF (rg g 0))
      generalize hg4 : dcd g3 (stF (rg g 0)).1 (mpl (tF (g 87 29)) (stF (rg g 0)) 0) (mpl (tF (g 87 29)) (stF (rg g 0)) 1) (mpl (tF (g 87 29)) (stF (rg g 0)) 2) = g4 at *
      have f4 : frS gb g4 := by
        subst hg4
        exact l1.S.trans (dcd_S g3 _ _ _ _)
      have e87 : g4 87 = g 87 := by rw [f4.1 87 (by omega) (by omega), gbo 87 (by omega) (by omega) (by omega) (by omega)]
      obtain ⟨h5, m', sh', u3, u4, st1, st2⟩ := m_store g4 p to (by rw [e87]; exact s1)
      obtain ⟨r1, r2, r3, r4, r5, r6, r7, r8, r9⟩ := st2
      rw [e87] at r2 r4 r5 r6 r7 r8
      have em : m' = m ∧ sh' = sh := by omega
      obtain ⟨rfl, rfl⟩ := em
      have q1 : ∀ i, i < 36 → up (up h5 87 36 (h5 87 36 + 1)) 95 p to 87 i = up g4 95 p to 87 i := fun i hi => by
        rw [up_ne (by omega), up_nei (by omega), up_ne (by omega), r4 i hi, e87]
      have q2 : ∀ a : Nat, a ≠ 87 → up (up h5 87 36 (h5 87 36 + 1)) 95 p to a = up g4 95 p to a := fun a ha => by
        funext i
        unfold up
        rw [r9 a ha]
        simp [ha]
      have mC5 := ModC_87 (ModC_pl mC2 p to) kI q1 q2
      have mS5' := ModS_pl mS2 (v := to) (p := p) (by omega) dp
      rw [rp] at mS5'
      have mS5 := ModS_87 mS5' q2
      have ht := m_tipAll mC5 mS5 kI
      have elY : aTA (rg g 0) (qs (stF (rg g 0)) p to) = ly := hly
      rw [elY] at ht
      generalize hg6 : up (up (up h5 87 36 (h5 87 36 + 1)) 95 p to) 86 12 ly = g6 at ht
      have g6_12 : g6 86 12 = ly := by subst hg6; exact up_eq
      have g6_87 : ∀ i, g6 87 i = if i = 36 then m' + 1 else h5 87 i := fun i => by
        subst hg6
        rw [up_ne (by omega), up_ne (by omega)]
        by_cases e : i = 36
        · rw [e, up_eq, if_pos rfl, r3]
        · rw [up_nei e, if_neg e]
      generalize hg7 : up (up g6 87 (33 + p) to) 87 21 ly = g7
      have g7_87 : ∀ i, g7 87 i = if i = 21 then ly else if i = 33 + p then to else if i = 36 then m' + 1 else h5 87 i := fun i => by
        subst hg7
        by_cases e : i = 21
        · rw [e, up_eq, if_pos rfl]
        · rw [up_nei e, if_neg e]
          by_cases e2 : i = 33 + p
          · rw [e2, up_eq, if_pos rfl]
          · rw [up_nei e2, if_neg e2, g6_87]
      have g7o : ∀ a : Nat, a ≠ 86 → a ≠ 87 → ¬ (91 ≤ a ∧ a ≤ 101) → g7 a = gb a := fun a x1 x2 x3 => by
        subst hg7
        subst hg6
        funext i
        rw [up_ne x2, up_ne x2, up_ne x1, up_ne (by omega), up_ne x2, r9 a x2, f4.1 a x1 x3]
      have g7_3 : g7 86 3 = g 86 3 := by
        subst hg7
        subst hg6
        rw [up_ne (by omega), up_ne (by omega), up_nei (by omega), up_ne (by omega), up_ne (by omega), r9 86 (by omega), f4.2, gbo 86 (by omega) (by omega) (by omega) (by omega)]
      have gbc : ∀ a : Nat, a ≠ 1 → a ≠ 17 → a ≠ 18 → a ≠ 19 → a ≠ 86 → a ≠ 87 → ¬ (91 ≤ a ∧ a ≤ 101) → g7 a = g a := fun a x1 x2 x3 x4 x5 x6 x7 => by rw [g7o a x5 x6 x7, gbo a x1 x2 x3 x4]
      have hStp : StpF (rg g 0) (rg g7 0) p to ly m' sh' := by
        unfold StpF
        simp only [rg0]
        refine ⟨r1, r2, fun j j0 j1 => ?_, ?_, fun q q0 q1 => ?_, ?_, fun i i0 i1 => ?_, ?_, fun q q0 q1 => ?_⟩
        · rw [g7_87, if_neg j1, if_neg (by omega), if_neg (by omega), r4 j (by omega)]
        · rw [g7_87, if_pos rfl]
        · rw [g7_87, if_neg (by omega)]
          by_cases e : q = p
          · rw [if_pos (by omega), if_pos e]
          · rw [if_neg (by omega), if_neg e, if_neg (by omega), r4 _ (by omega)]
        · rw [g7_87, if_neg (by omega), if_neg (by omega), if_pos rfl]
        · rw [g7_87, if_neg (by omega), if_neg (by omega), if_neg (by omega), r5 i i0 i1]
        · rw [g7_87, if_neg (by omega), if_neg (by omega), if_neg (by omega), r6]
        · rw [g7_87, if_neg (by omega), if_neg (by omega), if_neg (by omega), r7 q q0 q1]
      obtain ⟨ra, rb, rc, rd⟩ := id hR
      refine ⟨ly, gb, g7, ?_, ?_, ⟨⟨FI_StpF hI hStp hlyR hto, ?_⟩, rb.keep (fun a x1 x2 => gbc a (by omega) (by omega) (by omega) (by omega) (by omega) (by omega) (by omega)) (gbc 88 (by omega) (by omega) (by omega) (by omega) (by omega) (by omega) (by omega)) (fun j j0 _ => ?_), rc.keep ?_ (gbc 80 (by omega) (by omega) (by omega) (by omega) (by omega) (by omega) (by omega)) g7_3 (gbc 89 (by omega) (by omega) (by omega) (by omega) (by omega) (by omega) (by omega)), rd.keep (by omega) (fun j _ _ => ?_) (gbc 90 (by omega) (by omega) (by omega) (by omega) (by omega) (by omega) (by omega))⟩, gbc 220 (by omega) (by omega) (by omega) (by omega) (by omega) (by omega) (by omega)⟩
      · rw [toC, bX11_step_38, if_neg (b01_pos can), bX11_step_48, hpk, bnd_some]
        show EV 12 qX11_step 62 _ [vI _, vR 18] _ = _
        rw [bX11_step_62]
        refine (congrArg (fun z => bnd z _) a1).trans ?_
        rw [bnd_some]
        show EV 12 qX11_step 65 _ [] _ = _
        rw [bX11_step_65, hgo, bnd_some]
        show EV 12 qX11_step 74 _ [] _ = _
        rw [bX11_step_74]
        subst hgb
        rw [up_eq]
      · rw [mE, bX12_step_35, if_neg (b01_pos can), st1, bX12_step_164 _ _ _ _ _ (by omega) (by omega), ht, bnd_some]
        show EV 11 qX12_step 186 _ [] _ = _
        rw [bX12_step_186 _ _ _ _ _ (by omega) (by omega), g6_12, hg7]
      · refine ClsF_StpF hI hR.1.2 hStp ?_ (fun s k0 k1 => ?_) ?_ (fun q => ?_) ?_ (fun i hi => ?_) (fun a x1 x2 => gbc a (by omega) (by omega) (by omega) (by omega) (by omega) (by omega) (by omega))
        · rw [g7o 18 (by omega) (by omega) (by omega)]
          subst hgb
          rw [up_ne (by omega), up_ne (by omega)]
          exact a2
        · rw [g7o 19 (by omega) (by omega) (by omega)]
          subst hgb
          rw [up_ne (by omega), up_ne (by omega)]
          exact a3 s k0 k1
        · rw [g7o 19 (by omega) (by omega) (by omega)]
          subst hgb
          rw [up_ne (by omega), up_ne (by omega)]
          exact a4
        · rw [g7o 17 (by omega) (by omega) (by omega)]
          subst hgb
          rw [up_ne (by omega)]
          by_cases e : q = p
          · rw [e, if_pos rfl]
            exact up_eq
          · rw [if_neg e]
            have : up ga (1 + 16) p to 17 q = ga 17 q := up_nei e
            rw [this, a5 17 (by omega) (by omega)]
        · rw [g7o 1 (by omega) (by omega) (by omega)]
          subst hgb
          exact up_eq
        · rw [g7o 1 (by omega) (by omega) (by omega)]
          subst hgb
          rw [up_nei hi, up_ne (by omega), a5 1 (by omega) (by omega)]
      · rw [g7_87, if_neg (by omega), if_neg (by omega), if_neg (by omega), r8 j j0]
      · rw [gbc 79 (by omega) (by omega) (by omega) (by omega) (by omega) (by omega) (by omega)]
      · rw [gbc 0 (by omega) (by omega) (by omega) (by omega) (by omega) (by omega) (by omega)]
    · obtain ⟨g3, l1, mC2, mE⟩ := toM (ctH g (-3)) (fun a ha => ctH_86 (by omega))
      generalize hg4 : dcd g3 (stF (rg g 0)).1 (mpl (tF (g 87 29)) (stF (rg g 0)) 0) (mpl (tF (g 87 29)) (stF (rg g 0)) 1) (mpl (tF (g 87 29)) (stF (rg g 0)) 2) = g4 at *
      have f4 : frS (ctH g (-3)) g4 := by
        subst hg4
        exact l1.S.trans (dcd_S g3 _ _ _ _)
      refine Opk.no2 hR (-3) (by omega) (vI (-3)) (g' := g4) ?_ ?_ f4
      · rw [toC, bX11_step_38, if_pos (b01_neg can), bX11_step_41, c_counted _ _ c7, bnd_some]
        exact bX11_step_47 _ _ _ _
      · rw [mE, bX12_step_35, if_pos (b01_neg can), bX12_step_38, e_met _ _ (fun k k0 k1 => by rw [f4.1 90 (by omega) (by omega)]; exact hR.m9 (by omega) _ k k0 k1), bnd_some]
        exact bX12_step_44 _ _ _ _
  · have k87 : ctH g (-2) 87 = g 87 := ctH_86 (by omega)
    refine Opk.no hR (-2) (by omega) (vI (-2)) ?_ ?_
    · have fin : EV 12 qX11_step 22 [vR 0, vI p, vI to] [] g = some (some (vI (-2)), ctH g (-2)) := by
        rw [bX11_step_22, c_counted _ _ c7, bnd_some]
        exact bX11_step_28 _ _ _ _
      rw [bX11_step_0, c_isPerson hF1, bnd_some]
      show EV 12 qX11_step 8 _ [vI _] _ = _
      rw [bX11_step_8]
      by_cases o1 : 0 ≤ p ∧ p ≤ g 87 29 - 1
      · rw [if_neg (b01_pos (by rw [p2]; exact o1)), bX11_step_11, c_isPlace hF1 _ _ (by rw [b2]; exact b1), bnd_some]
        show EV 12 qX11_step 19 _ [vI _] _ = _
        rw [bX11_step_19, if_pos (b01_neg (by rw [b2]; exact fun z => ok ⟨o1, z⟩)), fin]
      · rw [if_pos (b01_neg (by rw [p2]; exact o1)), fin]
    · have fin : EV 11 qX12_step 16 [vR 86, vI p, vI to, vU, vU] [] (ctH g (-2)) = some (some (vI (-2)), metH (ctH g (-2)) (-2)) := by
        rw [bX12_step_16, e_bad _ (hR.m9 (by omega) _), bnd_some]
        exact bX12_step_20 _ _ _ _
      rw [bX12_step_0, e_isOne _ _ (by rw [k87]; exact p1), bnd_some, k87]
      show EV 11 qX12_step 5 _ [vI _] _ = _
      rw [bX12_step_5]
      by_cases o1 : 0 ≤ p ∧ p ≤ g 87 29 - 1
      · rw [if_neg (b01_pos o1), bX12_step_8, e_isPlace _ _ (by rw [k87]; exact b1), bnd_some, k87]
        show EV 11 qX12_step 13 _ [vI _] _ = _
        rw [bX12_step_13, if_pos (b01_neg (fun z => ok ⟨o1, z⟩)), fin]
      · rw [if_pos (b01_neg o1), fin]
