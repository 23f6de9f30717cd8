/-! tie -/
theorem not2 {φ : Int → Int} (hI : FI φ) {a b : Int} (ha : 0 ≤ a ∧ a < φ 0) (hb : 0 ≤ b ∧ b < φ 0) (hab : a ≠ b) (ta : tied01 φ a = 0) (tb : tied01 φ b = 0) : φ 22 ≠ 2 := by
  intro e
  obtain ⟨h0, hbb, hl, hc, hch, hch2, hp, hpp, hs, hss⟩ := hI
  have t1 := tied01_0 ta
  have t2 := tied01_0 tb
  have x1 := t1.1 (by omega)
  have x2 := t1.2 (by omega)
  have y1 := t2.1 (by omega)
  have y2 := t2.2 (by omega)
  have d := hch2 e
  have c0 := hch 0 (by omega) (by omega)
  have c1 := hch 1 (by omega) (by omega)
  rw [show (23 : Int) + 0 = 23 from rfl, show (25 : Int) + 0 = 25 from rfl] at c0
  rw [show (23 : Int) + 1 = 24 from rfl, show (25 : Int) + 1 = 26 from rfl] at c1
  have hn : ([a, b, φ 23, φ 25, φ 24, φ 26] : List Int).Nodup := by
    simp only [List.nodup_cons, List.mem_cons, List.not_mem_nil, or_false, not_or, List.nodup_nil, and_true]
    exact ⟨⟨hab, x1.1.symm, x1.2.symm, x2.1.symm, x2.2.symm⟩, ⟨y1.1.symm, y1.2.symm, y2.1.symm, y2.2.symm⟩, ⟨c0.2.2.1, d.1, d.2.1⟩, ⟨d.2.2.1, d.2.2.2⟩, c1.2.2.1, fun z => z⟩
  have := nodup_len _ ([0, 1, 2, 3, 4] : List Int) hn (fun z hz => by
    simp only [List.mem_cons, List.not_mem_nil, or_false] at hz ⊢
    omega)
  simp at this
def updT (x : Int × Int) (d lab : Int) : Int × Int := if d < x.1 then (d, lab) else x
noncomputable def DTt (φ : Int → Int) (sm room a b : Int) : Int := if tied01 φ a = 0 ∧ tied01 φ b = 0 then DS (fCh φ a b 0) (stF φ) sm room else 100000
theorem stF_ch {φ : Int → Int} (hn : 0 ≤ φ 22 ∧ φ 22 < 2) (a b v : Int) : stF (fCh φ a b v) = stF φ := stF_eq (fCh_o hn (by omega) (by omega)) (fCh_o hn (by omega) (by omega)) (fCh_o hn (by omega) (by omega)) (fCh_o hn (by omega) (by omega)) (fCh_o hn (by omega) (by omega))
theorem DTt_le {φ : Int → Int} (hI : FI φ) (sm room : Int) {a b : Int} (ha : 0 ≤ a ∧ a < φ 0) (hb : 0 ≤ b ∧ b < φ 0) (hab : a ≠ b) : DTt φ sm room a b = 100000 ∨ (0 ≤ DTt φ sm room a b ∧ DTt φ sm room a b < 9000) := by
  unfold DTt
  by_cases t : tied01 φ a = 0 ∧ tied01 φ b = 0
  · rw [if_pos t]
    have n2 := not2 hI ha hb hab t.1 t.2
    have hc := hI.2.2.2.1
    have hI' := FI_fCh hI n2 (by omega) (by omega) hab (v := 0) (by omega) t.1 t.2
    have hK := KI_F hI'
    have hV := SVd_F hI'
    have := DS_le hK (SVd_ly hK.1 hV) hV sm room
    rw [stF_ch (by omega)] at this
    exact this
  · rw [if_neg t]
    exact Or.inl rfl
theorem updT_ok {x : Int × Int} {d : Int} (h : x.1 = 100000 ∨ (0 ≤ x.1 ∧ x.1 < 9000)) (hd : d = 100000 ∨ (0 ≤ d ∧ d < 9000)) (lab : Int) : (updT x d lab).1 = 100000 ∨ (0 ≤ (updT x d lab).1 ∧ (updT x d lab).1 < 9000) := by
  unfold updT
  split
  · exact hd
  · exact h
theorem c_tie_it {g : Hp} {φ : Int → Int} (hI : FI φ) (hC : ClsF g 1 φ) (sm room a b : Int) (hr : room ≠ -1) (ha : 0 ≤ a ∧ a < φ 0) (hb : 0 ≤ b ∧ b < φ 0) (hab : a ≠ b) (x : Int × Int) (hx : x.1 = 100000 ∨ (0 ≤ x.1 ∧ x.1 < 9000)) (u7 u8 : SV) : ∃ g' v7 v8, EV 15 qX11_tie 56 [vR 0, vI sm, vI room, vI (cl x.1), vI x.2, vI a, vI b, u7, u8] [] g = EV 15 qX11_tie 56 [vR 0, vI sm, vI room, vI (cl (updT x (DTt φ sm room a b) (10 * a + b)).1), vI (updT x (DTt φ sm room a b) (10 * a + b)).2, vI a, vI (b + 1), v7, v8] [] g' ∧ frT g g' := by
  have hc := hI.2.2.2.1
  have h0 := hI.1
  obtain ⟨g1, a1, a2, a3⟩ := c_trial hI hC
  have e11 : g 1 1 = φ 0 := hC.1
  have e1 : g1 20 1 = φ 0 := a2.1
  have e7 : g1 20 7 = φ 22 := a2.2.2.2.1
  have hac := c_addChain_ok hF20 g1 a b 0 (by omega) (by rw [e1]; omega)
  rw [cTied_eq a2, cTied_eq a2, e7] at hac
  have st : ∀ (v : Int) (g2 : Hp), EV 9 qX2_addChain 0 [vR 20, vI a, vI b, vI 0] [] g1 = some (some (vI v), g2) → EV 15 qX11_tie 56 [vR 0, vI sm, vI room, vI (cl x.1), vI x.2, vI a, vI b, u7, u8] [] g = if v < 0 then EV 15 qX11_tie 123 [vR 0, vI sm, vI room, vI (cl x.1), vI x.2, vI a, vI b, vI 0, u8] [] g2 else EV 15 qX11_tie 106 [vR 0, vI sm, vI room, vI (cl x.1), vI x.2, vI a, vI b, vI 1, u8] [] g2 := fun v g2 hv => by
    rw [bX11_tie_56, if_neg (by omega), bX11_tie_68, a1, bnd_some]
    show EV 15 qX11_tie 79 _ [] _ = _
    rw [bX11_tie_79, hv, bnd_some]
    show EV 15 qX11_tie 91 _ [vI _] _ = _
    rw [bX11_tie_91]
    by_cases v0 : v < 0
    · rw [if_pos v0, if_pos v0, bX11_tie_98, bX11_tie_99, if_pos rfl]
    · rw [if_neg v0, if_neg v0, bX11_tie_94, bX11_tie_99, if_neg (by omega)]
  by_cases t : tied01 φ a = 0 ∧ tied01 φ b = 0
  · have n2 := not2 hI ha hb hab t.1 t.2
    have hI' := FI_fCh hI n2 (a := a) (b := b) (v := 0) (by omega) (by omega) hab (by omega) t.1 t.2
    have hK := KI_F hI'
    have hV := SVd_F hI'
    rw [if_pos t.1, if_pos t.2, if_neg n2] at hac
    have hC2 := ClsF_cCh (a := a) (b := b) (v := 0) a2 hI n2
    obtain ⟨r, g3, c1, c2, c3⟩ := c_search hK hV (ClsK_F hI' hC2) sm room x.1 hr hx
    rw [stF_ch (by omega)] at c3
    have f2 : frT g1 (cCh g1 20 a b 0) := fun y y1 y2 => by
      funext i
      unfold cCh
      simp (disch := omega) only [up_ne]
    have eD : DTt φ sm room a b = DS (fCh φ a b 0) (stF φ) sm room := by unfold DTt; rw [if_pos t]
    have hD := DTt_le hI sm room ha hb hab
    rw [← eD] at c3
    refine ⟨g3, vI 1, vI r, ?_, ((frT_of a3).trans f2).trans c2⟩
    rw [st _ _ hac, if_neg (by omega), bX11_tie_106, c1, bnd_some]
    show EV 15 qX11_tie 120 _ [vI _] _ = _
    rw [bX11_tie_120, bX11_tie_124]
    unfold updT
    rcases c3 with ⟨z1, z2, z3⟩ | ⟨z1, z2⟩
    · have e : cl (DTt φ sm room a b) = r := by
        unfold cl
        rw [if_neg (by omega)]
        exact z2.symm
      rw [if_neg z3, bX11_tie_132 _ _ _ _ _ _ _ _ _ (by omega) (by omega), bX11_tie_145 _ _ _ _ _ _ _ _ _ (by omega), if_pos z1, e]
    · rw [if_pos z2, bX11_tie_145 _ _ _ _ _ _ _ _ _ (by omega), if_neg z1]
  · have hac' : EV 9 qX2_addChain 0 [vR 20, vI a, vI b, vI 0] [] g1 = some (some (vI (-3)), g1) := by
      rw [hac]
      by_cases t1 : tied01 φ a = 0
      · rw [if_pos t1, if_neg (fun z => t ⟨t1, z⟩)]
      · rw [if_neg t1]
    have eD : DTt φ sm room a b = 100000 := by unfold DTt; rw [if_neg t]
    refine ⟨g1, vI 0, vI (-1), ?_, frT_of a3⟩
    rw [st _ _ hac', if_pos (by omega), bX11_tie_123, bX11_tie_124, if_pos rfl, bX11_tie_145 _ _ _ _ _ _ _ _ _ (by omega), eD]
    unfold updT
    rw [if_neg (by omega)]
theorem m_tie_it {g : Hp} {φ : Int → Int} (hI : FI φ) (hφ : rg g 0 = φ) (sm room a b : Int) (ha : 0 ≤ a ∧ a < φ 0) (hb : 0 ≤ b ∧ b < φ 0) (hab : a ≠ b) (x : Int × Int) (hx : x.1 = 100000 ∨ (0 ≤ x.1 ∧ x.1 < 9000)) (u7 : SV) : ∃ g' v7, EV 14 qX12_tie 54 [vR 86, vI sm, vI room, vI x.1, vI x.2, vI a, vI b, u7] [] g = EV 14 qX12_tie 54 [vR 86, vI sm, vI room, vI (updT x (DTt φ sm room a b) (10 * a + b)).1, vI (updT x (DTt φ sm room a b) (10 * a + b)).2, vI a, vI (b + 1), v7] [] g' ∧ frS g g' := by
  have hc := hI.2.2.2.1
  have h0 := hI.1
  have hp := hI.2.2.2.2.2.2.1
  have ek : ∀ k, g 87 k = φ k := fun k => by rw [← hφ, rg0]
  have ti := fun y => e_isTied g 0 y (by omega) (by rw [show (0 : Int) + 22 = 22 from rfl, ek]; exact hc)
  rw [hφ] at ti
  have e0 := ek 0
  have st1 : EV 14 qX12_tie 54 [vR 86, vI sm, vI room, vI x.1, vI x.2, vI a, vI b, u7] [] g = if tied01 φ a = 0 then EV 14 qX12_tie 75 [vR 86, vI sm, vI room, vI x.1, vI x.2, vI a, vI b, u7] [] g else EV 14 qX12_tie 140 [vR 86, vI sm, vI room, vI x.1, vI x.2, vI a, vI b, u7] [] g := by
    rw [bX12_tie_54, if_neg (by omega), bX12_tie_65, ti, bnd_some]
    exact bX12_tie_72 _ _ _ _ _ _ _ _ _
  have st2 : EV 14 qX12_tie 75 [vR 86, vI sm, vI room, vI x.1, vI x.2, vI a, vI b, u7] [] g = if tied01 φ b = 0 then EV 14 qX12_tie 85 [vR 86, vI sm, vI room, vI x.1, vI x.2, vI a, vI b, u7] [] g else EV 14 qX12_tie 140 [vR 86, vI sm, vI room, vI x.1, vI x.2, vI a, vI b, u7] [] g := by
    rw [bX12_tie_75, ti, bnd_some]
    exact bX12_tie_82 _ _ _ _ _ _ _ _ _
  by_cases t : tied01 φ a = 0 ∧ tied01 φ b = 0
  · have n2 := not2 hI ha hb hab t.1 t.2
    have hn : 0 ≤ φ 22 ∧ φ 22 < 2 := by omega
    have hI' := FI_fCh hI n2 (a := a) (b := b) (v := 0) (by omega) (by omega) hab (by omega) t.1 t.2
    have hK := KI_F hI'
    have hV := SVd_F hI'
    obtain ⟨g1, l1, l2⟩ := m_layNow g (by rw [ek]; exact hc) (by rw [ek]; exact hp)
    have e6 : g1 86 6 = φ 22 := by rw [l2.2.1, ek]
    have tmE := m_tieMore g1 (φ 22) a b 0 (by omega) e6
    obtain ⟨t1, t2, t3, t4, t5, t6⟩ := tm_e g1 (φ 22) a b 0
    generalize tm g1 (φ 22) a b 0 = g2 at *
    have hL2 : LdB g g2 := by
      obtain ⟨z1, z2, z3⟩ := l2.B
      unfold LdB
      rw [t6 91 (by omega) (by omega) (by omega) (by omega), t6 87 (by omega) (by omega) (by omega) (by omega), t5 10 (by omega)]
      exact ⟨z1, z2, z3⟩
    have mC := ModC_B (ψ := fCh φ a b 0) hL2 hφ hI (fun k hk => fCh_o hn (by omega) (by omega)) (by rw [fCh_22]; exact t4) (fun e e0 e1 => by
      rw [fCh_22] at e1
      rw [t1, t2, t3, fCh_A hn (by omega), fCh_B hn (by omega), fCh_R hn (by omega)]
      by_cases z : e = φ 22
      · rw [if_pos z, if_pos z, if_pos z, if_pos z, if_pos z, if_pos z]
        exact ⟨rfl, rfl, rfl⟩
      · rw [if_neg z, if_neg z, if_neg z, if_neg z, if_neg z, if_neg z]
        have q := l2.2.2.1 e e0 (by rw [ek]; omega)
        rw [ek, ek, ek] at q
        exact q)
    have mN := ModN_B hL2 hφ hI
    rw [← stF_ch hn a b 0] at mN
    have q29 : g2 87 29 = g 87 29 := by rw [hL2.2.2]
    obtain ⟨g3, s1, s2, s3⟩ := m_stepsOf hK hV mC mN (SmR_full (by rw [ek]; exact hp) q29 sm) room
    rw [stF_ch hn] at s1
    have eD : DTt φ sm room a b = DS (fCh φ a b 0) (stF φ) sm room := by unfold DTt; rw [if_pos t]
    rw [← eD] at s1
    refine ⟨g3, vI (DTt φ sm room a b), ?_, (l2.S.trans ⟨fun y y1 y2 => t6 y y1 (by omega) (by omega) (by omega), t5 3 (by omega)⟩).trans s3.S⟩
    rw [st1, if_pos t.1, st2, if_pos t.2, bX12_tie_85, l1, bnd_some]
    show EV 14 qX12_tie 89 _ [] _ = _
    rw [bX12_tie_89, tmE, bnd_some]
    show EV 14 qX12_tie 98 _ [] _ = _
    rw [bX12_tie_98, s1, bnd_some]
    show EV 14 qX12_tie 104 _ [vI _] _ = _
    rw [bX12_tie_104]
    unfold updT
    by_cases z : DTt φ sm room a b < x.1
    · rw [if_neg (by omega), bX12_tie_112 _ _ _ _ _ _ _ _ (by omega) (by omega), bX12_tie_125, if_neg (by omega), bX12_tie_133, bX12_tie_139, bX12_tie_140 _ _ _ _ _ _ _ _ (by omega), if_pos z]
    · rw [if_pos (by omega), bX12_tie_123, bX12_tie_125, if_pos (by omega), bX12_tie_138, bX12_tie_139, bX12_tie_140 _ _ _ _ _ _ _ _ (by omega), if_neg z]
  · have eD : DTt φ sm room a b = 100000 := by unfold DTt; rw [if_neg t]
    refine ⟨g, u7, ?_, frS.refl g⟩
    have fin : EV 14 qX12_tie 54 [vR 86, vI sm, vI room, vI x.1, vI x.2, vI a, vI b, u7] [] g = EV 14 qX12_tie 140 [vR 86, vI sm, vI room, vI x.1, vI x.2, vI a, vI b, u7] [] g := by
      rw [st1]
      by_cases t1 : tied01 φ a = 0
      · rw [if_pos t1, st2, if_neg (fun z => t ⟨t1, z⟩)]
      · rw [if_neg t1]
    rw [fin, bX12_tie_140 _ _ _ _ _ _ _ _ (by omega), eD]
    unfold updT
    rw [if_neg (by omega)]
noncomputable def updTI (φ : Int → Int) (sm room a : Int) : Nat → Int → Int × Int → Int × Int
  | 0, _, x => x
  | m + 1, b, x => updTI φ sm room a m (b + 1) (updT x (DTt φ sm room a b) (10 * a + b))
noncomputable def updTO (φ : Int → Int) (sm room : Int) : Nat → Int → Int × Int → Int × Int
  | 0, _, x => x
  | m + 1, a, x => updTO φ sm room m (a + 1) (updTI φ sm room a m (a + 1) x)
theorem c_tie_in {φ : Int → Int} (hI : FI φ) (sm room a : Int) (hr : room ≠ -1) (ha : 0 ≤ a ∧ a < φ 0) : ∀ (m : Nat) (b : Int) (x : Int × Int) (g : Hp) (u7 u8 : SV), a < b → b + m = φ 0 → (x.1 = 100000 ∨ (0 ≤ x.1 ∧ x.1 < 9000)) → ClsF g 1 φ → ∃ g' v6 v7 v8, EV 15 qX11_tie 56 [vR 0, vI sm, vI room, vI (cl x.1), vI x.2, vI a, vI b, u7, u8] [] g = EV 15 qX11_tie 38 [vR 0, vI sm, vI room, vI (cl (updTI φ sm room a m b x).1), vI (updTI φ sm room a m b x).2, vI (a + 1), v6, v7, v8] [] g' ∧ frT g g' ∧ ((updTI φ sm room a m b x).1 = 100000 ∨ (0 ≤ (updTI φ sm room a m b x).1 ∧ (updTI φ sm room a m b x).1 < 9000)) := by
  intro m
  induction m with
  | zero =>
    intro b x g u7 u8 h0 h hx hC
    have e11 : g 1 1 = φ 0 := hC.1
    have := hI.1
    exact ⟨g, vI b, u7, u8, by rw [bX11_tie_56, if_pos (by omega), bX11_tie_151 _ _ _ _ _ _ _ _ _ (by omega)]; rfl, frT.refl g, hx⟩
  | succ m ih =>
    intro b x g u7 u8 h0 h hx hC
    obtain ⟨g1, v7, v8, a1, a2⟩ := c_tie_it hI hC sm room a b hr ha (by omega) (by omega) x hx u7 u8
    obtain ⟨g', w6, w7, w8, b1, b2, b3⟩ := ih (b + 1) _ g1 v7 v8 (by omega) (by omega) (updT_ok hx (DTt_le hI sm room (b := b) ha (by omega) (by omega)) (10 * a + b)) (hC.keep (fun y y1 y2 => a2 y (by omega) (by omega)))
    exact ⟨g', w6, w7, w8, by rw [a1, b1]; rfl, a2.trans b2, b3⟩
theorem c_tie_out {φ : Int → Int} (hI : FI φ) (sm room : Int) (hr : room ≠ -1) : ∀ (m : Nat) (a : Int) (x : Int × Int) (g : Hp) (u6 u7 u8 : SV), 0 ≤ a → a + m = φ 0 → (x.1 = 100000 ∨ (0 ≤ x.1 ∧ x.1 < 9000)) → ClsF g 1 φ → ∃ g', EV 15 qX11_tie 38 [vR 0, vI sm, vI room, vI (cl x.1), vI x.2, vI a, u6, u7, u8] [] g = some (some (vI (updTO φ sm room m a x).2), g') ∧ frT g g' := by
  intro m
  induction m with
  | zero =>
    intro a x g u6 u7 u8 h0 h hx hC
    have e11 : g 1 1 = φ 0 := hC.1
    exact ⟨g, by rw [bX11_tie_38, if_pos (by omega), bX11_tie_157]; rfl, frT.refl g⟩
  | succ m ih =>
    intro a x g u6 u7 u8 h0 h hx hC
    have e11 : g 1 1 = φ 0 := hC.1
    have h05 := hI.1
    obtain ⟨g1, v6, v7, v8, a1, a2, a3⟩ := c_tie_in hI sm room a hr (by omega) m (a + 1) x g u7 u8 (by omega) (by omega) hx hC
    obtain ⟨g', b1, b2⟩ := ih (a + 1) _ g1 v6 v7 v8 (by omega) (by omega) a3 (hC.keep (fun y y1 y2 => a2 y (by omega) (by omega)))
    exact ⟨g', by rw [bX11_tie_38, if_neg (by omega), bX11_tie_50 _ _ _ _ _ _ _ _ _ (by omega), a1, b1]; rfl, a2.trans b2⟩
theorem m_tie_in {φ : Int → Int} (hI : FI φ) (sm room a : Int) (ha : 0 ≤ a ∧ a < φ 0) : ∀ (m : Nat) (b : Int) (x : Int × Int) (g : Hp) (u7 : SV), a < b → b + m = φ 0 → (x.1 = 100000 ∨ (0 ≤ x.1 ∧ x.1 < 9000)) → rg g 0 = φ → ∃ g' v6 v7, EV 14 qX12_tie 54 [vR 86, vI sm, vI room, vI x.1, vI x.2, vI a, vI b, u7] [] g = EV 14 qX12_tie 37 [vR 86, vI sm, vI room, vI (updTI φ sm room a m b x).1, vI (updTI φ sm room a m b x).2, vI (a + 1), v6, v7] [] g' ∧ frS g g' ∧ ((updTI φ sm room a m b x).1 = 100000 ∨ (0 ≤ (updTI φ sm room a m b x).1 ∧ (updTI φ sm room a m b x).1 < 9000)) := by
  intro m
  induction m with
  | zero =>
    intro b x g u7 h0 h hx hφ
    have e0 : g 87 0 = φ 0 := by rw [← hφ, rg0]
    have := hI.1
    exact ⟨g, vI b, u7, by rw [bX12_tie_54, if_pos (by omega), bX12_tie_146 _ _ _ _ _ _ _ _ (by omega)]; rfl, frS.refl g, hx⟩
  | succ m ih =>
    intro b x g u7 h0 h hx hφ
    obtain ⟨g1, v7, a1, a2⟩ := m_tie_it hI hφ sm room a b ha (by omega) (by omega) x hx u7
    obtain ⟨g', w6, w7, b1, b2, b3⟩ := ih (b + 1) _ g1 v7 (by omega) (by omega) (updT_ok hx (DTt_le hI sm room (b := b) ha (by omega) (by omega)) (10 * a + b)) (by rw [← hφ]; unfold rg; rw [a2.1 87 (by omega) (by omega)])
    exact ⟨g', w6, w7, by rw [a1, b1]; rfl, a2.trans b2, b3⟩
theorem m_tie_out {φ : Int → Int} (hI : FI φ) (sm room : Int) : ∀ (m : Nat) (a : Int) (x : Int × Int) (g : Hp) (u6 u7 : SV), 0 ≤ a → a + m = φ 0 → (x.1 = 100000 ∨ (0 ≤ x.1 ∧ x.1 < 9000)) → rg g 0 = φ → ∃ g', EV 14 qX12_tie 37 [vR 86, vI sm, vI room, vI x.1, vI x.2, vI a, u6, u7] [] g = some (some (vI (updTO φ sm room m a x).2), g') ∧ frS g g' := by
  intro m
  induction m with
  | zero =>
    intro a x g u6 u7 h0 h hx hφ
    have e0 : g 87 0 = φ 0 := by rw [← hφ, rg0]
    exact ⟨g, by rw [bX12_tie_37, if_pos (by omega), bX12_tie_152]; rfl, frS.refl g⟩
  | succ m ih =>
    intro a x g u6 u7 h0 h hx hφ
    have e0 : g 87 0 = φ 0 := by rw [← hφ, rg0]
    have h05 := hI.1
    obtain ⟨g1, v6, v7, a1, a2, a3⟩ := m_tie_in hI sm room a (by omega) m (a + 1) x g u7 (by omega) (by omega) hx hφ
    obtain ⟨g', b1, b2⟩ := ih (a + 1) _ g1 v6 v7 (by omega) (by omega) a3 (by rw [← hφ]; unfold rg; rw [a2.1 87 (by omega) (by omega)])
    exact ⟨g', by rw [bX12_tie_37, if_neg (by omega), bX12_tie_48 _ _ _ _ _ _ _ _ (by omega), a1, b1]; rfl, a2.trans b2⟩
theorem o_tie {g : Hp} {n : Int} (hR : Rel g n) (hn : n < 1000) (sm room : Int) : Opk g n (EV 15 qX11_tie 0 [vR 0, vI sm, vI room, vU, vU, vU, vU, vU, vU] []) (EV 14 qX12_tie 0 [vR 86, vI sm, vI room, vU, vU, vU, vU, vU] []) := by
  have c7 := hR.c7 (by omega)
  obtain ⟨p1, p2, p3⟩ := hR.p29
  have hI := hR.1.1
  have kI := KI_F hI
  have sV := SVd_F hI
  have h0 := hI.1
  by_cases ok : (0 ≤ sm ∧ sm ≤ pw2 (g 87 29) - 1) ∧ (0 ≤ room ∧ room ≤ 4)
  · obtain ⟨r, g1, a1, a2, a3, a4⟩ := c_stepsNow hI hR.1.2 sm room (by omega)
    have hDS := DS_le kI (SVd_ly kI.1 sV) sV sm room
    have hC1 : ClsF g1 1 (rg g 0) := hR.1.2.keep (fun a x1 x2 => a2 a (by omega) (by omega))
    have er : r = cl (DS (rg g 0) (stF (rg g 0)) sm room) := by
      rw [a3]
      unfold cl
      rcases hDS with z | z
      · rw [z, if_neg (by omega), if_pos rfl]
      · rw [if_pos (by omega), if_neg (by omega)]
    obtain ⟨g2, b1, b2⟩ := c_tie_out hI sm room (by omega) (rg g 0 0).toNat 0 (DS (rg g 0) (stF (rg g 0)) sm room, -1) g1 vU vU vU (by omega) (by omega) hDS hC1
    have fr := a2.trans b2
    have e87 : g2 87 = g 87 := fr 87 (by omega) (by omega)
    have erg : rg g2 0 = rg g 0 := by unfold rg; rw [e87]
    obtain ⟨g3, l1, l2⟩ := m_layNow g2 (by rw [e87]; exact hR.h22.1) (by rw [e87]; exact p1)
    have mC := l2.modC (by rw [erg]; exact hI)
    have mN := l2.modN (by rw [erg]; exact hI)
    rw [erg, e87] at mC mN
    have e29 : g3 87 29 = g 87 29 := by rw [l2.S.1 87 (by omega) (by omega), e87]
    obtain ⟨g4, f1, f2, f3⟩ := m_stepsOf kI sV mC mN (SmR_full p1 e29 sm) room
    have fs := l2.S.trans f3.S
    obtain ⟨g5, h1, h2⟩ := m_tie_out hI sm room (rg g 0 0).toNat 0 (DS (rg g 0) (stF (rg g 0)) sm room, -1) g4 vU vU (by omega) (by omega) hDS (by rw [← erg]; unfold rg; rw [fs.1 87 (by omega) (by omega)])
    refine Opk.ro hR (vI (updTO (rg g 0) sm room (rg g 0 0).toNat 0 (DS (rg g 0) (stF (rg g 0)) sm room, -1)).2) ?_ ?_ fr (fs.trans h2)
    · rw [bX11_tie_0, c_areSome hF1 _ _ (by omega), bnd_some, p2]
      show EV 15 qX11_tie 8 _ [vI _] _ = _
      rw [bX11_tie_8, if_neg (b01_pos ok.1), bX11_tie_11, c_isRoom, bnd_some]
      show EV 15 qX11_tie 15 _ [vI _] _ = _
      rw [bX11_tie_15, if_neg (b01_pos ok.2), bX11_tie_25, a1, bnd_some]
      show EV 15 qX11_tie 31 _ [vI _] _ = _
      rw [bX11_tie_31, er]
      exact b1
    · rw [bX12_tie_0, m_areSome _ _ (by rw [e87]; exact p1), bnd_some, e87]
      show EV 14 qX12_tie 5 _ [vI _] _ = _
      rw [bX12_tie_5, if_neg (b01_pos ok.1), bX12_tie_8, e_isRoom, bnd_some]
      show EV 14 qX12_tie 12 _ [vI _] _ = _
      rw [bX12_tie_12, if_neg (b01_pos ok.2), bX12_tie_20, l1, bnd_some]
      show EV 14 qX12_tie 24 _ [] _ = _
      rw [bX12_tie_24, f1, bnd_some]
      show EV 14 qX12_tie 30 _ [vI _] _ = _
      rw [bX12_tie_30]
      exact h1
  · refine Opk.no hR (-2) (by omega) (vI (-2)) ?_ ?_
    · have fin : EV 15 qX11_tie 18 [vR 0, vI sm, vI room, vU, vU, vU, vU, vU, vU] [] g = some (some (vI (-2)), ctH g (-2)) := by
        rw [bX11_tie_18, c_counted _ _ c7, bnd_some]
        exact bX11_tie_24 _ _ _ _
      rw [bX11_tie_0, c_areSome hF1 _ _ (by omega), bnd_some, p2]
      show EV 15 qX11_tie 8 _ [vI _] _ = _
      rw [bX11_tie_8]
      by_cases o1 : 0 ≤ sm ∧ sm ≤ pw2 (g 87 29) - 1
      · rw [if_neg (b01_pos o1), bX11_tie_11, c_isRoom, bnd_some]
        show EV 15 qX11_tie 15 _ [vI _] _ = _
        rw [bX11_tie_15, if_pos (b01_neg (fun z => ok ⟨o1, z⟩)), fin]
      · rw [if_pos (b01_neg o1), fin]
    · have k87 : ctH g (-2) 87 = g 87 := ctH_86 (by omega)
      have fin : EV 14 qX12_tie 15 [vR 86, vI sm, vI room, vU, vU, vU, vU, vU] [] (ctH g (-2)) = some (some (vI (-2)), metH (ctH g (-2)) (-2)) := by
        rw [bX12_tie_15, e_bad _ (hR.m9 (by omega) _), bnd_some]
        exact bX12_tie_19 _ _ _ _
      rw [bX12_tie_0, m_areSome _ _ (by rw [k87]; exact p1), bnd_some, k87]
      show EV 14 qX12_tie 5 _ [vI _] _ = _
      rw [bX12_tie_5]
      by_cases o1 : 0 ≤ sm ∧ sm ≤ pw2 (g 87 29) - 1
      · rw [if_neg (b01_pos o1), bX12_tie_8, e_isRoom, bnd_some]
        show EV 14 qX12_tie 12 _ [vI _] _ = _
        rw [bX12_tie_12, if_pos (b01_neg (fun z => ok ⟨o1, z⟩)), fin]
      · rw [if_pos (b01_neg o1), fin]
