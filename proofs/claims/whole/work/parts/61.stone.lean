/-! stone, child, keep -/
/-- the least so far, as the class has it -/
def cl (l : Int) : Int := if l = 100000 then -1 else l
theorem cl_thr {l : Int} (h : l = 100000 ∨ (0 ≤ l ∧ l < 9000)) : (if cl l = -1 then 100000 else cl l) = l ∧ (cl l = -1 ∨ (0 ≤ cl l ∧ cl l ≤ 9000)) := by
  unfold cl
  rcases h with rfl | h
  · rw [if_pos rfl, if_pos rfl]
    exact ⟨rfl, Or.inl rfl⟩
  · rw [if_neg (by omega), if_neg (by omega)]
    exact ⟨rfl, Or.inr (by omega)⟩
/-- how a search of the class answers -/
theorem c_search {κ : Int → Int} (hI : KI κ) {s0 : St} (hV : SVd κ s0) {g : Hp} (hK : ClsK g 20 κ s0) (sm room l : Int) (hr : room ≠ -1) (hl : l = 100000 ∨ (0 ≤ l ∧ l < 9000)) : ∃ r g', EV 13 qX9_shorter 0 [vR 83, vR 20, vI sm, vI room, vI (cl l), vU, vU, vU, vU, vU] [] g = some (some (vI r), g') ∧ frT g g' ∧ ((DS κ s0 sm room < l ∧ r = DS κ s0 sm room ∧ r ≠ -1) ∨ (¬ DS κ s0 sm room < l ∧ r = -1)) := by
  have t := cl_thr hl
  obtain ⟨r, g', a1, a2, a3, a4, a5⟩ := c_shorter hI (SVd_ly hI.1 hV) hV hK sm room (cl l) t.2
  have q := a4 hr
  rw [t.1] at q
  have hD := DS_le hI (SVd_ly hI.1 hV) hV sm room
  refine ⟨r, g', a1, a2.T, ?_⟩
  by_cases c : DS κ s0 sm room < l
  · rw [if_pos c] at q
    exact Or.inl ⟨c, q, by omega⟩
  · rw [if_neg c] at q
    exact Or.inr ⟨c, q⟩
/-- the best of what is tried one by one: the least, and which -/
def updB (D : Int → Int) (x : Int × Int) (j : Int) : Int × Int := if D j < x.1 then (D j, j) else x
theorem updB_ok {D : Int → Int} (hD : ∀ j, D j = 100000 ∨ (0 ≤ D j ∧ D j < 9000)) {x : Int × Int} (h : x.1 = 100000 ∨ (0 ≤ x.1 ∧ x.1 < 9000)) (j : Int) : (updB D x j).1 = 100000 ∨ (0 ≤ (updB D x j).1 ∧ (updB D x j).1 < 9000) := by
  unfold updB
  split
  · exact hD j
  · exact h
def updBN (D : Int → Int) : Nat → Int → Int × Int → Int × Int
  | 0, _, x => x
  | m + 1, j, x => updBN D m (j + 1) (updB D x j)
def idI : Int → Int := fun i => i
/-- ballast with v more on b -/
def stB (φ : Int → Int) (b v : Int) : Int → Int := fun k => φ (16 + k) + if k = b then v else 0
theorem dn_one : ∀ b : Nat, b < 5 → ∀ k : Nat, k < 5 → (dnB (bShl 1 (b : Int)) (k : Int) ↔ k = b) := by decide +kernel
theorem dn_oneI {b k : Int} (hb : 0 ≤ b ∧ b < 5) (hk : 0 ≤ k ∧ k < 5) : dnB (bShl 1 b) k ↔ k = b := by
  obtain ⟨x, rfl⟩ := Int.eq_ofNat_of_zero_le hb.1
  obtain ⟨y, rfl⟩ := Int.eq_ofNat_of_zero_le hk.1
  rw [dn_one x (by omega) y (by omega)]
  omega
noncomputable def DSt (φ : Int → Int) (sm room v b : Int) : Int := DS (kap φ (φ 29) idI (stB φ b v)) (stI φ (φ 29) idI) sm room
theorem stone_ok {φ : Int → Int} (hI : FI φ) {b v : Int} (hv : 0 ≤ v ∧ v ≤ 9) : KI (kap φ (φ 29) idI (stB φ b v)) ∧ SVd (kap φ (φ 29) idI (stB φ b v)) (stI φ (φ 29) idI) := by
  have hp := hI.2.2.2.2.2.2.1
  have hι : ∀ i, 0 ≤ i → i < φ 29 → 0 ≤ idI i ∧ idI i < φ 29 := fun i i0 i1 => ⟨i0, i1⟩
  refine ⟨KI_kap hI hp hι (fun k k0 k1 => ?_), SVd_kap hI hι⟩
  have := (hI.2.1 k k0 k1).2.2.2
  unfold stB
  split <;> omega
theorem c_stone_it {g : Hp} {φ : Int → Int} (hI : FI φ) (hC : ClsF g 1 φ) (sm room v b : Int) (hr : room ≠ -1) (hv : 1 ≤ v ∧ v ≤ 9) (hb : 0 ≤ b ∧ b < φ 0) (x : Int × Int) (hx : x.1 = 100000 ∨ (0 ≤ x.1 ∧ x.1 < 9000)) (u7 : SV) : ∃ g' v7, EV 15 qX11_stone 46 [vR 0, vI sm, vI room, vI v, vI (cl x.1), vI x.2, vI b, u7] [] g = EV 15 qX11_stone 46 [vR 0, vI sm, vI room, vI v, vI (cl (updB (DSt φ sm room v) x b).1), vI (updB (DSt φ sm room v) x b).2, vI (b + 1), v7] [] g' ∧ frT g g' := by
  obtain ⟨hK, hV⟩ := stone_ok hI (b := b) (v := v) (by omega)
  have h0 := hI.1
  have hp := hI.2.2.2.2.2.2.1
  obtain ⟨g1, a1, a2, a3⟩ := c_trial hI hC
  have e201 : g1 20 1 = φ 0 := a2.1
  have e31 : ∀ k, 0 ≤ k → k < φ 0 → g1 31 k = φ (16 + k) := fun k k0 k1 => (a2.2.1 k k0 k1).2.2.2
  obtain ⟨g2, b1, b2, b3, b4⟩ := c_addStones (bShl 1 b) v (by omega) (φ 0).toNat 0 g1 (by omega) (by omega) (by omega) (fun k k0 k1 => by
    rw [e31 k k0 (by omega)]
    exact (hI.2.1 k k0 (by omega)).2.2.2)
  have cK : ClsK g2 20 (kap φ (φ 29) idI (stB φ b v)) (stI φ (φ 29) idI) := by
    refine ClsK_kap hI a2 hp (fun i _ => by rw [b4 20 (by omega)]) (by rw [b4 20 (by omega)]; exact a2.2.2.2.2.2.1) (fun a x1 x2 x3 => b4 a x3) (fun k k0 k1 => ?_) (fun i i0 i1 => ?_)
    · rw [b2 k k0 (by omega), e31 k k0 k1]
      unfold stB
      have := dn_oneI (b := b) (k := k) (by omega) (by omega)
      by_cases e : k = b
      · rw [if_pos (this.mpr e), if_pos e]
      · rw [if_neg (fun z => e (this.mp z)), if_neg e]
    · rw [b4 35 (by omega), b4 36 (by omega)]
      exact a2.2.2.2.2.2.2.1 i i0 i1
  obtain ⟨r, g3, c1, c2, c3⟩ := c_search hK hV cK sm room x.1 hr hx
  have fr : frT g g3 := ((frT_of a3).trans (fun a x1 x2 => b4 a (by omega))).trans c2
  have e11 : g 1 1 = φ 0 := hC.1
  refine ⟨g3, vI r, ?_, fr⟩
  have st : EV 15 qX11_stone 46 [vR 0, vI sm, vI room, vI v, vI (cl x.1), vI x.2, vI b, u7] [] g = EV 15 qX11_stone 96 [vR 0, vI sm, vI room, vI v, vI (cl x.1), vI x.2, vI b, u7] [vI r] g3 := by
    rw [bX11_stone_46, if_neg (by omega), bX11_stone_58, a1, bnd_some]
    show EV 15 qX11_stone 69 _ [] _ = _
    rw [bX11_stone_69, bX2_addStones_0 hF20, b1, bnd_some]
    show EV 15 qX11_stone 81 _ [] _ = _
    rw [bX11_stone_81, c1, bnd_some]
    rfl
  rw [st, bX11_stone_96]
  unfold updB
  rcases c3 with ⟨z1, z2, z3⟩ | ⟨z1, z2⟩
  · have z1' : DSt φ sm room v b < x.1 := z1
    have hD := DS_le hK (SVd_ly hK.1 hV) hV sm room
    have e : cl (DSt φ sm room v b) = r := by
      unfold cl
      rw [if_neg (by omega)]
      exact z2.symm
    rw [if_neg z3, bX11_stone_104, bX11_stone_112 _ _ _ _ _ _ _ _ (by omega), if_pos z1', e]
  · have z1' : ¬ DSt φ sm room v b < x.1 := z1
    rw [if_pos z2, bX11_stone_112 _ _ _ _ _ _ _ _ (by omega), if_neg z1']
theorem m_stone_it {g : Hp} (hI : FI (rg g 0)) (sm room v b : Int) (hv : 1 ≤ v ∧ v ≤ 9) (hb : 0 ≤ b ∧ b < g 87 0) (x : Int × Int) (u7 : SV) : ∃ g' v7, EV 14 qX12_stone 50 [vR 86, vI sm, vI room, vI v, vI x.1, vI x.2, vI b, u7] [] g = EV 14 qX12_stone 50 [vR 86, vI sm, vI room, vI v, vI (updB (DSt (rg g 0) sm room v) x b).1, vI (updB (DSt (rg g 0) sm room v) x b).2, vI (b + 1), v7] [] g' ∧ frS g g' := by
  obtain ⟨hK, hV⟩ := stone_ok hI (b := b) (v := v) (by omega)
  have h22 := hI.2.2.2.1
  have h29 := hI.2.2.2.2.2.2.1
  have h0 := hI.1
  have hbal := (hI.2.1 b hb.1 (by rw [rg0]; omega)).2.2.2
  simp only [rg0] at h22 h29 h0 hbal
  obtain ⟨g1, a1, a2⟩ := m_layNow g h22 h29
  have e91 := a2.1
  have mC : ModC (up g1 91 b (g1 91 b + v)) (kap (rg g 0) (rg g 0 29) idI (stB (rg g 0) b v)) (tF (g 87 29)) := by
    refine ModC_kap a2 hI (by funext i; rw [up_ne (by omega)]) (by rw [up_ne (by omega)]) (by funext i; rw [up_ne (by omega)]) (by funext i; rw [up_ne (by omega)]) (by funext i; rw [up_ne (by omega)]) (fun k k0 k1 => ?_) (by rw [up_ne (by omega)]; exact a2.2.2.2.1) (by rw [rg0]; exact (tF_cn h29).symm) (fun p p0 p1 d => ?_)
    · unfold stB
      rw [rg0]
      by_cases e : k = b
      · rw [e, up_eq, if_pos rfl, e91 b hb.1 (by omega)]
      · rw [up_nei e, if_neg e, e91 k k0 (by omega), Int.add_zero]
    · have q := (tF_dn h29 ⟨p0, p1⟩).mp d
      exact ⟨q, tF_rk h29 ⟨p0, p1⟩ q⟩
  have mN : ModN (up g1 91 b (g1 91 b + v)) (tF (g 87 29)) (stI (rg g 0) (rg g 0 29) idI) := by
    refine ModN_kap a2 (by funext i; rw [up_ne (by omega)]) (by rw [up_ne (by omega)]; exact a2.2.2.2.1) (by rw [rg0]; exact (tF_cn h29).symm) (fun p p0 p1 d => ?_)
    have q := (tF_dn h29 ⟨p0, p1⟩).mp d
    exact ⟨q, tF_rk h29 ⟨p0, p1⟩ q⟩
  have e29 : up g1 91 b (g1 91 b + v) 87 29 = g 87 29 := by rw [up_ne (by omega), a2.S.1 87 (by omega) (by omega)]
  obtain ⟨g2, c1, c2, c3⟩ := m_stepsOf hK hV mC mN (SmR_full h29 e29 sm) room
  have f1 : frS g1 (up g1 91 b (g1 91 b + v)) := ⟨fun a _ x2 => by funext i; rw [up_ne (by omega)], by rw [up_ne (by omega)]⟩
  have e0 : g1 91 b = g 87 (16 + b) := e91 b hb.1 (by omega)
  have st : EV 14 qX12_stone 50 [vR 86, vI sm, vI room, vI v, vI x.1, vI x.2, vI b, u7] [] g = EV 14 qX12_stone 82 [vR 86, vI sm, vI room, vI v, vI x.1, vI x.2, vI b, u7] [vI (DSt (rg g 0) sm room v b)] g2 := by
    rw [bX12_stone_50, if_neg (by omega), bX12_stone_61, a1, bnd_some]
    show EV 14 qX12_stone 65 _ [] _ = _
    rw [bX12_stone_65 _ _ _ _ _ _ _ _ (by omega) (by omega) (by omega), c1, bnd_some]
    rfl
  refine ⟨g2, vI (DSt (rg g 0) sm room v b), ?_, (a2.S.trans f1).trans c3.S⟩
  rw [st, bX12_stone_82]
  unfold updB
  by_cases z : DSt (rg g 0) sm room v b < x.1
  · rw [if_neg (by omega), bX12_stone_91, bX12_stone_98, if_neg (by omega), bX12_stone_107, bX12_stone_114 _ _ _ _ _ _ _ _ _ (by omega), if_pos z]
  · rw [if_pos (by omega), bX12_stone_96, bX12_stone_98, if_pos (by omega), bX12_stone_112, bX12_stone_114 _ _ _ _ _ _ _ _ _ (by omega), if_neg z]
theorem c_stone_loop {φ : Int → Int} (hI : FI φ) (sm room v : Int) (hr : room ≠ -1) (hv : 1 ≤ v ∧ v ≤ 9) : ∀ (m : Nat) (b : Int) (x : Int × Int) (g : Hp) (u7 : SV), 0 ≤ b → b + m = φ 0 → (x.1 = 100000 ∨ (0 ≤ x.1 ∧ x.1 < 9000)) → ClsF g 1 φ → ∃ g', EV 15 qX11_stone 46 [vR 0, vI sm, vI room, vI v, vI (cl x.1), vI x.2, vI b, u7] [] g = some (some (vI (updBN (DSt φ sm room v) m b x).2), g') ∧ frT g g' := by
  intro m
  induction m with
  | zero =>
    intro b x g u7 h0 h hx hC
    have e11 : g 1 1 = φ 0 := hC.1
    exact ⟨g, by rw [bX11_stone_46, if_pos (by omega), bX11_stone_118]; rfl, frT.refl g⟩
  | succ m ih =>
    intro b x g u7 h0 h hx hC
    obtain ⟨g1, v7, a1, a2⟩ := c_stone_it hI hC sm room v b hr hv (by omega) x hx u7
    have hD : ∀ j, DSt φ sm room v j = 100000 ∨ (0 ≤ DSt φ sm room v j ∧ DSt φ sm room v j < 9000) := fun j => by
      obtain ⟨hK, hV⟩ := stone_ok hI (b := j) (v := v) (by omega)
      exact DS_le hK (SVd_ly hK.1 hV) hV sm room
    obtain ⟨g', b1, b2⟩ := ih (b + 1) (updB (DSt φ sm room v) x b) g1 v7 (by omega) (by omega) (updB_ok hD hx b) (hC.keep (fun a x1 x2 => a2 a (by omega) (by omega)))
    exact ⟨g', by rw [a1, b1]; rfl, a2.trans b2⟩
theorem m_stone_loop {φ : Int → Int} (hI : FI φ) (sm room v : Int) (hv : 1 ≤ v ∧ v ≤ 9) : ∀ (m : Nat) (b : Int) (x : Int × Int) (g : Hp) (u7 : SV), 0 ≤ b → b + m = φ 0 → rg g 0 = φ → ∃ g', EV 14 qX12_stone 50 [vR 86, vI sm, vI room, vI v, vI x.1, vI x.2, vI b, u7] [] g = some (some (vI (updBN (DSt φ sm room v) m b x).2), g') ∧ frS g g' := by
  intro m
  induction m with
  | zero =>
    intro b x g u7 h0 h hg
    have e : g 87 0 = φ 0 := by rw [← hg, rg0]
    exact ⟨g, by rw [bX12_stone_50, if_pos (by omega), bX12_stone_122]; rfl, frS.refl g⟩
  | succ m ih =>
    intro b x g u7 h0 h hg
    have e : g 87 0 = φ 0 := by rw [← hg, rg0]
    obtain ⟨g1, v7, a1, a2⟩ := m_stone_it (g := g) (by rw [hg]; exact hI) sm room v b hv (by omega) x u7
    rw [hg] at a1
    obtain ⟨g', b1, b2⟩ := ih (b + 1) (updB (DSt φ sm room v) x b) g1 v7 (by omega) (by omega) (by rw [← hg]; unfold rg; rw [a2.1 87 (by omega) (by omega)])
    exact ⟨g', by rw [a1, b1]; rfl, a2.trans b2⟩
theorem o_stone {g : Hp} {n : Int} (hR : Rel g n) (hn : n < 1000) (sm room v : Int) : Opk g n (EV 15 qX11_stone 0 [vR 0, vI sm, vI room, vI v, vU, vU, vU, vU] []) (EV 14 qX12_stone 0 [vR 86, vI sm, vI room, vI v, vU, vU, vU, vU] []) := by
  have c7 := hR.c7 (by omega)
  obtain ⟨p1, p2, p3⟩ := hR.p29
  have hI := hR.1.1
  have kI := KI_F hI
  have sV := SVd_F hI
  by_cases ok : (0 ≤ sm ∧ sm ≤ pw2 (g 87 29) - 1) ∧ (0 ≤ room ∧ room ≤ 4) ∧ (1 ≤ v ∧ v ≤ 9)
  · obtain ⟨r, g1, a1, a2, a3, a4⟩ := c_stepsNow hI hR.1.2 sm room (by omega)
    have hDS := DS_le kI (SVd_ly kI.1 sV) sV sm room
    have hC1 : ClsF g1 1 (rg g 0) := hR.1.2.keep (fun a x1 x2 => a2 a (by omega) (by omega))
    have er : r = cl (DS (rg g 0) (stF (rg g 0)) sm room) := by
      rw [a3]
      unfold cl
      rcases hDS with z | z
      · rw [z, if_neg (by omega), if_pos rfl]
      · rw [if_pos (by omega), if_neg (by omega)]
    obtain ⟨g2, b1, b2⟩ := c_stone_loop hI sm room v (by omega) ok.2.2 (rg g 0 0).toNat 0 (DS (rg g 0) (stF (rg g 0)) sm room, -1) g1 vU (by omega) (by have := hI.1; omega) hDS hC1
    have fr := a2.trans b2
    have e87 : g2 87 = g 87 := fr 87 (by omega) (by omega)
    have erg : rg g2 0 = rg g 0 := by unfold rg; rw [e87]
    obtain ⟨g3, l1, l2⟩ := m_layNow g2 (by rw [e87]; exact hR.h22.1) (by rw [e87]; exact p1)
    have mC := l2.modC (by rw [erg]; exact hI)
    have mN := l2.modN (by rw [erg]; exact hI)
    rw [erg, e87] at mC mN
    have e29 : g3 87 29 = g 87 29 := by rw [l2.S.1 87 (by omega) (by omega), e87]
    obtain ⟨g4, f1, f2, f3⟩ := m_stepsOf kI sV mC mN (SmR_full p1 e29 sm) room
    have fs := l2.S.trans f3.S
    obtain ⟨g5, h1, h2⟩ := m_stone_loop hI sm room v ok.2.2 (rg g 0 0).toNat 0 (DS (rg g 0) (stF (rg g 0)) sm room, -1) g4 vU (by omega) (by have := hI.1; omega) (by rw [← erg]; unfold rg; rw [fs.1 87 (by omega) (by omega)])
    refine Opk.ro hR (vI (updBN (DSt (rg g 0) sm room v) (rg g 0 0).toNat 0 (DS (rg g 0) (stF (rg g 0)) sm room, -1)).2) ?_ ?_ fr (fs.trans h2)
    · rw [bX11_stone_0, c_areSome hF1 _ _ (by omega), bnd_some, p2]
      show EV 15 qX11_stone 8 _ [vI _] _ = _
      rw [bX11_stone_8, if_neg (b01_pos ok.1), bX11_stone_11, c_isRoom, bnd_some]
      show EV 15 qX11_stone 15 _ [vI _] _ = _
      rw [bX11_stone_15, if_neg (b01_pos ok.2.1), bX11_stone_18, c_isStone, bnd_some]
      show EV 15 qX11_stone 22 _ [vI _] _ = _
      rw [bX11_stone_22, if_neg (b01_pos ok.2.2), bX11_stone_32, a1, bnd_some]
      show EV 15 qX11_stone 38 _ [vI _] _ = _
      rw [bX11_stone_38, er]
      exact b1
    · rw [bX12_stone_0, m_areSome _ _ (by rw [e87]; exact p1), bnd_some, e87]
      show EV 14 qX12_stone 5 _ [vI _] _ = _
      rw [bX12_stone_5, if_neg (b01_pos ok.1), bX12_stone_8, e_isRoom, bnd_some]
      show EV 14 qX12_stone 12 _ [vI _] _ = _
      rw [bX12_stone_12, if_neg (b01_pos ok.2.1), bX12_stone_15, e_in, bnd_some]
      show EV 14 qX12_stone 24 _ [vI _] _ = _
      rw [bX12_stone_24, if_neg (b01_pos ok.2.2), bX12_stone_32, l1, bnd_some]
      show EV 14 qX12_stone 36 _ [] _ = _
      rw [bX12_stone_36, f1, bnd_some]
      show EV 14 qX12_stone 42 _ [vI _] _ = _
      rw [bX12_stone_42]
      exact h1
  · refine Opk.no hR (-2) (by omega) (vI (-2)) ?_ ?_
    · have fin : EV 15 qX11_stone 25 [vR 0, vI sm, vI room, vI v, vU, vU, vU, vU] [] g = some (some (vI (-2)), ctH g (-2)) := by
        rw [bX11_stone_25, c_counted _ _ c7, bnd_some]
        exact bX11_stone_31 _ _ _ _ _
      rw [bX11_stone_0, c_areSome hF1 _ _ (by omega), bnd_some, p2]
      show EV 15 qX11_stone 8 _ [vI _] _ = _
      rw [bX11_stone_8]
      by_cases o1 : 0 ≤ sm ∧ sm ≤ pw2 (g 87 29) - 1
      · rw [if_neg (b01_pos o1), bX11_stone_11, c_isRoom, bnd_some]
        show EV 15 qX11_stone 15 _ [vI _] _ = _
        rw [bX11_stone_15]
        by_cases o2 : 0 ≤ room ∧ room ≤ 4
        · rw [if_neg (b01_pos o2), bX11_stone_18, c_isStone, bnd_some]
          show EV 15 qX11_stone 22 _ [vI _] _ = _
          rw [bX11_stone_22, if_pos (b01_neg (fun z => ok ⟨o1, o2, z⟩)), fin]
        · rw [if_pos (b01_neg o2), fin]
      · rw [if_pos (b01_neg o1), fin]
    · have k87 : ctH g (-2) 87 = g 87 := ctH_86 (by omega)
      have fin : EV 14 qX12_stone 27 [vR 86, vI sm, vI room, vI v, vU, vU, vU, vU] [] (ctH g (-2)) = some (some (vI (-2)), metH (ctH g (-2)) (-2)) := by
        rw [bX12_stone_27, e_bad _ (hR.m9 (by omega) _), bnd_some]
        exact bX12_stone_31 _ _ _ _ _
      rw [bX12_stone_0, m_areSome _ _ (by rw [k87]; exact p1), bnd_some, k87]
      show EV 14 qX12_stone 5 _ [vI _] _ = _
      rw [bX12_stone_5]
      by_cases o1 : 0 ≤ sm ∧ sm ≤ pw2 (g 87 29) - 1
      · rw [if_neg (b01_pos o1), bX12_stone_8, e_isRoom, bnd_some]
        show EV 14 qX12_stone 12 _ [vI _] _ = _
        rw [bX12_stone_12]
        by_cases o2 : 0 ≤ room ∧ room ≤ 4
        · rw [if_neg (b01_pos o2), bX12_stone_15, e_in, bnd_some]
          show EV 14 qX12_stone 24 _ [vI _] _ = _
          rw [bX12_stone_24, if_pos (b01_neg (fun z => ok ⟨o1, o2, z⟩)), fin]
        · rw [if_pos (b01_neg o2), fin]
      · rw [if_pos (b01_neg o1), fin]
/-! child -/
def outI (p : Int) : Int → Int := fun i => if i < p then i else i + 1
def outT (w p : Int) : Int := bAnd (tF w) (bXor (bShl 1 p) (-1))
theorem out_ok {w p : Int} (hw : 0 ≤ w ∧ w ≤ 3) (hp : 0 ≤ p ∧ p < w) : cn (outT w p) = w - 1 ∧ ∀ q, 0 ≤ q → q < 3 → dnB (outT w p) q → q < w ∧ outI p (rk (outT w p) q) = q := by
  have hw3 : w = 1 ∨ w = 2 ∨ w = 3 := by omega
  rcases hw3 with rfl | rfl | rfl
  · have : p = 0 := by omega
    subst this
    refine ⟨by decide, fun q q0 q1 d => ?_⟩
    rcases (by omega : q = 0 ∨ q = 1 ∨ q = 2) with rfl | rfl | rfl <;> revert d <;> decide
  · rcases (by omega : p = 0 ∨ p = 1) with rfl | rfl
    · refine ⟨by decide, fun q q0 q1 d => ?_⟩
      rcases (by omega : q = 0 ∨ q = 1 ∨ q = 2) with rfl | rfl | rfl <;> revert d <;> decide
    · refine ⟨by decide, fun q q0 q1 d => ?_⟩
      rcases (by omega : q = 0 ∨ q = 1 ∨ q = 2) with rfl | rfl | rfl <;> revert d <;> decide
  · rcases (by omega : p = 0 ∨ p = 1 ∨ p = 2) with rfl | rfl | rfl
    · refine ⟨by decide, fun q q0 q1 d => ?_⟩
      rcases (by omega : q = 0 ∨ q = 1 ∨ q = 2) with rfl | rfl | rfl <;> revert d <;> decide
    · refine ⟨by decide, fun q q0 q1 d => ?_⟩
      rcases (by omega : q = 0 ∨ q = 1 ∨ q = 2) with rfl | rfl | rfl <;> revert d <;> decide
    · refine ⟨by decide, fun q q0 q1 d => ?_⟩
      rcases (by omega : q = 0 ∨ q = 1 ∨ q = 2) with rfl | rfl | rfl <;> revert d <;> decide
theorem o_child {g : Hp} {n : Int} (hR : Rel g n) (hn : n < 1000) (p : Int) : Opk g n (EV 15 qX11_child 0 [vR 0, vI p, vU] []) (EV 13 qX12_child 0 [vR 86, vI p, vU] []) := by
  have c7 := hR.c7 (by omega)
  obtain ⟨p1, p2, p3⟩ := hR.p29
  have hI := hR.1.1
  have kI := KI_F hI
  have sV := SVd_F hI
  have h0 := hI.1
  by_cases ok : 0 ≤ p ∧ p ≤ g 87 29 - 1
  · obtain ⟨g1, a1, a2, a3⟩ := c_lyingsNow hI hR.1.2
    have hC1 : ClsF g1 1 (rg g 0) := hR.1.2.keep (fun a x1 x2 => a2 a (by omega) (by omega))
    obtain ⟨g2, t1, t2, t3⟩ := c_trial hI hC1
    have e29 : rg g 0 29 = g 87 29 := rg0 g 29
    have e2011 : g2 20 11 = g 87 29 := by rw [← e29]; exact t2.2.2.2.2.2.1
    have lo := c_leaveOut g2 p (by omega) (by omega)
    rw [e2011] at lo
    have hι : ∀ i, 0 ≤ i → i < g 87 29 - 1 → 0 ≤ outI p i ∧ outI p i < rg g 0 29 := fun i i0 i1 => by
      rw [e29]
      unfold outI
      split <;> omega
    have hKI := KI_kap hI (w := g 87 29 - 1) (ι := outI p) (st := fun b => rg g 0 (16 + b)) (by omega) hι (fun b b0 b1 => by have := (hI.2.1 b b0 b1).2.2.2; omega)
    have hSV := SVd_kap hI (w := g 87 29 - 1) (ι := outI p) (st := fun b => rg g 0 (16 + b)) hι
    generalize hg3 : bk (up g2 20 11 (g 87 29 - 1)) p (g 87 29 - 1) = g3 at lo
    have g3o : ∀ a : Nat, a ≠ 35 → a ≠ 36 → g3 a = up g2 20 11 (g 87 29 - 1) a := fun a x1 x2 => by
      subst hg3
      funext i
      unfold bk
      rw [if_neg (by omega)]
    have cK : ClsK g3 20 (kap (rg g 0) (g 87 29 - 1) (outI p) (fun b => rg g 0 (16 + b))) (stI (rg g 0) (g 87 29 - 1) (outI p)) := by
      refine ClsK_kap hI t2 (by omega) (fun i hi => by rw [g3o 20 (by omega) (by omega), up_nei hi]) (by rw [g3o 20 (by omega) (by omega), up_eq]) (fun a x1 x2 x3 => by rw [g3o a (by omega) (by omega)]; funext i; rw [up_ne (by omega)]) (fun b b0 b1 => ?_) (fun i i0 i1 => ?_)
      · rw [g3o 31 (by omega) (by omega), up_ne (by omega)]
        exact (t2.2.1 b b0 b1).2.2.2
      · have q := t2.2.2.2.2.2.2.1
        subst hg3
        by_cases e : i < p
        · have eo : outI p i = i := by unfold outI; rw [if_pos e]
          rw [eo]
          unfold bk
          rw [if_neg (by omega), if_neg (by omega), up_ne (by omega), up_ne (by omega)]
          exact q i i0 (by omega)
        · have eo : outI p i = i + 1 := by unfold outI; rw [if_neg e]
          rw [eo]
          unfold bk
          rw [if_pos (by omega), if_pos (by omega), up_ne (by omega), up_ne (by omega)]
          exact q (i + 1) (by omega) (by omega)
    obtain ⟨r, g4, s1, s2, s3, s4, s5⟩ := c_shorter hKI (SVd_ly hKI.1 hSV) hSV cK 0 (-1) (-1) (Or.inl rfl)
    have q4 := s3 rfl rfl
    have fr : frT g g4 := ((a2.trans (frT_of t3)).trans (fun a x1 x2 => by rw [g3o a (by omega) (by omega)]; funext i; rw [up_ne (by omega)])).trans s2.T
    have e87 : g4 87 = g 87 := fr 87 (by omega) (by omega)
    have erg : rg g4 0 = rg g 0 := by unfold rg; rw [e87]
    have h22 := hR.h22.1
    obtain ⟨g5, l1, l2⟩ := m_layNow g4 (by rw [e87]; exact h22) (by rw [e87]; exact p1)
    have mC := l2.modC (by rw [erg]; exact hI)
    have mN := l2.modN (by rw [erg]; exact hI)
    rw [erg, e87] at mC mN
    obtain ⟨g6, u1, u2, u3, u4⟩ := m_goAll kI sV mC mN
    have oo := out_ok p1 (p := p) (by omega)
    have u10 : g6 86 10 = tF (g 87 29) := u2.2.2.2.2.2.1
    have u91 : g6 91 = g5 91 := u4.1 91 (by omega) (by omega) (by omega) (by omega)
    have hL : Laid g4 g5 := l2
    have mC2 : ModC (up g6 86 10 (bAnd (g6 86 10) (bXor (bShl 1 p) (-1)))) (kap (rg g4 0) (g 87 29 - 1) (outI p) (fun b => rg g4 0 (16 + b))) (outT (g 87 29) p) := by
      refine ModC_kap hL (by rw [erg]; exact hI) (by funext i; rw [up_ne (by omega), u4.1 87 (by omega) (by omega) (by omega) (by omega)]) (by rw [up_nei (by omega), u4.2 6 (by omega) (by omega)]) (by funext i; rw [up_ne (by omega), u4.1 92 (by omega) (by omega) (by omega) (by omega)]) (by funext i; rw [up_ne (by omega), u4.1 93 (by omega) (by omega) (by omega) (by omega)]) (by funext i; rw [up_ne (by omega), u4.1 94 (by omega) (by omega) (by omega) (by omega)]) (fun b b0 b1 => ?_) (by rw [up_eq, u10]; rfl) oo.1.symm (fun q q0 q1 d => ?_)
      · have b5 : b < 5 := by rw [e87] at b1; have := hR.b0.1; omega
        rw [up_ne (by omega), u91, hL.1 b b0 b5, rg0]
      · rw [e87]
        exact oo.2 q q0 q1 d
    have mN2 : ModN (up g6 86 10 (bAnd (g6 86 10) (bXor (bShl 1 p) (-1)))) (outT (g 87 29) p) (stI (rg g4 0) (g 87 29 - 1) (outI p)) := by
      refine ModN_kap hL (by funext i; rw [up_ne (by omega), u4.1 87 (by omega) (by omega) (by omega) (by omega)]) (by rw [up_eq, u10]; rfl) oo.1.symm (fun q q0 q1 d => ?_)
      rw [e87]
      exact oo.2 q q0 q1 d
    rw [erg] at mC2 mN2
    obtain ⟨g7, w1, w2, w3, w4⟩ := m_goAll hKI hSV mC2 mN2
    have fs : frS g4 g7 := ((hL.S.trans u4.S).trans ⟨fun a x1 _ => by funext i; rw [up_ne x1], by rw [up_nei (by omega)]⟩).trans w4.S
    have hmany := m_many g7 (bAnd (lyS (qF (rg g 0) (stF (rg g 0)))) (bXor (lyS (qF (kap (rg g 0) (g 87 29 - 1) (outI p) (fun b => rg g 0 (16 + b))) (stI (rg g 0) (g 87 29 - 1) (outI p)))) (-1))) (ir_and _ _)
    refine Opk.ro hR (vI (pcn 32 (uI (bAnd (lyS (qF (rg g 0) (stF (rg g 0)))) (bXor (lyS (qF (kap (rg g 0) (g 87 29 - 1) (outI p) (fun b => rg g 0 (16 + b))) (stI (rg g 0) (g 87 29 - 1) (outI p)))) (-1)))) : Int)) ?_ ?_ fr fs
    · rw [bX11_child_0, c_isPerson hF1, bnd_some, p2]
      show EV 15 qX11_child 8 _ [vI _] _ = _
      rw [bX11_child_8, if_neg (b01_pos ok), bX11_child_18, a1, bnd_some]
      show EV 15 qX11_child 22 _ [vI _] _ = _
      rw [bX11_child_22, t1, bnd_some]
      show EV 15 qX11_child 34 _ [] _ = _
      rw [bX11_child_34, lo, bnd_some]
      show EV 15 qX11_child 42 _ [] _ = _
      rw [bX11_child_42, s1, bnd_some]
      show EV 15 qX11_child 56 _ [vI _] _ = _
      rw [bX11_child_56, q4.2.2.1, c_bitCount, bnd_some]
      exact bX11_child_71 _ _ _ _
    · rw [bX12_child_0, e_isOne _ _ (by rw [e87]; exact p1), bnd_some, e87]
      show EV 13 qX12_child 5 _ [vI _] _ = _
      rw [bX12_child_5, if_neg (b01_pos ok), bX12_child_13, bX12_allLyings_0, l1, bnd_some]
      have al : EV 12 qX12_allLyings 4 [vR 86] ((none : Option SV).toList ++ []) g5 = some (some (vI (lyS (qF (rg g 0) (stF (rg g 0))))), g6) := by
        show EV 12 qX12_allLyings 4 _ [] _ = _
        rw [bX12_allLyings_4, u1, bnd_some]
        show EV 12 qX12_allLyings 8 _ [] _ = _
        rw [bX12_allLyings_8, m_lyings kI (QI_F kI sV) u3, bnd_some]
        exact bX12_allLyings_12 _ _
      rw [al, bnd_some]
      show EV 13 qX12_child 17 _ [vI _] _ = _
      rw [bX12_child_17, w1, bnd_some]
      show EV 13 qX12_child 36 _ [] _ = _
      rw [bX12_child_36, m_lyings hKI (QI_F hKI hSV) w3, bnd_some]
      show EV 13 qX12_child 41 _ [vI _, vI _] _ = _
      rw [bX12_child_41, hmany, bnd_some]
      exact bX12_child_47 _ _ _ _
  · refine Opk.no hR (-2) (by omega) (vI (-2)) ?_ ?_
    · rw [bX11_child_0, c_isPerson hF1, bnd_some, p2]
      show EV 15 qX11_child 8 _ [vI _] _ = _
      rw [bX11_child_8, if_pos (b01_neg ok), bX11_child_11, c_counted _ _ c7, bnd_some]
      exact bX11_child_17 _ _ _
    · have k87 : ctH g (-2) 87 = g 87 := ctH_86 (by omega)
      rw [bX12_child_0, e_isOne _ _ (by rw [k87]; exact p1), bnd_some, k87]
      show EV 13 qX12_child 5 _ [vI _] _ = _
      rw [bX12_child_5, if_pos (b01_neg ok), bX12_child_8, e_bad _ (hR.m9 (by omega) _), bnd_some]
      exact bX12_child_12 _ _ _
