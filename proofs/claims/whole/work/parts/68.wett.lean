/-! wet: the op -/
def stW (φ : Int → Int) : Int → Int := fun b => φ (16 + b)
theorem wet_ok {φ : Int → Int} (hI : FI φ) {p : Int} (hp : 0 ≤ p ∧ p < φ 29) : KI (kap φ 1 (conI p) (stW φ)) ∧ SVd (kap φ 1 (conI p) (stW φ)) (stI φ 1 (conI p)) ∧ stI φ 1 (conI p) = (φ 21, φ (33 + p), 0, 0) := by
  have hι : ∀ i, 0 ≤ i → i < 1 → 0 ≤ conI p i ∧ conI p i < φ 29 := fun i i0 i1 => hp
  refine ⟨KI_kap hI (by omega) hι (fun k k0 k1 => ?_), SVd_kap hI hι, by simp [stI, conI]⟩
  have := (hI.2.1 k k0 k1).2.2.2
  unfold stW
  omega
theorem or0 : ∀ w : Nat, w < 10 → bOr 0 (wb (w : Int)) = wb (w : Int) := by decide +kernel
theorem or0I {q : Int} (h : 0 ≤ q ∧ q < 10) : bOr 0 (wb q) = wb q := by
  obtain ⟨a, rfl⟩ := Int.eq_ofNat_of_zero_le h.1
  exact or0 a (by omega)
theorem c_wet {g : Hp} {φ : Int → Int} (hI : FI φ) (hC : ClsF g 1 φ) {p L pl wt : Int} (hp : 0 ≤ p ∧ p < φ 29) (hL : 0 ≤ L ∧ L ≤ 6) (hwt : 0 ≤ wt ∧ wt < 32) (x5 : Int) : ∃ g', EV 30 qX11_wet 63 [vR 0, vI p, vI L, vI pl, vI wt, vI x5] [] g = some (some (vI (uc (kap φ 1 (conI p) (stW φ)) pl wt L.toNat (stI φ 1 (conI p)) (wb (φ (33 + p))))), g') ∧ frT g g' := by
  have h0 := hI.1
  obtain ⟨hK, hV, hs⟩ := wet_ok hI hp
  have hq := (hV.2 0 (by omega) (by omega)).1
  rw [hs] at hq
  have hq' : 0 ≤ φ (33 + p) ∧ φ (33 + p) < 5 + kap φ 1 (conI p) (stW φ) 0 := hq
  rw [kap_o _ _ _ _ (by omega)] at hq'
  obtain ⟨g1, g2, a1, a2, a3, a4, a5, a6, a7, a8⟩ := c_alone hI hC hp
  have cK : ClsK g2 20 (kap φ 1 (conI p) (stW φ)) (stI φ 1 (conI p)) := by
    refine ClsK_kap hI a3 (by omega) a5 a4 (fun a x1 x2 x3 => a6 a (by omega) (by omega) (by omega)) (fun k k0 k1 => ?_) (fun i i0 i1 => ?_)
    · rw [a6 31 (by omega) (by omega) (by omega)]
      exact (a3.2.1 k k0 k1).2.2.2
    · have : i = 0 := by omega
      subst this
      exact a7
  obtain ⟨g3, s3, b1, b2, b3⟩ := c_rows hK (kap_29 _ _ _ _) (pl := pl) hwt L.toNat (20 + L.toNat) L g2 _ 0 (by omega) (by omega) (by omega) hV cK (by omega)
  refine ⟨g3, ?_, a8.trans b3⟩
  rw [bX11_wet_63, a1, bnd_some]
  show EV 30 qX11_wet 74 _ [] _ = _
  rw [bX11_wet_74, a2, bnd_some]
  show EV 30 qX11_wet 82 _ [] _ = _
  rw [bX11_wet_82 _ _ _ _ _ _ (by omega), b1, bnd_some]
  show EV 30 qX11_wet 94 _ [vI _] _ = _
  rw [bX11_wet_94]
  rw [show (stI φ 1 (conI p)).2.1 = φ (33 + p) by rw [hs], or0I (by omega)]
theorem m_wet {g : Hp} {φ : Int → Int} (hI : FI φ) (hφ : rg g 0 = φ) {p L pl wt : Int} (hp : 0 ≤ p ∧ p < φ 29) (hL : 0 ≤ L ∧ L ≤ 6) (hpl : 0 ≤ pl ∧ pl < 10) (hwt : 0 ≤ wt ∧ wt < 32) : ∃ g', EV 11 qX12_wet 54 [vR 86, vI p, vI L, vI pl, vI wt, vU, vU, vU, vU] [] g = some (some (vI (uc (kap φ 1 (conI p) (stW φ)) pl wt L.toNat (stI φ 1 (conI p)) (wb (φ (33 + p))))), g') ∧ frS g g' := by
  obtain ⟨N, hN⟩ : ∃ N : Nat, (N : Int) = 10240 := ⟨10240, rfl⟩
  obtain ⟨M, hM⟩ : ∃ N : Nat, (N : Int) = 32 := ⟨32, rfl⟩
  have h0 := hI.1
  have h22 := hI.2.2.2.1
  have h29 := hI.2.2.2.2.2.2.1
  have ek : ∀ k, g 87 k = φ k := fun k => by rw [← hφ, rg0]
  have al := al_ok (p := p) (by omega)
  obtain ⟨hK, hV, hs⟩ := wet_ok hI hp
  have hly := SVd_ly hK.1 hV
  have hq := (hV.2 0 (by omega) (by omega)).1
  rw [hs] at hq hly
  have hq' : 0 ≤ φ (33 + p) ∧ φ (33 + p) < 5 + kap φ 1 (conI p) (stW φ) 0 := hq
  rw [kap_o _ _ _ _ (by omega)] at hq'
  have hly' : 0 ≤ φ 21 ∧ φ 21 < 32 := hly
  obtain ⟨g1, l1, l2⟩ := m_layNow g (by rw [ek]; exact h22) (by rw [ek]; exact h29)
  have e87a : g1 87 = g 87 := l2.2.2.2.2.1 87 (by omega) (by omega) (by omega) (by omega) (by omega)
  generalize hg2 : up g1 86 10 (bShl 1 p) = g2
  have e10 : g2 86 10 = bShl 1 p := by subst hg2; exact up_eq ..
  have eo : ∀ a : Nat, a ≠ 86 → g2 a = g1 a := fun a ha => by subst hg2; funext i; rw [up_ne ha]
  have e6 : g2 86 6 = g1 86 6 := by subst hg2; rw [up_nei (by omega)]
  have e3 : g2 86 3 = g1 86 3 := by subst hg2; rw [up_nei (by omega)]
  have hIg : FI (rg g 0) := by rw [hφ]; exact hI
  have mC : ModC g2 (kap (rg g 0) 1 (conI p) (stW (rg g 0))) (bShl 1 p) := by
    refine ModC_kap l2 hIg (eo 87 (by omega)) e6 (eo 92 (by omega)) (eo 93 (by omega)) (eo 94 (by omega)) (fun k k0 k1 => ?_) e10 al.1.symm (fun q q0 q1 d => ?_)
    · rw [eo 91 (by omega), l2.1 k k0 (by rw [ek] at k1; omega)]
      unfold stW
      rw [rg0]
    · have := (al.2.1 q q0 q1).mp d
      rw [ek]
      exact ⟨by omega, this.symm⟩
  rw [hφ] at mC
  generalize hκ : kap φ 1 (conI p) (stW φ) = κ at *
  have k29 : κ 29 = 1 := by rw [← hκ]; exact kap_29 _ _ _ _
  obtain ⟨g3, u5, z1, z2, z3, z4⟩ := m_wet_z1 p L pl wt N 0 g2 (by omega) (by omega)
  have e87 : ∀ k, g3 87 k = φ k := fun k => by rw [z4 87 (by omega), eo 87 (by omega), e87a, ek]
  have f3 : frW g2 g3 := ⟨fun a _ _ a3 _ => z4 a a3, fun i _ => by rw [z4 86 (by omega)]⟩
  have hwq := (w_lt (w := 0) (q := φ (33 + p)) (by omega) (by omega)).1
  rw [or0I (by omega)] at hwq
  generalize hJ : 1024 * φ (33 + p) + 32 * φ 21 + wb (φ (33 + p)) = J
  have hJr : 0 ≤ J ∧ J < 10240 := by omega
  have hskJ : sk J = stI φ 1 (conI p) := by
    rw [hs]
    unfold sk
    rw [show J / 32 % 32 = φ 21 by omega, show J / 1024 = φ (33 + p) by omega]
  have hJm : J % 32 = wb (φ (33 + p)) := by omega
  generalize hg4 : up g3 100 J 1 = g4
  have e100 : ∀ j, 0 ≤ j → j < 10240 → g4 100 j = if j = J then 1 else 0 := fun j j0 j1 => by
    subst hg4
    by_cases e : j = J
    · rw [if_pos e, e, up_eq]
    · rw [if_neg e, up_nei e, z2 j j0 j1]
  have f4 : frW g3 g4 := by
    subst hg4
    exact ⟨fun a _ _ a3 _ => by funext i; rw [up_ne a3], fun i _ => by rw [up_ne (by omega)]⟩
  have hV4 : Vr κ (g4 100) := fun j j0 j1 => by
    rw [e100 j j0 j1]
    by_cases e : j = J
    · rw [if_pos e]
      refine ⟨by omega, fun _ => ?_⟩
      rw [e, hskJ]
      exact hV
    · rw [if_neg e]
      exact ⟨Int.le_refl _, fun h => absurd h (by omega)⟩
  have hT4 : sumF (g4 100) N 0 = 1 := by
    rw [sumF_one (a := J) N 0 hJr.1 (by omega) (fun j j0 j1 jn => by rw [e100 j j0 (by omega), if_neg jn]), e100 J hJr.1 hJr.2, if_pos rfl]
  have hU4 : Ur κ pl wt N L.toNat (g4 100) = uc κ pl wt L.toNat (stI φ 1 (conI p)) (wb (φ (33 + p))) := by
    show sumF _ N 0 = _
    rw [sumF_one (a := J) N 0 hJr.1 (by omega) (fun j j0 j1 jn => by
      show g4 100 j * _ = 0
      rw [e100 j j0 (by omega), if_neg jn, Int.zero_mul])]
    show g4 100 J * _ = _
    rw [e100 J hJr.1 hJr.2, if_pos rfl, Int.one_mul, hskJ, hJm]
  obtain ⟨g5, w6, w7, w8, o1, o2, o3, o4, o5⟩ := m_wet_out hK k29 (by omega) ((al.2.1 p (by omega) (by omega)).mpr rfl) al.2.2 (fun q q0 q1 dq => (al.2.1 q q0 q1).mp dq) hN pl wt pl wt (φ (33 + p)) hL L.toNat 0 g4 vU vU (by omega) ((mC.keepW f3).keepW f4) hV4 (by rw [hT4]; decide)
  have fin := m_wet_sum p L (φ (33 + p)) hpl hwt w8 g5 (fun j j0 j1 => by
    have x := (o3 j j0 j1).1
    have y := (sumF_ge (f := g5 100) (a := j) N 0 (fun i i0 i1 => (o3 i i0 (by omega)).1)).2 j0 (by omega)
    omega) M 0 0 (by omega) (by omega) (by omega) (by omega)
  refine ⟨g5, ?_, (l2.S.trans ⟨fun a a1 _ => eo a a1, e3⟩).trans ?_⟩
  · rw [bX12_wet_54, l1, bnd_some]
    show EV 11 qX12_wet 58 _ [] _ = _
    have s2 : EV 11 qX12_wet 90 [vR 86, vI p, vI L, vI pl, vI wt, vI u5, vU, vU, vU] [] g3 = EV 11 qX12_wet 138 [vR 86, vI p, vI L, vI pl, vI wt, vI (φ (33 + p)), vU, vU, vU] [vI (wb (φ (33 + p))), vI (1024 * φ (33 + p) + 32 * φ 21), vR 100] g3 := by
      rw [bX12_wet_90 _ _ _ _ _ _ (by omega) (by omega) (by rw [e87]; omega) (by rw [e87]; omega) (by rw [e87, e87]; omega), e87, e87]
      by_cases c : φ (33 + p) ≤ 4
      · rw [if_pos c, bX12_wet_137, show wb (φ (33 + p)) = 0 from if_neg (by omega)]
      · rw [if_neg c, bX12_wet_128 _ _ _ _ _ _ _ (by omega), show wb (φ (33 + p)) = bShl 1 (φ (33 + p) - 5) from if_pos (by omega)]
    rw [bX12_wet_58, hg2, z1, s2, bX12_wet_138 _ _ _ _ _ _ _ _ (by omega) (by omega), hJ, hg4]
    refine o1.trans ?_
    rw [bX12_wet_353, fin, Int.zero_add, ← sum_all (κ := κ) hpl hwt hN hM, o5, hU4]
  · have f := (f3.trans f4).trans o2
    exact ⟨fun a a1 a2 => f.1 a a1 (by omega) (by omega) (by omega), f.2 3 (by omega)⟩
theorem o_wet {g : Hp} {n : Int} (hR : Rel g n) (hn : n < 1000) (p L pl wt : Int) : Opk g n (EV 30 qX11_wet 0 [vR 0, vI p, vI L, vI pl, vI wt, vU] []) (EV 11 qX12_wet 0 [vR 86, vI p, vI L, vI pl, vI wt, vU, vU, vU, vU] []) := by
  have c7 := hR.c7 (by omega)
  obtain ⟨p1, p2, p3⟩ := hR.p29
  obtain ⟨b1, b2, b3, b4⟩ := hR.b0
  have hI := hR.1.1
  have h0 := hI.1
  have hpw := pw2_le (n := g 87 0) b1
  have hpos := pw2_pos (n := g 87 0)
  by_cases ok : (0 ≤ p ∧ p ≤ g 87 29 - 1) ∧ (0 ≤ L ∧ L ≤ 6) ∧ (0 ≤ pl ∧ pl ≤ 4 + g 87 0) ∧ (0 ≤ wt ∧ wt ≤ pw2 (g 87 0) - 1)
  · have hp : 0 ≤ p ∧ p < rg g 0 29 := by rw [rg0]; omega
    obtain ⟨g1, a1, a2⟩ := c_wet hI hR.1.2 (pl := pl) (wt := wt) hp ok.2.1 (by omega) 1
    have e87 : g1 87 = g 87 := a2 87 (by omega) (by omega)
    have erg : rg g1 0 = rg g 0 := by unfold rg; rw [e87]
    obtain ⟨g2, m1, m2⟩ := m_wet hI erg (pl := pl) (wt := wt) hp ok.2.1 (by omega) (by omega)
    refine Opk.ro hR (vI (uc (kap (rg g 0) 1 (conI p) (stW (rg g 0))) pl wt L.toNat (stI (rg g 0) 1 (conI p)) (wb (rg g 0 (33 + p))))) ?_ ?_ a2 m2
    · rw [bX11_wet_0, c_isPerson hF1, bnd_some, p2]
      show EV 30 qX11_wet 8 _ [vI _] _ = _
      rw [bX11_wet_8, if_neg (b01_pos ok.1), bX11_wet_11, c_isPlace hF1 _ _ (by rw [b2]; exact b1), bnd_some, b2]
      show EV 30 qX11_wet 19 _ [vI _] _ = _
      rw [bX11_wet_19, if_neg (b01_pos ok.2.2.1), bX11_wet_22, c_areBridges hF1 _ _ (by rw [b2]; exact b1), bnd_some, b2]
      show EV 30 qX11_wet 31 _ [vI _] _ = _
      rw [bX11_wet_31, if_neg (b01_pos ok.2.2.2), bX11_wet_34, bX11_wet_39, if_neg (by omega), bX11_wet_46, if_neg (by omega), bX11_wet_50, if_pos (by omega), a1]
    · rw [bX12_wet_0, e_isOne _ _ (by rw [e87]; exact p1), bnd_some, e87]
      show EV 11 qX12_wet 5 _ [vI _] _ = _
      rw [bX12_wet_5, if_neg (b01_pos ok.1), bX12_wet_8, e_in, bnd_some]
      show EV 11 qX12_wet 17 _ [vI _] _ = _
      rw [bX12_wet_17, if_neg (b01_pos ok.2.1), bX12_wet_20, e_isPlace _ _ (by rw [e87]; exact b1), bnd_some, e87]
      show EV 11 qX12_wet 25 _ [vI _] _ = _
      rw [bX12_wet_25, if_neg (b01_pos ok.2.2.1), bX12_wet_28 _ _ _ _ _ (by rw [e87, shl1I b1]; omega), e_in, bnd_some, e87, shl1I b1]
      show EV 11 qX12_wet 46 _ [vI _] _ = _
      rw [bX12_wet_46, if_neg (b01_pos ok.2.2.2), m1]
  · refine Opk.no hR (-2) (by omega) (vI (-2)) ?_ ?_
    · have fin : ∀ x5 : Int, EV 30 qX11_wet 56 [vR 0, vI p, vI L, vI pl, vI wt, vI x5] [] g = some (some (vI (-2)), ctH g (-2)) := fun x5 => by
        rw [bX11_wet_56, c_counted _ _ c7, bnd_some]
        exact bX11_wet_62 _ _ _ _ _ _ _
      have fi0 : EV 30 qX11_wet 38 [vR 0, vI p, vI L, vI pl, vI wt, vU] [] g = some (some (vI (-2)), ctH g (-2)) := by
        rw [bX11_wet_38, bX11_wet_39, if_pos rfl, fin]
      rw [bX11_wet_0, c_isPerson hF1, bnd_some, p2]
      show EV 30 qX11_wet 8 _ [vI _] _ = _
      rw [bX11_wet_8]
      by_cases o1 : 0 ≤ p ∧ p ≤ g 87 29 - 1
      · rw [if_neg (b01_pos o1), bX11_wet_11, c_isPlace hF1 _ _ (by rw [b2]; exact b1), bnd_some, b2]
        show EV 30 qX11_wet 19 _ [vI _] _ = _
        rw [bX11_wet_19]
        by_cases o2 : 0 ≤ pl ∧ pl ≤ 4 + g 87 0
        · rw [if_neg (b01_pos o2), bX11_wet_22, c_areBridges hF1 _ _ (by rw [b2]; exact b1), bnd_some, b2]
          show EV 30 qX11_wet 31 _ [vI _] _ = _
          rw [bX11_wet_31]
          by_cases o3 : 0 ≤ wt ∧ wt ≤ pw2 (g 87 0) - 1
          · rw [if_neg (b01_pos o3), bX11_wet_34, bX11_wet_39, if_neg (by omega), bX11_wet_46]
            by_cases o4 : L < 0
            · rw [if_pos o4, fin]
            · rw [if_neg o4, bX11_wet_50, if_neg (fun z => ok ⟨o1, by omega, o2, o3⟩), fin]
          · rw [if_pos (b01_neg o3), fi0]
        · rw [if_pos (b01_neg o2), fi0]
      · rw [if_pos (b01_neg o1), fi0]
    · have k87 : ctH g (-2) 87 = g 87 := ctH_86 (by omega)
      have fin : EV 11 qX12_wet 49 [vR 86, vI p, vI L, vI pl, vI wt, vU, vU, vU, vU] [] (ctH g (-2)) = some (some (vI (-2)), metH (ctH g (-2)) (-2)) := by
        rw [bX12_wet_49, e_bad _ (hR.m9 (by omega) _), bnd_some]
        exact bX12_wet_53 _ _ _ _ _ _
      rw [bX12_wet_0, e_isOne _ _ (by rw [k87]; exact p1), bnd_some, k87]
      show EV 11 qX12_wet 5 _ [vI _] _ = _
      rw [bX12_wet_5]
      by_cases o1 : 0 ≤ p ∧ p ≤ g 87 29 - 1
      · rw [if_neg (b01_pos o1), bX12_wet_8, e_in, bnd_some]
        show EV 11 qX12_wet 17 _ [vI _] _ = _
        rw [bX12_wet_17]
        by_cases o2 : 0 ≤ L ∧ L ≤ 6
        · rw [if_neg (b01_pos o2), bX12_wet_20, e_isPlace _ _ (by rw [k87]; exact b1), bnd_some, k87]
          show EV 11 qX12_wet 25 _ [vI _] _ = _
          rw [bX12_wet_25]
          by_cases o3 : 0 ≤ pl ∧ pl ≤ 4 + g 87 0
          · rw [if_neg (b01_pos o3), bX12_wet_28 _ _ _ _ _ (by rw [k87, shl1I b1]; omega), e_in, bnd_some, k87, shl1I b1]
            show EV 11 qX12_wet 46 _ [vI _] _ = _
            rw [bX12_wet_46, if_pos (b01_neg (fun z => ok ⟨o1, o2, o3, z⟩)), fin]
          · rw [if_pos (b01_neg o3), fin]
        · rw [if_pos (b01_neg o2), fin]
      · rw [if_pos (b01_neg o1), fin]
