/-! undo -/
def UndF (φ ψ : Int → Int) (m : Int) : Prop := (0 ≤ m ∧ m < 16 ∧ φ 36 = m + 1) ∧ (∀ j, j ≠ 21 → j ≠ 33 → j ≠ 34 → j ≠ 35 → j ≠ 36 → ψ j = φ j) ∧ ψ 21 = φ (37 + 4 * m) ∧ (∀ q, 0 ≤ q → q < 3 → ψ (33 + q) = φ (38 + 4 * m + q)) ∧ ψ 36 = m
theorem FI_UndF {φ ψ : Int → Int} {m : Int} (hI : FI φ) (h : UndF φ ψ m) : FI ψ := by
  obtain ⟨s1, s2, s3, s4, s5⟩ := h
  obtain ⟨h0, hbb, hl, hc, hch, hch2, hp, hpp, hs, hss⟩ := hI
  have b := hss m (by omega) (by omega)
  unfold FI
  rw [s2 0 (by omega) (by omega) (by omega) (by omega) (by omega), s2 22 (by omega) (by omega) (by omega) (by omega) (by omega), s2 23 (by omega) (by omega) (by omega) (by omega) (by omega), s2 24 (by omega) (by omega) (by omega) (by omega) (by omega), s2 25 (by omega) (by omega) (by omega) (by omega) (by omega), s2 26 (by omega) (by omega) (by omega) (by omega) (by omega), s2 29 (by omega) (by omega) (by omega) (by omega) (by omega), s3, s5]
  refine ⟨h0, fun k k0 k1 => ?_, b.1, hc, fun c c0 c1 => ?_, hch2, hp, fun q q0 q1 => ?_, by omega, fun s k0 k1 => ⟨?_, fun q q0 q1 => ?_⟩⟩
  · rw [s2 (1 + k) (by omega) (by omega) (by omega) (by omega) (by omega), s2 (6 + k) (by omega) (by omega) (by omega) (by omega) (by omega), s2 (11 + k) (by omega) (by omega) (by omega) (by omega) (by omega), s2 (16 + k) (by omega) (by omega) (by omega) (by omega) (by omega)]
    exact hbb k k0 k1
  · rw [s2 (23 + c) (by omega) (by omega) (by omega) (by omega) (by omega), s2 (25 + c) (by omega) (by omega) (by omega) (by omega) (by omega), s2 (27 + c) (by omega) (by omega) (by omega) (by omega) (by omega)]
    exact hch c c0 c1
  · rw [s2 (30 + q) (by omega) (by omega) (by omega) (by omega) (by omega), s4 q q0 (by omega)]
    exact ⟨(hpp q q0 q1).1, b.2 q q0 q1⟩
  · rw [s2 (37 + 4 * s) (by omega) (by omega) (by omega) (by omega) (by omega)]
    exact (hss s k0 (by omega)).1
  · rw [s2 (38 + 4 * s + q) (by omega) (by omega) (by omega) (by omega) (by omega)]
    exact (hss s k0 (by omega)).2 q q0 q1
theorem pk3_dig {w a b c d : Int} (ha : 0 ≤ a ∧ a < 32) (hb : 0 < w → 0 ≤ b ∧ b < 10) (hc : 1 < w → 0 ≤ c ∧ c < 10) (hd : 2 < w → 0 ≤ d ∧ d < 10) : 0 ≤ pk3 w a b c d ∧ pk3 w a b c d / 10 / 10 / 10 = a ∧ (0 < w → pk3 w a b c d / 10 / 10 % 10 = b) ∧ (1 < w → pk3 w a b c d / 10 % 10 = c) ∧ (2 < w → pk3 w a b c d % 10 = d) := by
  unfold pk3
  have eB : (0 ≤ (if 0 < w then b else 0) ∧ (if 0 < w then b else 0) < 10) ∧ (0 < w → (if 0 < w then b else 0) = b) := by
    by_cases x : 0 < w
    · rw [if_pos x]; exact ⟨hb x, fun _ => rfl⟩
    · rw [if_neg x]; exact ⟨by omega, fun z => absurd z x⟩
  have eC : (0 ≤ (if 1 < w then c else 0) ∧ (if 1 < w then c else 0) < 10) ∧ (1 < w → (if 1 < w then c else 0) = c) := by
    by_cases x : 1 < w
    · rw [if_pos x]; exact ⟨hc x, fun _ => rfl⟩
    · rw [if_neg x]; exact ⟨by omega, fun z => absurd z x⟩
  have eD : (0 ≤ (if 2 < w then d else 0) ∧ (if 2 < w then d else 0) < 10) ∧ (2 < w → (if 2 < w then d else 0) = d) := by
    by_cases x : 2 < w
    · rw [if_pos x]; exact ⟨hd x, fun _ => rfl⟩
    · rw [if_neg x]; exact ⟨by omega, fun z => absurd z x⟩
  generalize (if 0 < w then b else 0) = B at *
  generalize (if 1 < w then c else 0) = C at *
  generalize (if 2 < w then d else 0) = D at *
  refine ⟨by omega, by omega, fun z => ?_, fun z => ?_, fun z => ?_⟩
  · have := eB.2 z
    omega
  · have := eC.2 z
    omega
  · have := eD.2 z
    omega
theorem o_undo {g : Hp} {n : Int} (hR : Rel g n) (hn : n < 1000) : Opk g n (EV 9 qX11_undo 0 [vR 0] []) (EV 9 qX12_undo 0 [vR 86, vU, vU] []) := by
  have c7 := hR.c7 (by omega)
  obtain ⟨s1, s2⟩ := hR.s36
  have hI := hR.1.1
  have hC := hR.1.2
  by_cases e : g 87 36 = 0
  · refine Opk.no hR (-3) (by omega) (vI (-3)) ?_ ?_
    · rw [bX11_undo_0, if_pos (by omega), bX11_undo_13, c_counted _ _ c7, bnd_some]
      exact bX11_undo_19 _ _
    · have k87 : ctH g (-3) 87 = g 87 := ctH_86 (by omega)
      rw [bX12_undo_0, if_pos (by rw [k87]; exact e), bX12_undo_10, e_met _ _ (hR.m9 (by omega) _), bnd_some]
      exact bX12_undo_16 _ _
  · obtain ⟨m, hm⟩ : ∃ m : Int, g 87 36 = m + 1 := ⟨g 87 36 - 1, by omega⟩
    have hm0 : 0 ≤ m ∧ m < 16 := by omega
    have hb := hI.2.2.2.2.2.2.2.2.2 m hm0.1 (by rw [rg0]; omega)
    have hcl := hC.2.2.2.2.2.2.2.2 m hm0.1 (by rw [rg0]; omega)
    have h0 := hI.1
    have hp := hI.2.2.2.2.2.2.1
    have hpw := pw2_le h0
    simp only [rg0] at hb hcl h0 hp hpw
    have d0 := hb.2 0
    have d1 := hb.2 1
    have d2 := hb.2 2
    rw [show 38 + 4 * m + 0 = 38 + 4 * m by omega] at d0
    rw [show 38 + 4 * m + 1 = 39 + 4 * m by omega] at d1
    rw [show 38 + 4 * m + 2 = 40 + 4 * m by omega] at d2
    obtain ⟨dg0, dg1, dg2, dg3, dg4⟩ := pk3_dig (w := g 87 29) (a := g 87 (37 + 4 * m)) (b := g 87 (38 + 4 * m)) (c := g 87 (39 + 4 * m)) (d := g 87 (40 + 4 * m)) (by omega) (by omega) (by omega) (by omega)
    have hcl' : g 19 m = pk3 (g 87 29) (g 87 (37 + 4 * m)) (g 87 (38 + 4 * m)) (g 87 (39 + 4 * m)) (g 87 (40 + 4 * m)) := hcl
    generalize pk3 (g 87 29) (g 87 (37 + 4 * m)) (g 87 (38 + 4 * m)) (g 87 (39 + 4 * m)) (g 87 (40 + 4 * m)) = x at *
    have e18 : g 18 1 = m + 1 := by omega
    generalize hga : unp (up g 18 1 m) 1 x = ga
    have hcE : EV 9 qX11_undo 0 [vR 0] [] g = some (some (vI (g 87 (37 + 4 * m))), ga) := by
      rw [bX11_undo_0, if_neg (by omega), bX11_undo_20]
      have pp : EV 8 qX6_pop 0 [vR 18] [] g = some (some (vI x), up g 18 1 m) := by
        have := bX6_pop_0 hF1 g
        have e1 : g (1 + 17) 1 = m + 1 := e18
        rw [e1, if_neg (by omega), bX6_pop_9 hF1 _ (by rw [e1]; omega) (by rw [e1]; omega), e1, show m + 1 - 1 = m by omega] at this
        have e2 : g (1 + 18) m = x := hcl'
        rw [e2] at this
        exact this
      rw [pp, bnd_some]
      show EV 9 qX11_undo 34 _ [vI _, vR 1] _ = _
      rw [bX11_undo_34, c_unpack hF1 _ _ dg0, bnd_some, hga]
      show EV 9 qX11_undo 37 _ [] _ = _
      rw [bX11_undo_37]
      subst hga
      unfold unp
      rw [up_eq, dg1]
    have gao : ∀ a : Nat, a ≠ 1 → a ≠ 17 → a ≠ 18 → ga a = g a := fun a x1 x2 x3 => by
      subst hga
      funext i
      unfold unp
      rw [up_ne x1, up_ne (by omega), up_ne (by omega), up_ne (by omega), up_ne x3]
    have e87 : ga 87 = g 87 := gao 87 (by omega) (by omega) (by omega)
    generalize hgb : up (up (up (up (up ga 87 36 m) 87 21 (g 87 (37 + 4 * m))) 87 33 (g 87 (38 + 4 * m))) 87 34 (g 87 (39 + 4 * m))) 87 35 (g 87 (40 + 4 * m)) = gb
    have hmE : EV 9 qX12_undo 0 [vR 86, vU, vU] [] ga = some (some (vI (g 87 (37 + 4 * m))), gb) := by
      have it : ∀ (y : Hp) (k q : Int), 0 ≤ q → q < 3 → 0 ≤ k → k < 200 → EV 9 qX12_undo 56 [vR 86, vI k, vI q] [] y = EV 9 qX12_undo 56 [vR 86, vI k, vI (q + 1)] [] (up y 87 (33 + q) (y 87 (k + 1 + q))) := fun y k q q0 q1 k0 k1 => by
        rw [bX12_undo_56, if_neg (by omega), bX12_undo_61 _ _ _ (by omega) (by omega) (by omega) (by omega) (by omega) (by omega)]
      rw [bX12_undo_0, if_neg (by rw [e87]; exact e), bX12_undo_17 _ (by rw [e87]; omega) (by rw [e87]; omega) (by rw [e87]; omega) (by rw [e87]; omega), e87, hm, show m + 1 - 1 = m by omega, up_nei (by omega), e87]
      rw [it _ _ _ (by omega) (by omega) (by omega) (by omega), up_nei (by omega), up_nei (by omega), e87, show (0 : Int) + 1 = 1 from rfl, it _ _ _ (by omega) (by omega) (by omega) (by omega), up_nei (by omega), up_nei (by omega), up_nei (by omega), e87, show (1 : Int) + 1 = 2 from rfl, it _ _ _ (by omega) (by omega) (by omega) (by omega), up_nei (by omega), up_nei (by omega), up_nei (by omega), up_nei (by omega), e87, bX12_undo_56, if_pos (by omega), bX12_undo_86]
      rw [show 37 + 4 * m + 1 + 0 = 38 + 4 * m by omega, show 37 + 4 * m + 1 + 1 = 39 + 4 * m by omega, show 37 + 4 * m + 1 + 2 = 40 + 4 * m by omega, show (33 : Int) + 0 = 33 from rfl, show (33 : Int) + 1 = 34 from rfl, show (33 : Int) + 2 = 35 from rfl, hgb]
      subst hgb
      rw [up_nei (by omega), up_nei (by omega), up_nei (by omega), up_eq]
    have gb87 : ∀ j, gb 87 j = if j = 35 then g 87 (40 + 4 * m) else if j = 34 then g 87 (39 + 4 * m) else if j = 33 then g 87 (38 + 4 * m) else if j = 21 then g 87 (37 + 4 * m) else if j = 36 then m else g 87 j := fun j => by
      subst hgb
      unfold up
      rw [e87]
      simp
    have gbo : ∀ a : Nat, a ≠ 87 → gb a = ga a := fun a ha => by
      subst hgb
      funext i
      rw [up_ne ha, up_ne ha, up_ne ha, up_ne ha, up_ne ha]
    have hU : UndF (rg g 0) (rg gb 0) m := by
      unfold UndF
      simp only [rg0]
      refine ⟨⟨hm0.1, hm0.2, hm⟩, fun j j1 j2 j3 j4 j5 => ?_, ?_, fun q q0 q1 => ?_, ?_⟩
      · rw [gb87, if_neg j4, if_neg j3, if_neg j2, if_neg j1, if_neg j5]
      · rw [gb87, if_neg (by omega), if_neg (by omega), if_neg (by omega), if_pos rfl]
      · rw [gb87]
        rcases (by omega : q = 0 ∨ q = 1 ∨ q = 2) with rfl | rfl | rfl
        · rw [if_neg (by omega), if_neg (by omega), if_pos (by omega), show 38 + 4 * m + 0 = 38 + 4 * m by omega]
        · rw [if_neg (by omega), if_pos (by omega), show 38 + 4 * m + 1 = 39 + 4 * m by omega]
        · rw [if_pos (by omega), show 38 + 4 * m + 2 = 40 + 4 * m by omega]
      · rw [gb87, if_neg (by omega), if_neg (by omega), if_neg (by omega), if_neg (by omega), if_pos rfl]
    have hI2 := FI_UndF hI hU
    refine Opk.tell hR hcE hmE ⟨hI2, ?_⟩ (fun a ha => gao a (by omega) (by omega) (by omega)) gbo (fun k hk => by rw [gb87, if_neg (by omega), if_neg (by omega), if_neg (by omega), if_neg (by omega), if_neg (by omega), e87])
    obtain ⟨u1, u2, u3, u4, u5⟩ := hU
    obtain ⟨c0, c1, c2, c3, c4, c5, c6, c7', c8⟩ := hC
    obtain ⟨q0, qbb, ql, qc, qch, qch2, qp, qpp, qs', qss⟩ := hI
    have k1 : ∀ i, i ≠ 6 → gb 1 i = g 1 i := fun i hi => by
      rw [gbo 1 (by omega)]
      subst hga
      unfold unp
      rw [up_nei hi, up_ne (by omega), up_ne (by omega), up_ne (by omega), up_ne (by omega)]
    have ko : ∀ a : Nat, a ≠ 1 → a ≠ 17 → a ≠ 18 → a ≠ 87 → gb a = g a := fun a x1 x2 x3 x4 => by rw [gbo a x4, gao a x1 x2 x3]
    have k17 : ∀ q, 0 ≤ q → q < 3 → gb 17 q = if q = 0 then x / 10 / 10 % 10 else if q = 1 then x / 10 % 10 else x % 10 := fun q q0 q1 => by
      rw [gbo 17 (by omega)]
      subst hga
      unfold unp
      rw [up_ne (by omega)]
      rcases (by omega : q = 0 ∨ q = 1 ∨ q = 2) with rfl | rfl | rfl
      · exact up_eq
      · exact (up_nei (by omega)).trans up_eq
      · exact (up_nei (by omega)).trans ((up_nei (by omega)).trans up_eq)
    unfold ClsF
    rw [u2 0 (by omega) (by omega) (by omega) (by omega) (by omega), u2 22 (by omega) (by omega) (by omega) (by omega) (by omega), u2 29 (by omega) (by omega) (by omega) (by omega) (by omega), u3, u5, k1 1 (by omega), k1 7 (by omega), k1 11 (by omega)]
    refine ⟨c0, fun k k0 k1 => ?_, ?_, c3, fun c k0 k1 => ?_, c5, fun q q0 q1 => ?_, ?_, fun s k0 k1 => ?_⟩
    · rw [u2 (1 + k) (by omega) (by omega) (by omega) (by omega) (by omega), u2 (6 + k) (by omega) (by omega) (by omega) (by omega) (by omega), u2 (11 + k) (by omega) (by omega) (by omega) (by omega) (by omega), u2 (16 + k) (by omega) (by omega) (by omega) (by omega) (by omega), ko (1 + 8) (by omega) (by omega) (by omega) (by omega), ko (1 + 9) (by omega) (by omega) (by omega) (by omega), ko (1 + 10) (by omega) (by omega) (by omega) (by omega), ko (1 + 11) (by omega) (by omega) (by omega) (by omega)]
      exact c1 k k0 k1
    · rw [gbo 1 (by omega), rg0]
      subst hga
      unfold unp
      rw [up_eq, dg1]
    · rw [u2 (23 + c) (by omega) (by omega) (by omega) (by omega) (by omega), u2 (25 + c) (by omega) (by omega) (by omega) (by omega) (by omega), u2 (27 + c) (by omega) (by omega) (by omega) (by omega) (by omega), ko (1 + 12) (by omega) (by omega) (by omega) (by omega), ko (1 + 13) (by omega) (by omega) (by omega) (by omega), ko (1 + 14) (by omega) (by omega) (by omega) (by omega)]
      exact c4 c k0 k1
    · rw [rg0] at q1
      rw [u2 (30 + q) (by omega) (by omega) (by omega) (by omega) (by omega), u4 q q0 (by omega), ko (1 + 15) (by omega) (by omega) (by omega) (by omega)]
      refine ⟨(c6 q q0 (by rw [rg0]; exact q1)).1, ?_⟩
      show gb 17 q = _
      rw [k17 q q0 (by omega), rg0]
      rcases (by omega : q = 0 ∨ q = 1 ∨ q = 2) with rfl | rfl | rfl
      · rw [if_pos rfl, dg2 (by omega), show 38 + 4 * m + 0 = 38 + 4 * m by omega]
      · rw [if_neg (by omega), if_pos rfl, dg3 (by omega), show 38 + 4 * m + 1 = 39 + 4 * m by omega]
      · rw [if_neg (by omega), if_neg (by omega), dg4 (by omega), show 38 + 4 * m + 2 = 40 + 4 * m by omega]
    · show gb 18 1 = m
      rw [gbo 18 (by omega)]
      subst hga
      unfold unp
      rw [up_ne (by omega), up_ne (by omega), up_ne (by omega), up_ne (by omega), up_eq]
    · rw [u2 (37 + 4 * s) (by omega) (by omega) (by omega) (by omega) (by omega), u2 (38 + 4 * s) (by omega) (by omega) (by omega) (by omega) (by omega), u2 (39 + 4 * s) (by omega) (by omega) (by omega) (by omega) (by omega), u2 (40 + 4 * s) (by omega) (by omega) (by omega) (by omega) (by omega), ko (1 + 18) (by omega) (by omega) (by omega) (by omega)]
      exact c8 s k0 (by rw [rg0]; omega)
/-! images -/
theorem cpW_in (g : Hp) {fr to k : Int} (h : to ≤ k ∧ k < to + 110) : cpW g fr to 110 87 k = g 87 (fr + (k - to)) := by
  unfold cpW
  rw [if_pos ⟨rfl, h⟩]
theorem cpW_out (g : Hp) {fr to k : Int} (h : ¬ (to ≤ k ∧ k < to + 110)) : cpW g fr to 110 87 k = g 87 k := by
  unfold cpW
  rw [if_neg (fun z => h z.2)]
theorem cpW_o (g : Hp) (fr to : Int) {a : Nat} (h : a ≠ 87) : cpW g fr to 110 a = g a := by
  funext i
  unfold cpW
  rw [if_neg (fun z => h z.1)]
theorem c_img_take (g : Hp) {i : Int} {f : Nat} (hi : (i = 0 ∧ f = 40) ∨ (i = 1 ∧ f = 59)) : ∃ g', EV 10 qX11_image 14 [vR 0, vI i] [] g = EV 10 qX11_image 27 [vR 0, vI i] [] g' ∧ Tkn g g' f 1 ∧ sameBut g g' f := by
  rw [bX11_image_14]
  rcases hi with ⟨rfl, rfl⟩ | ⟨rfl, rfl⟩
  · obtain ⟨g', a1, a2, a3⟩ := c_take hF1 hF40 (by omega) g
    refine ⟨g', ?_, a2, a3⟩
    rw [ev_aald (i := (0 : Int)) (q := qX11_image) (pc := 19) dX11_image_19 (Or.inr ck_39) cl_39 (by omega) cr_39_0, ev_aload_n (q := qX11_image) (pc := 20) dX11_image_20 rfl, ev_getR (q := qX11_image) (pc := 21) dX11_image_21 ft_11_12 ck_0 rfl cr_0_0, ev_cV (q := qX11_image) (pc := 24) dX11_image_24 ct_11_97 (by decide) rfl (by rw [fk_0 hF40]; exact su_11_97_2) rfl rfl ⟨⟨Nat.le_of_ble_eq_true rfl, Nat.le_of_ble_eq_true rfl⟩, Nat.le_of_ble_eq_true rfl, Nat.le_of_ble_eq_true rfl⟩ rfl rfl]
    refine (congrArg (fun z => bnd z _) a1).trans ?_
    rw [bnd_some]
    rfl
  · obtain ⟨g', a1, a2, a3⟩ := c_take hF1 hF59 (by omega) g
    refine ⟨g', ?_, a2, a3⟩
    rw [ev_aald (i := (1 : Int)) (q := qX11_image) (pc := 19) dX11_image_19 (Or.inr ck_39) cl_39 (by omega) cr_39_1, ev_aload_n (q := qX11_image) (pc := 20) dX11_image_20 rfl, ev_getR (q := qX11_image) (pc := 21) dX11_image_21 ft_11_12 ck_0 rfl cr_0_0, ev_cV (q := qX11_image) (pc := 24) dX11_image_24 ct_11_97 (by decide) rfl (by rw [fk_0 hF59]; exact su_11_97_2) rfl rfl ⟨⟨Nat.le_of_ble_eq_true rfl, Nat.le_of_ble_eq_true rfl⟩, Nat.le_of_ble_eq_true rfl, Nat.le_of_ble_eq_true rfl⟩ rfl rfl]
    refine (congrArg (fun z => bnd z _) a1).trans ?_
    rw [bnd_some]
    rfl
theorem c_from_take (g : Hp) {i : Int} {f : Nat} (hi : (i = 0 ∧ f = 40) ∨ (i = 1 ∧ f = 59)) : ∃ g', EV 10 qX11_from 30 [vR 0, vI i] [] g = EV 10 qX11_from 43 [vR 0, vI i] [] g' ∧ Tkn g g' 1 f ∧ sameBut g g' 1 := by
  rw [bX11_from_30]
  rcases hi with ⟨rfl, rfl⟩ | ⟨rfl, rfl⟩
  · obtain ⟨g', a1, a2, a3⟩ := c_take hF40 hF1 (by omega) g
    refine ⟨g', ?_, a2, a3⟩
    rw [ev_aald (i := (0 : Int)) (q := qX11_from) (pc := 39) dX11_from_39 (Or.inr ck_39) cl_39 (by omega) cr_39_0, ev_cV (q := qX11_from) (pc := 40) dX11_from_40 ct_11_97 (by decide) rfl (by rw [ck_1]; exact su_11_97_2) rfl rfl ⟨⟨Nat.le_of_ble_eq_true rfl, Nat.le_of_ble_eq_true rfl⟩, Nat.le_of_ble_eq_true rfl, Nat.le_of_ble_eq_true rfl⟩ rfl rfl]
    refine (congrArg (fun z => bnd z _) a1).trans ?_
    rw [bnd_some]
    rfl
  · obtain ⟨g', a1, a2, a3⟩ := c_take hF59 hF1 (by omega) g
    refine ⟨g', ?_, a2, a3⟩
    rw [ev_aald (i := (1 : Int)) (q := qX11_from) (pc := 39) dX11_from_39 (Or.inr ck_39) cl_39 (by omega) cr_39_1, ev_cV (q := qX11_from) (pc := 40) dX11_from_40 ct_11_97 (by decide) rfl (by rw [ck_1]; exact su_11_97_2) rfl rfl ⟨⟨Nat.le_of_ble_eq_true rfl, Nat.le_of_ble_eq_true rfl⟩, Nat.le_of_ble_eq_true rfl, Nat.le_of_ble_eq_true rfl⟩ rfl rfl]
    refine (congrArg (fun z => bnd z _) a1).trans ?_
    rw [bnd_some]
    rfl
theorem o_image {g : Hp} {n : Int} (hR : Rel g n) (hn : n < 1000) (i : Int) : Opk g n (EV 10 qX11_image 0 [vR 0, vI i] []) (EV 10 qX12_image 0 [vR 86, vI i] []) := by
  have c7 := hR.c7 (by omega)
  by_cases ok : 0 ≤ i ∧ i ≤ 1
  · obtain ⟨f, hf⟩ : ∃ f : Nat, (i = 0 ∧ f = 40) ∨ (i = 1 ∧ f = 59) := by
      rcases (by omega : i = 0 ∨ i = 1) with e | e
      · exact ⟨40, Or.inl ⟨e, rfl⟩⟩
      · exact ⟨59, Or.inr ⟨e, rfl⟩⟩
    obtain ⟨g', a1, a2, a3⟩ := c_img_take g hf
    have g1o : ∀ a : Nat, (a < f ∨ f + 18 < a) → a ≠ 78 → up g' 78 i 1 a = g a := fun a x1 x2 => by
      funext j
      rw [up_ne x2, a3 a x1]
    have e87 : up g' 78 i 1 87 = g 87 := g1o 87 (by omega) (by omega)
    generalize hg2 : up (cpW (up g' 78 i 1) 0 (110 * (1 + i)) 110) 88 i 1 = g2
    have g2o : ∀ a : Nat, (a < f ∨ f + 18 < a) → a ≠ 78 → a ≠ 87 → a ≠ 88 → g2 a = g a := fun a x1 x2 x3 x4 => by
      subst hg2
      funext j
      rw [up_ne x4, cpW_o _ _ _ x3, g1o a x1 x2]
    have g2w : ∀ k, g2 87 k = if 110 * (1 + i) ≤ k ∧ k < 110 * (1 + i) + 110 then g 87 (k - 110 * (1 + i)) else g 87 k := fun k => by
      subst hg2
      rw [up_ne (by omega)]
      split
      · rw [cpW_in _ ‹_›, e87, Int.zero_add]
      · rw [cpW_out _ ‹_›, e87]
    have hfo : isFort f := by rcases hf with ⟨_, rfl⟩ | ⟨_, rfl⟩; exact hF40; exact hF59
    have f2 : ∀ a : Nat, f ≤ a → a ≤ f + 18 → g2 a = g' a := fun a x1 x2 => by
      subst hg2
      funext j
      rw [up_ne (by omega), cpW_o _ _ _ (by omega), up_ne (by omega)]
    have nI : FCl g2 f (rg g2 (110 * (1 + i))) := by
      have q : FCl g' f (rg g 0) := ⟨hR.1.1, a2.cls hR.1.1 hR.1.2⟩
      refine q.keep f2 (fun k k0 k1 => ?_)
      rw [rg0, rg_at, g2w, if_pos (by omega), show 110 * (1 + i) + k - 110 * (1 + i) = k by omega]
    obtain ⟨ra, rb, rc, rd⟩ := hR
    refine ⟨1, up g' 78 i 1, g2, ?_, ?_, ⟨ra.keep (fun a x1 x2 => g2o a (by omega) (by omega) (by omega) (by omega)) (fun k k0 k1 => ?_), ⟨fun j hj => ?_, fun z => ?_, fun z => ?_⟩, rc.keep ?_ (g2o 80 (by omega) (by omega) (by omega) (by omega)) ?_ (g2o 89 (by omega) (by omega) (by omega) (by omega)), rd.keep (by omega) (fun j _ _ => ?_) (g2o 90 (by omega) (by omega) (by omega) (by omega))⟩, g2o 220 (by omega) (by omega) (by omega) (by omega)⟩
    · rw [bX11_image_0, c_isImage, bnd_some]
      show EV 10 qX11_image 4 _ [vI _] _ = _
      rw [bX11_image_4, if_neg (b01_pos ok), a1, bX11_image_27 _ _ (by omega)]
    · rw [bX12_image_0, e_in, bnd_some]
      show EV 10 qX12_image 7 _ [vI _] _ = _
      rw [bX12_image_7, if_neg (b01_pos ok), bX12_image_15 _ _ (by omega) (by omega), e_copy _ _ _ (by omega) (by omega) (by omega), bnd_some]
      show EV 10 qX12_image 26 _ [] _ = _
      rw [bX12_image_26 _ _ (by omega), hg2]
    · rw [rg0, rg0, g2w, if_neg (by omega)]
    · have z := rb.1 j hj
      have h78 : g2 78 j = if j = i then 1 else g 78 j := by
        subst hg2
        rw [up_ne (by omega), cpW_o _ _ _ (by omega)]
        by_cases e : j = i
        · rw [e, up_eq, if_pos rfl]
        · rw [up_nei e, if_neg e, a3 78 (by omega)]
      have h88 : g2 88 j = if j = i then 1 else g 88 j := by
        subst hg2
        by_cases e : j = i
        · rw [e, up_eq, if_pos rfl]
        · rw [up_nei e, if_neg e, cpW_o _ _ _ (by omega), g1o 88 (by omega) (by omega)]
      rw [h78, h88]
      by_cases e : j = i
      · rw [if_pos e, if_pos e]
        exact ⟨rfl, Or.inr rfl⟩
      · rw [if_neg e, if_neg e]
        exact z
    · rcases hf with ⟨rfl, rfl⟩ | ⟨rfl, rfl⟩
      · exact nI
      · have z88 : g2 88 0 = g 88 0 := by
          subst hg2
          rw [up_nei (by omega), cpW_o _ _ _ (by omega), g1o 88 (by omega) (by omega)]
        rw [z88] at z
        exact (rb.2.1 z).keep (fun a x1 x2 => g2o a (by omega) (by omega) (by omega) (by omega)) (fun k k0 k1 => by rw [rg_at, rg_at, g2w, if_neg (by omega)])
    · rcases hf with ⟨rfl, rfl⟩ | ⟨rfl, rfl⟩
      · have z88 : g2 88 1 = g 88 1 := by
          subst hg2
          rw [up_nei (by omega), cpW_o _ _ _ (by omega), g1o 88 (by omega) (by omega)]
        rw [z88] at z
        exact (rb.2.2 z).keep (fun a x1 x2 => g2o a (by omega) (by omega) (by omega) (by omega)) (fun k k0 k1 => by rw [rg_at, rg_at, g2w, if_neg (by omega)])
      · exact nI
    · rw [g2o 79 (by omega) (by omega) (by omega) (by omega)]
    · rw [g2o 86 (by omega) (by omega) (by omega) (by omega)]
    · rw [g2o 0 (by omega) (by omega) (by omega) (by omega)]
  · refine Opk.no hR (-2) (by omega) (vI (-2)) ?_ ?_
    · rw [bX11_image_0, c_isImage, bnd_some]
      show EV 10 qX11_image 4 _ [vI _] _ = _
      rw [bX11_image_4, if_pos (b01_neg ok), bX11_image_7, c_counted _ _ c7, bnd_some]
      exact bX11_image_13 _ _ _
    · rw [bX12_image_0, e_in, bnd_some]
      show EV 10 qX12_image 7 _ [vI _] _ = _
      rw [bX12_image_7, if_pos (b01_neg ok), bX12_image_10, e_bad _ (hR.m9 (by omega) _), bnd_some]
      exact bX12_image_14 _ _ _
theorem o_from {g : Hp} {n : Int} (hR : Rel g n) (hn : n < 1000) (i : Int) : Opk g n (EV 10 qX11_from 0 [vR 0, vI i] []) (EV 10 qX12_from 0 [vR 86, vI i] []) := by
  have c7 := hR.c7 (by omega)
  by_cases ok : 0 ≤ i ∧ i ≤ 1
  · have z := hR.2.1.1 i (by omega)
    by_cases kp : g 88 i = 0
    · refine Opk.no hR (-3) (by omega) (vI (-3)) ?_ ?_
      · rw [bX11_from_0, c_isImage, bnd_some]
        show EV 10 qX11_from 4 _ [vI _] _ = _
        rw [bX11_from_4, if_neg (b01_pos ok), bX11_from_14 _ _ (by omega), if_pos (by omega), bX11_from_23, c_counted _ _ c7, bnd_some]
        exact bX11_from_29 _ _ _
      · have k88 : ctH g (-3) 88 = g 88 := ctH_86 (by omega)
        rw [bX12_from_0, e_in, bnd_some]
        show EV 10 qX12_from 7 _ [vI _] _ = _
        rw [bX12_from_7, if_neg (b01_pos ok), bX12_from_15 _ _ (by omega), if_pos (by rw [k88]; exact kp), bX12_from_24, e_met _ _ (hR.m9 (by omega) _), bnd_some]
        exact bX12_from_30 _ _ _
    · obtain ⟨f, hf⟩ : ∃ f : Nat, (i = 0 ∧ f = 40) ∨ (i = 1 ∧ f = 59) := by
        rcases (by omega : i = 0 ∨ i = 1) with e | e
        · exact ⟨40, Or.inl ⟨e, rfl⟩⟩
        · exact ⟨59, Or.inr ⟨e, rfl⟩⟩
      have hI : FCl g f (rg g (110 * (1 + i))) := by
        rcases hf with ⟨rfl, rfl⟩ | ⟨rfl, rfl⟩
        · exact hR.2.1.2.1 (by omega)
        · exact hR.2.1.2.2 (by omega)
      obtain ⟨g', a1, a2, a3⟩ := c_from_take g hf
      have hC := a2.cls hI.1 hI.2
      have e87 : g' 87 = g 87 := a3 87 (by omega)
      have hc : EV 10 qX11_from 0 [vR 0, vI i] [] g = some (some (vI 1), g') := by
        rw [bX11_from_0, c_isImage, bnd_some]
        show EV 10 qX11_from 4 _ [vI _] _ = _
        rw [bX11_from_4, if_neg (b01_pos ok), bX11_from_14 _ _ (by omega), if_neg (by omega), a1, bX11_from_43]
      have k88 : g' 88 = g 88 := a3 88 (by omega)
      have hm : EV 10 qX12_from 0 [vR 86, vI i] [] g' = some (some (vI 1), cpW g' (110 * (1 + i)) 0 110) := by
        rw [bX12_from_0, e_in, bnd_some]
        show EV 10 qX12_from 7 _ [vI _] _ = _
        rw [bX12_from_7, if_neg (b01_pos ok), bX12_from_15 _ _ (by omega), if_neg (by rw [k88]; exact kp), bX12_from_31 _ _ (by omega) (by omega), e_copy _ _ _ (by omega) (by omega) (by omega), bnd_some]
        exact bX12_from_42 _ _
      refine Opk.tell hR hc hm ?_ (fun a ha => a3 a (by omega)) (fun a ha => cpW_o _ _ _ ha) (fun k hk => cpW_out _ (by omega))
      have q : FCl g' 1 (rg g (110 * (1 + i))) := ⟨hI.1, hC⟩
      refine q.keep (fun a x1 x2 => cpW_o _ _ _ (by omega)) (fun k k0 k1 => ?_)
      rw [rg0, cpW_in _ (by omega), e87, rg_at, Int.sub_zero]
  · refine Opk.no hR (-2) (by omega) (vI (-2)) ?_ ?_
    · rw [bX11_from_0, c_isImage, bnd_some]
      show EV 10 qX11_from 4 _ [vI _] _ = _
      rw [bX11_from_4, if_pos (b01_neg ok), bX11_from_7, c_counted _ _ c7, bnd_some]
      exact bX11_from_13 _ _ _
    · rw [bX12_from_0, e_in, bnd_some]
      show EV 10 qX12_from 7 _ [vI _] _ = _
      rw [bX12_from_7, if_pos (b01_neg ok), bX12_from_10, e_bad _ (hR.m9 (by omega) _), bnd_some]
      exact bX12_from_14 _ _ _
