/-! the small calls -/
theorem c_isPerson {f : Nat} (hF : isFort f) (g : Hp) (p : Int) : EV 8 qX2_isPerson 0 [vR f, vI p] [] g = some (some (vI (b01 (0 ≤ p ∧ p ≤ g f 11 - 1))), g) := by
  simp (disch := first | omega | exact b01_or _) only [bX2_isPerson_0 hF, bX2_isPerson_4 hF, bX2_isPerson_12 hF, bX2_isPerson_16 hF, bX2_isPerson_17 hF]
  unfold b01
  repeat' split
  all_goals first | rfl | (exfalso; omega)
theorem c_isPlace {f : Nat} (hF : isFort f) (g : Hp) (p : Int) (h : 0 ≤ g f 1 ∧ g f 1 ≤ 5) : EV 8 qX2_isPlace 0 [vR f, vI p] [] g = some (some (vI (b01 (0 ≤ p ∧ p ≤ 4 + g f 1))), g) := by
  simp (disch := first | omega | exact b01_or _) only [bX2_isPlace_0 hF, bX2_isPlace_4 hF, bX2_isPlace_14 hF, bX2_isPlace_18 hF, bX2_isPlace_19 hF]
  unfold b01
  repeat' split
  all_goals first | rfl | (exfalso; omega)
theorem shl1 : ∀ n : Nat, n < 6 → bShl 1 (n : Int) = ((2 ^ n : Nat) : Int) := by decide +kernel
theorem shl1I {n : Int} (h : 0 ≤ n ∧ n ≤ 5) : bShl 1 n = pw2 n := by
  obtain ⟨m, rfl⟩ := Int.eq_ofNat_of_zero_le h.1
  rw [shl1 m (by omega)]
  unfold pw2
  simp
theorem c_allBridges {f : Nat} (hF : isFort f) (g : Hp) (h : 0 ≤ g f 1 ∧ g f 1 ≤ 5) : EV 8 qX2_allBridges 0 [vR f] [] g = some (some (vI (pw2 (g f 1) - 1)), g) := by
  have := pw2_le h
  have := pw2_pos (n := g f 1)
  rw [bX2_allBridges_0 hF _ (by rw [shl1I h]; omega), shl1I h]
theorem c_areBridges {f : Nat} (hF : isFort f) (g : Hp) (x : Int) (h : 0 ≤ g f 1 ∧ g f 1 ≤ 5) : EV 9 qX2_areBridges 0 [vR f, vI x] [] g = some (some (vI (b01 (0 ≤ x ∧ x ≤ pw2 (g f 1) - 1))), g) := by
  simp (disch := first | omega | exact b01_or _) only [bX2_areBridges_0 hF, bX2_areBridges_4 hF, bX2_areBridges_9 hF, bX2_areBridges_12 hF, bX2_areBridges_16 hF, bX2_areBridges_17 hF, c_allBridges hF, bnd_some, Option.toList_some, Option.toList_none, List.cons_append, List.nil_append, b01_eq0, if_true, if_false, ↓if_pos, ↓if_neg, if_pos, if_neg]
  unfold b01
  repeat' split
  all_goals first | rfl | (exfalso; omega)
theorem c_areSome {f : Nat} (hF : isFort f) (g : Hp) (x : Int) (h : 0 ≤ g f 11 ∧ g f 11 ≤ 3) : EV 8 qX2_areSome 0 [vR f, vI x] [] g = some (some (vI (b01 (0 ≤ x ∧ x ≤ pw2 (g f 11) - 1))), g) := by
  simp (disch := first | omega | exact b01_or _) only [bX2_areSome_0 hF, bX2_areSome_4 hF, bX2_areSome_14 hF, bX2_areSome_18 hF, bX2_areSome_19 hF, shl1I]
  unfold b01
  repeat' split
  all_goals first | rfl | (exfalso; omega)
theorem c_isImage (g : Hp) (x : Int) : EV 8 qX11_isImage 0 [vI x] [] g = some (some (vI (b01 (0 ≤ x ∧ x ≤ 1))), g) := by
  simp (disch := first | omega | exact b01_or _) only [bX11_isImage_0, bX11_isImage_4, bX11_isImage_9, bX11_isImage_13, bX11_isImage_14]
  unfold b01
  repeat' split
  all_goals first | rfl | (exfalso; omega)
theorem c_isStone (g : Hp) (x : Int) : EV 8 qX11_isStone 0 [vI x] [] g = some (some (vI (b01 (1 ≤ x ∧ x ≤ 9))), g) := by
  simp (disch := first | omega | exact b01_or _) only [bX11_isStone_0, bX11_isStone_5, bX11_isStone_11, bX11_isStone_15, bX11_isStone_16]
  unfold b01
  repeat' split
  all_goals first | rfl | (exfalso; omega)
theorem o_chain {g : Hp} {n : Int} (hR : Rel g n) (hn : n < 1000) (a b v : Int) : Opk g n (EV 10 qX11_chain 0 [vR 0, vI a, vI b, vI v] []) (EV 11 qX12_chain 0 [vR 86, vI a, vI b, vI v] []) := by
  have c7 := hR.c7 (by omega)
  have hI := hR.1.1
  have hC := hR.1.2
  have h0 := hI.1
  have h22 := hI.2.2.2.1
  rw [rg_0] at h0
  have e1 : g 1 1 = g 87 0 := by have := hC.1; rw [rg_0] at this; exact this
  have e22 : rg g 0 22 = g 87 22 := by rw [rg_at, Int.zero_add]
  rw [e22] at h22
  have e7 : g 1 7 = g 87 22 := by have := hC.2.2.2.1; rw [e22] at this; exact this
  have cC : ∀ (x : Int) (g' : Hp), EV 9 qX2_addChain 0 [vR 1, vI a, vI b, vI v] [] g = some (some (vI x), g') → (∀ k, 7 ≤ k → g' 0 k = g 0 k) → EV 10 qX11_chain 0 [vR 0, vI a, vI b, vI v] [] g = some (some (vI x), ctH g' x) := fun x g' hE hz => by
    rw [bX11_chain_0, hE, bnd_some]
    show EV 10 qX11_chain 11 _ [vI _, vR 0] _ = _
    rw [bX11_chain_11, c_counted _ _ (fun k k0 k1 => by rw [hz k k0]; exact c7 k k0 k1), bnd_some]
    exact bX11_chain_14 _ _ _ _ _
  have cM : ∀ (x : Int) (h g' : Hp), (∀ k, 0 ≤ k → k < 3 → 0 ≤ h 90 k ∧ h 90 k < 2147483647) → EV 10 qX12_addChain 0 [vR 86, vI 0, vI a, vI b, vI v, vU] [] h = some (some (vI x), g') → g' 90 = h 90 → EV 11 qX12_chain 0 [vR 86, vI a, vI b, vI v] [] h = some (some (vI x), metH g' x) := fun x h g' h9 hE hz => by
    rw [bX12_chain_0, hE, bnd_some]
    show EV 11 qX12_chain 9 _ [vI _, vR 86] _ = _
    rw [bX12_chain_9, e_met _ _ (fun k k0 k1 => by rw [hz]; exact h9 k k0 k1), bnd_some]
    exact bX12_chain_12 _ _ _ _ _
  have k87 : ∀ x, ctH g x 87 = g 87 := fun x => ctH_86 (by omega)
  have krg : ∀ x, rg (ctH g x) 0 = rg g 0 := fun x => by unfold rg; rw [k87]
  have z22 : (0 : Int) + 22 = 22 := rfl
  by_cases ok : (0 ≤ a ∧ a ≤ g 87 0 - 1) ∧ (0 ≤ b ∧ b ≤ g 87 0 - 1) ∧ a ≠ b ∧ (0 ≤ v ∧ v ≤ 9)
  · have hc := c_addChain_ok hF1 g a b v (by omega) (by rw [e1]; exact ok)
    have hm : ∀ x, _ := fun x => e_addChain_ok (ctH g x) 0 a b v (by omega) (by rw [k87]; exact h0) (by rw [k87]; exact h22) (by rw [k87]; exact ok)
    rw [cTied_eq hC, cTied_eq hC, e7] at hc
    simp only [krg, z22, k87] at hm
    by_cases ta : tied01 (rg g 0) a = 0
    · rw [if_pos ta] at hc
      by_cases tb : tied01 (rg g 0) b = 0
      · rw [if_pos tb] at hc
        by_cases h2 : g 87 22 = 2
        · rw [if_pos h2] at hc
          refine Opk.no hR (-4) (by omega) (vI (-4)) (cC _ _ hc (fun _ _ => rfl)) (cM _ _ _ (hR.m9 (by omega) _) ?_ rfl)
          rw [hm, if_pos ta, if_pos tb, if_pos h2]
        · rw [if_neg h2] at hc
          have fr : ∀ x : Nat, (x < 1 ∨ 19 < x) → cCh g 1 a b v x = g x := fun x hx => by
            funext i
            unfold cCh
            simp (disch := omega) only [up_ne]
          have hm2 := e_addChain_ok (cCh g 1 a b v) 0 a b v (by omega) (by rw [fr 87 (by omega)]; exact h0) (by rw [fr 87 (by omega)]; exact h22) (by rw [fr 87 (by omega)]; exact ok)
          have hrg : rg (cCh g 1 a b v) 0 = rg g 0 := by unfold rg; rw [fr 87 (by omega)]
          rw [hrg, if_pos ta, if_pos tb, if_neg (by rw [fr 87 (by omega)]; exact h2), fr 87 (by omega), z22] at hm2
          have q1 := cC _ _ hc (fun k _ => by rw [fr 0 (by omega)])
          have q2 := cM _ _ _ (fun k k0 k1 => by have := hR.2.2.2 k k0 k1; rw [fr 90 (by omega)]; omega) hm2 (by funext i; unfold hCh; simp (disch := omega) only [up_ne])
          rw [ctH_0 _ (by omega)] at q1
          rw [metH_0 _ (by omega)] at q2
          have e2' : rg g 0 22 ≠ 2 := by rw [e22]; exact h2
          refine Opk.tell hR q1 q2 ⟨?_, ?_⟩ fr (fun x hx => by funext i; unfold hCh; simp (disch := omega) only [up_ne]) (fun k hk => ?_)
          · rw [rg_hCh, hrg]
            exact FI_fCh hI e2' (by rw [rg_0]; exact ok.1) (by rw [rg_0]; exact ok.2.1) ok.2.2.1 ok.2.2.2 ta tb
          · rw [rg_hCh, hrg]
            exact (ClsF_cCh hC hI e2').keep (fun x x1 x2 => by funext i; unfold hCh; simp (disch := omega) only [up_ne])
          · unfold hCh
            rw [fr 87 (by omega), z22]
            simp (disch := omega) only [up_nei]
            rw [fr 87 (by omega)]
      · rw [if_neg tb] at hc
        refine Opk.no hR (-3) (by omega) (vI (-3)) (cC _ _ hc (fun _ _ => rfl)) (cM _ _ _ (hR.m9 (by omega) _) ?_ rfl)
        rw [hm, if_pos ta, if_neg tb]
    · rw [if_neg ta] at hc
      refine Opk.no hR (-3) (by omega) (vI (-3)) (cC _ _ hc (fun _ _ => rfl)) (cM _ _ _ (hR.m9 (by omega) _) ?_ rfl)
      rw [hm, if_neg ta]
  · exact Opk.no hR (-2) (by omega) (vI (-2)) (cC _ _ (c_addChain_bad hF1 _ _ _ _ (by rw [e1]; exact ok)) (fun _ _ => rfl)) (cM _ _ _ (hR.m9 (by omega) _) (e_addChain_bad _ _ _ _ _ (by omega) (by rw [k87]; exact h0) (by rw [k87]; exact ok)) rfl)
theorem o_load {g : Hp} {n : Int} (hR : Rel g n) (hn : n < 1000) (b v : Int) : Opk g n (EV 10 qX11_load 0 [vR 0, vI b, vI v] []) (EV 11 qX12_load 0 [vR 86, vI b, vI v] []) := by
  have c7 := hR.c7 (by omega)
  have hI := hR.1.1
  have hC := hR.1.2
  have h0 := hI.1
  rw [rg_0] at h0
  have e1 : g 1 1 = g 87 0 := by have := hC.1; rw [rg_0] at this; exact this
  have cC : ∀ (x : Int) (g' : Hp), EV 9 qX2_setBallast 0 [vR 1, vI b, vI v, vU] [] g = some (some (vI x), g') → (∀ k, 7 ≤ k → g' 0 k = g 0 k) → EV 10 qX11_load 0 [vR 0, vI b, vI v] [] g = some (some (vI x), ctH g' x) := fun x g' hE hz => by
    rw [bX11_load_0, hE, bnd_some]
    show EV 10 qX11_load 10 _ [vI _, vR 0] _ = _
    rw [bX11_load_10, c_counted _ _ (fun k k0 k1 => by rw [hz k k0]; exact c7 k k0 k1), bnd_some]
    exact bX11_load_13 _ _ _ _
  have cM : ∀ (x : Int) (h g' : Hp), (∀ k, 0 ≤ k → k < 3 → 0 ≤ h 90 k ∧ h 90 k < 2147483647) → EV 10 qX12_setLoad 0 [vR 86, vI 0, vI b, vI v, vU] [] h = some (some (vI x), g') → g' 90 = h 90 → EV 11 qX12_load 0 [vR 86, vI b, vI v] [] h = some (some (vI x), metH g' x) := fun x h g' h9 hE hz => by
    rw [bX12_load_0, hE, bnd_some]
    show EV 11 qX12_load 8 _ [vI _, vR 86] _ = _
    rw [bX12_load_8, e_met _ _ (fun k k0 k1 => by rw [hz]; exact h9 k k0 k1), bnd_some]
    exact bX12_load_11 _ _ _ _
  have k87 : ∀ x, ctH g x 87 = g 87 := fun x => ctH_86 (by omega)
  by_cases ok : (0 ≤ b ∧ b ≤ g 87 0 - 1) ∧ (0 ≤ v ∧ v ≤ 20)
  · have hc := c_setBallast hF1 g b v (by omega) (by rw [e1]; exact ok.1) ok.2
    have q0 := hI.2.1 b ok.1.1 (by rw [rg_0]; omega)
    have qc := hC.2.1 b ok.1.1 (by rw [rg_0]; omega)
    have ev : g (1 + 11) b = g 87 (16 + b) := by
      rw [qc.2.2.2, rg_at, Int.zero_add]
    have hge : 0 ≤ g 87 (16 + b) := by
      have := q0.2.2.2.1
      rw [rg_at, Int.zero_add] at this
      exact this
    have fr : ∀ x : Nat, x ≠ 12 → up g (1 + 11) b v x = g x := fun x hx => by
      funext i
      rw [up_ne (by omega)]
    have hm := e_setLoad (up g (1 + 11) b v) 0 b v (by omega) (by rw [fr 87 (by omega)]; exact h0) (by rw [fr 87 (by omega)]; exact ok.1) ok.2
    rw [fr 87 (by omega), show (0 : Int) + 16 + b = 16 + b by omega] at hm
    rw [ev] at hc
    have q1 := cC _ _ hc (fun k _ => by rw [fr 0 (by omega)])
    have q2 := cM _ _ _ (fun k k0 k1 => by have := hR.2.2.2 k k0 k1; rw [fr 90 (by omega)]; omega) hm (by funext i; rw [up_ne (by omega)])
    rw [ctH_0 _ hge] at q1
    rw [metH_0 _ hge] at q2
    have hrg : rg (up (up g (1 + 11) b v) 87 (16 + b) v) 0 = fu (rg g 0) (16 + b) v := by
      rw [rg_up, rg_upo _ _ _ _ (by omega), Int.sub_zero]
    refine Opk.tell hR q1 q2 ⟨?_, ?_⟩ (fun x hx => fr x (by omega)) (fun x hx => by funext i; rw [up_ne hx]) (fun k hk => by rw [up_nei (by omega)])
    · rw [hrg]
      exact FI_fLd hI (by rw [rg_0]; exact ok.1) ok.2
    · rw [hrg]
      exact (ClsF_ld hC hI (by rw [rg_0]; exact ok.1)).keep (fun x x1 x2 => by funext i; rw [up_ne (by omega)])
  · exact Opk.no hR (-2) (by omega) (vI (-2)) (cC _ _ (c_setBallast_bad hF1 _ _ _ (by rw [e1]; exact ok)) (fun _ _ => rfl)) (cM _ _ _ (hR.m9 (by omega) _) (e_setLoad_bad _ _ _ _ (by omega) (by rw [k87]; exact h0) (by rw [k87]; exact ok)) rfl)
theorem o_one {g : Hp} {n : Int} (hR : Rel g n) (hn : n < 1000) (v room : Int) : Opk g n (EV 10 qX11_one 0 [vR 0, vI v, vI room] []) (EV 10 qX12_one 0 [vR 86, vI v, vI room] []) := by
  have c7 := hR.c7 (by omega)
  have hI := hR.1.1
  have hC := hR.1.2
  have h29 := hI.2.2.2.2.2.2.1
  have e29 : rg g 0 29 = g 87 29 := by rw [rg_at, Int.zero_add]
  rw [e29] at h29
  have e1 : g 1 11 = g 87 29 := by have := hC.2.2.2.2.2.1; rw [e29] at this; exact this
  have cC : ∀ (x : Int) (g' : Hp), EV 9 qX2_addPerson 0 [vR 1, vI v, vI room] [] g = some (some (vI x), g') → (∀ k, 7 ≤ k → g' 0 k = g 0 k) → EV 10 qX11_one 0 [vR 0, vI v, vI room] [] g = some (some (vI x), ctH g' x) := fun x g' hE hz => by
    rw [bX11_one_0, hE, bnd_some]
    show EV 10 qX11_one 10 _ [vI _, vR 0] _ = _
    rw [bX11_one_10, c_counted _ _ (fun k k0 k1 => by rw [hz k k0]; exact c7 k k0 k1), bnd_some]
    exact bX11_one_13 _ _ _ _
  have cM : ∀ (x : Int) (h g' : Hp), (∀ k, 0 ≤ k → k < 3 → 0 ≤ h 90 k ∧ h 90 k < 2147483647) → EV 9 qX12_addOne 0 [vR 86, vI 0, vI v, vI room, vU] [] h = some (some (vI x), g') → g' 90 = h 90 → EV 10 qX12_one 0 [vR 86, vI v, vI room] [] h = some (some (vI x), metH g' x) := fun x h g' h9 hE hz => by
    rw [bX12_one_0, hE, bnd_some]
    show EV 10 qX12_one 8 _ [vI _, vR 86] _ = _
    rw [bX12_one_8, e_met _ _ (fun k k0 k1 => by rw [hz]; exact h9 k k0 k1), bnd_some]
    exact bX12_one_11 _ _ _ _
  have k87 : ∀ x, ctH g x 87 = g 87 := fun x => ctH_86 (by omega)
  have z29 : (0 : Int) + 29 = 29 := rfl
  by_cases ok : (1 ≤ v ∧ v ≤ 9) ∧ (0 ≤ room ∧ room ≤ 4)
  · have hc := c_addPerson_ok hF1 g v room (by omega) ok.1 ok.2
    rw [e1] at hc
    by_cases h3 : g 87 29 = 3
    · rw [if_pos h3] at hc
      refine Opk.no hR (-4) (by omega) (vI (-4)) (cC _ _ hc (fun _ _ => rfl)) (cM _ _ _ (hR.m9 (by omega) _) ?_ rfl)
      rw [e_addOne_ok _ _ _ _ (by omega) ok.1 ok.2, if_pos (by rw [k87]; exact h3)]
    · rw [if_neg h3] at hc
      have fr : ∀ x : Nat, (x < 1 ∨ 19 < x) → cOne g 1 v room x = g x := fun x hx => by
        funext i
        unfold cOne
        simp (disch := omega) only [up_ne]
      have hm := e_addOne (cOne g 1 v room) 0 v room (by omega) (by rw [fr 87 (by omega)]; exact h29) ok.1 ok.2 (by rw [fr 87 (by omega)]; exact h3)
      rw [fr 87 (by omega), z29] at hm
      have q1 := cC _ _ hc (fun k _ => by rw [fr 0 (by omega)])
      have q2 := cM _ _ _ (fun k k0 k1 => by have := hR.2.2.2 k k0 k1; rw [fr 90 (by omega)]; omega) hm (by funext i; unfold hOne; simp (disch := omega) only [up_ne])
      rw [ctH_0 _ (by omega)] at q1
      rw [metH_0 _ (by omega)] at q2
      have hrg : rg (cOne g 1 v room) 0 = rg g 0 := by unfold rg; rw [fr 87 (by omega)]
      have e3' : rg g 0 29 ≠ 3 := by rw [e29]; exact h3
      refine Opk.tell hR q1 q2 ⟨?_, ?_⟩ fr (fun x hx => by funext i; unfold hOne; simp (disch := omega) only [up_ne]) (fun k hk => ?_)
      · rw [rg_hOne, hrg]
        exact FI_fOne hI e3' ok.1 ok.2
      · rw [rg_hOne, hrg]
        exact (ClsF_cOne hC hI e3').keep (fun x x1 x2 => by funext i; unfold hOne; simp (disch := omega) only [up_ne])
      · unfold hOne
        rw [fr 87 (by omega), z29]
        simp (disch := omega) only [up_nei]
        rw [fr 87 (by omega)]
  · exact Opk.no hR (-2) (by omega) (vI (-2)) (cC _ _ (c_addPerson_bad hF1 _ _ _ ok) (fun _ _ => rfl)) (cM _ _ _ (hR.m9 (by omega) _) (e_addOne_bad _ _ _ _ ok) rfl)
theorem Rel.p29 {g : Hp} {n : Int} (h : Rel g n) : (0 ≤ g 87 29 ∧ g 87 29 ≤ 3) ∧ g 1 11 = g 87 29 ∧ ∀ p, 0 ≤ p → p < g 87 29 → g 17 p = g 87 (33 + p) ∧ g 16 p = g 87 (30 + p) := by
  have e29 : rg g 0 29 = g 87 29 := by rw [rg_at, Int.zero_add]
  have a := h.1.1.2.2.2.2.2.2.1
  have b := h.1.2.2.2.2.2.2.1
  have c := h.1.2.2.2.2.2.2.2.1
  rw [e29] at a b
  refine ⟨a, b, fun p p0 p1 => ?_⟩
  have := c p p0 (by rw [e29]; exact p1)
  rw [rg_at, rg_at, Int.zero_add, Int.zero_add] at this
  exact ⟨this.2, this.1⟩
theorem Rel.b0 {g : Hp} {n : Int} (h : Rel g n) : (0 ≤ g 87 0 ∧ g 87 0 ≤ 5) ∧ g 1 1 = g 87 0 ∧ g 1 6 = g 87 21 ∧ (0 ≤ g 87 21 ∧ g 87 21 < pw2 (g 87 0)) := by
  have a := h.1.1.1
  have b := h.1.2.1
  have c := h.1.2.2.2.1
  have d := h.1.1.2.2.1
  rw [rg_0] at a b d
  rw [rg_at, Int.zero_add] at c d
  exact ⟨a, b, c, d⟩
theorem o_where {g : Hp} {n : Int} (hR : Rel g n) (hn : n < 1000) (p : Int) : Opk g n (EV 9 qX11_where 0 [vR 0, vI p] []) (EV 10 qX12_where 0 [vR 86, vI p] []) := by
  have c7 := hR.c7 (by omega)
  obtain ⟨p1, p2, p3⟩ := hR.p29
  by_cases ok : 0 ≤ p ∧ p ≤ g 87 29 - 1
  · have q := p3 p ok.1 (by omega)
    have ok' : 0 ≤ p ∧ p ≤ g 1 11 - 1 := by omega
    refine Opk.ro hR (vI (g 17 p)) ?_ ?_ (frT.refl g) (frS.refl g)
    · simp (disch := first | omega | exact b01_or _) only [bX11_where_0, bX11_where_8, bX11_where_11, bX11_where_23, bX11_where_29, c_isPerson hF1, bnd_some, Option.toList_some, Option.toList_none, List.cons_append, List.nil_append, b01_eq0, if_true, if_false, ↓if_pos, ↓if_neg, if_pos, if_neg]
    · simp (disch := first | omega | exact b01_or _) only [bX12_where_0, bX12_where_5, bX12_where_8, bX12_where_20, bX12_where_24, e_isOne, bnd_some, Option.toList_some, Option.toList_none, List.cons_append, List.nil_append, b01_eq0, if_true, if_false, ↓if_pos, ↓if_neg, if_pos, if_neg]
      rw [q.1]
  · have ok' : ¬ (0 ≤ p ∧ p ≤ g 1 11 - 1) := by omega
    refine Opk.no hR (-2) (by omega) (vI (-2)) ?_ ?_
    · rw [bX11_where_0, c_isPerson hF1, bnd_some]
      show EV 9 qX11_where 8 _ [vI _] _ = _
      rw [bX11_where_8, if_pos (b01_neg ok'), bX11_where_23, c_counted _ _ c7, bnd_some]
      exact bX11_where_29 _ _ _
    · have k87 : ctH g (-2) 87 = g 87 := ctH_86 (by omega)
      rw [bX12_where_0, e_isOne _ _ (by rw [k87]; exact p1), bnd_some, k87]
      show EV 10 qX12_where 5 _ [vI _] _ = _
      rw [bX12_where_5, if_pos (b01_neg ok), bX12_where_20, e_bad _ (hR.m9 (by omega) _), bnd_some]
      exact bX12_where_24 _ _ _
theorem o_lying {g : Hp} {n : Int} (hR : Rel g n) : Opk g n (EV 8 qX11_lying 0 [vR 0] []) (EV 8 qX12_lying 0 [vR 86] []) := by
  obtain ⟨_, _, e, _⟩ := hR.b0
  refine Opk.ro hR (vI (g 1 6)) (bX11_lying_0 g) ?_ (frT.refl g) (frS.refl g)
  rw [bX12_lying_0, e]
theorem o_status {g : Hp} {n : Int} (hR : Rel g n) (hn : n < 1000) (x : Int) : Opk g n (EV 9 qX11_status 0 [vR 0, vI x] []) (EV 9 qX12_status 0 [vR 86, vI x] []) := by
  have c7 := hR.c7 (by omega)
  have st := hR.2.2.2
  by_cases ok : 0 ≤ x ∧ x ≤ 2
  · have q := st x ok.1 (by omega)
    refine Opk.ro hR (vI (g 90 x)) ?_ ?_ (frT.refl g) (frS.refl g)
    · rw [bX11_status_0]
      rcases (by omega : x = 0 ∨ x = 1 ∨ x = 2) with rfl | rfl | rfl
      · rw [ev_tabIn (q := qX11_status) (pc := 1) (t := 28) (off := 27) dX11_status_1 (by omega) rfl (by decide), bX11_status_28, ← q.1]
        rfl
      · rw [ev_tabIn (q := qX11_status) (pc := 1) (t := 33) (off := 32) dX11_status_1 (by omega) rfl (by decide), bX11_status_33, ← q.1]
        rfl
      · rw [ev_tabIn (q := qX11_status) (pc := 1) (t := 38) (off := 37) dX11_status_1 (by omega) rfl (by decide), bX11_status_38, ← q.1]
        rfl
    · rw [bX12_status_0, e_in, bnd_some]
      show EV 9 qX12_status 9 _ [vI _] _ = _
      rw [bX12_status_9, if_neg (b01_pos ok), bX12_status_24 _ _ (by omega)]
  · refine Opk.no hR (-2) (by omega) (vI (-1)) ?_ ?_
    · rw [bX11_status_0, ev_tabOut (q := qX11_status) (pc := 1) (t := 43) dX11_status_1 (by omega) (by decide), bX11_status_43, c_counted _ _ c7, bnd_some]
      exact bX11_status_49 _ _ _
    · have q := hR.m9 (by omega) (-2) 0 (by omega) (by omega)
      rw [bX12_status_0, e_in, bnd_some]
      show EV 9 qX12_status 9 _ [vI _] _ = _
      rw [bX12_status_9, if_pos (b01_neg ok), bX12_status_12 _ _ (by omega)]
      rfl
theorem o_count {g : Hp} {n : Int} (hR : Rel g n) (hn : n < 1000) (x : Int) : Opk g n (EV 9 qX11_count 0 [vR 0, vI x] []) (EV 10 qX12_count 0 [vR 86, vI x] []) := by
  have c7 := hR.c7 (by omega)
  have q0 := hR.b0.2.1
  have q2 := hR.p29.2.1
  have q1 : g 1 7 = g 87 22 := by have := hR.1.2.2.2.2.1; rw [rg_at, Int.zero_add] at this; exact this
  have q3 : g 18 1 = g 87 36 := by have := hR.1.2.2.2.2.2.2.2.2.1; rw [rg_at, Int.zero_add] at this; exact this
  have q4 := hR.2.2.1.1
  by_cases ok : 0 ≤ x ∧ x ≤ 4
  · refine Opk.ro hR (vI (if x = 0 then g 87 0 else if x = 1 then g 87 22 else if x = 2 then g 87 29 else if x = 3 then g 87 36 else g 86 3)) ?_ ?_ (frT.refl g) (frS.refl g)
    · rw [bX11_count_0]
      rcases (by omega : x = 0 ∨ x = 1 ∨ x = 2 ∨ x = 3 ∨ x = 4) with rfl | rfl | rfl | rfl | rfl
      · rw [ev_tabIn (q := qX11_count) (pc := 1) (t := 36) (off := 35) dX11_count_1 (by omega) rfl (by decide), bX11_count_36, q0]
        rfl
      · rw [ev_tabIn (q := qX11_count) (pc := 1) (t := 44) (off := 43) dX11_count_1 (by omega) rfl (by decide), bX11_count_44, q1]
        rfl
      · rw [ev_tabIn (q := qX11_count) (pc := 1) (t := 52) (off := 51) dX11_count_1 (by omega) rfl (by decide), bX11_count_52, q2]
        rfl
      · rw [ev_tabIn (q := qX11_count) (pc := 1) (t := 60) (off := 59) dX11_count_1 (by omega) rfl (by decide), bX11_count_60, q3]
        rfl
      · rw [ev_tabIn (q := qX11_count) (pc := 1) (t := 71) (off := 70) dX11_count_1 (by omega) rfl (by decide), bX11_count_71, q4]
        rfl
    · rw [bX12_count_0, e_in, bnd_some]
      show EV 10 qX12_count 9 _ [vI _] _ = _
      rw [bX12_count_9, if_neg (b01_pos ok), bX12_count_12]
      have e : EV 8 qX12_countOf 0 [vR 86, vI x] [] g = some (some (vI (if x = 0 then g 87 0 else if x = 1 then g 87 22 else if x = 2 then g 87 29 else if x = 3 then g 87 36 else g 86 3)), g) := by
        simp only [bX12_countOf_0, bX12_countOf_4, bX12_countOf_13, bX12_countOf_18, bX12_countOf_28, bX12_countOf_33, bX12_countOf_43, bX12_countOf_48, bX12_countOf_58, bX12_countOf_62]
        repeat' split
        all_goals rfl
      rw [e, bnd_some]
      show EV 10 qX12_count 17 _ [vI _] _ = _
      rw [bX12_count_17, bX12_count_24]
  · refine Opk.no hR (-2) (by omega) (vI (-2)) ?_ ?_
    · rw [bX11_count_0, ev_tabOut (q := qX11_count) (pc := 1) (t := 79) dX11_count_1 (by omega) (by decide), bX11_count_79, c_counted _ _ c7, bnd_some]
      exact bX11_count_85 _ _ _
    · rw [bX12_count_0, e_in, bnd_some]
      show EV 10 qX12_count 9 _ [vI _] _ = _
      rw [bX12_count_9, if_pos (b01_neg ok), bX12_count_20, e_bad _ (hR.m9 (by omega) _), bnd_some]
      exact bX12_count_24 _ _ _
theorem o_clear {g : Hp} {n : Int} (hR : Rel g n) : Opk g n (EV 9 qX11_clear 0 [vR 0] []) (EV 8 qX12_clear 0 [vR 86, vU] []) := by
  obtain ⟨a, b, c, d⟩ := hR
  refine ⟨g 79 1, up g 79 1 0, up (up g 79 1 0) 86 3 0, ?_, ?_, ⟨a.keep (fun x x1 x2 => ?_) (fun k _ _ => ?_), b.keep (fun x x1 x2 => ?_) ?_ (fun k _ _ => ?_), ?_, d.keep (by omega) (fun k _ _ => ?_) ?_⟩, ?_⟩
  · rw [bX11_clear_0, bX10_wipe_0, bnd_some]
    exact bX11_clear_7 _ _
  · rw [bX12_clear_0, up_ne (by omega), c.1]
  · funext i; rw [up_ne (by omega), up_ne (by omega)]
  · unfold rg; rw [up_ne (by omega), up_ne (by omega)]
  · funext i; rw [up_ne (by omega), up_ne (by omega)]
  · funext i; rw [up_ne (by omega), up_ne (by omega)]
  · rw [up_ne (by omega), up_ne (by omega)]
  · refine ⟨?_, by rw [up_eq]; omega, fun k k0 k1 => ?_⟩
    · rw [up_ne (by omega), up_eq, up_eq]
    · rw [up_eq] at k1
      omega
  · rw [up_ne (by omega), up_ne (by omega)]
  · funext i; rw [up_ne (by omega), up_ne (by omega)]
  · funext i; rw [up_ne (by omega), up_ne (by omega)]
