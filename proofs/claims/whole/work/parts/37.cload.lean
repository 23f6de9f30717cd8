/-! the class's Fort, on: loads, tipping, packing -/
theorem l7_ld (g : Hp) (a : Nat) (x : Int) : EV 8 qX7_loadBy 0 [vR a, vI x] [] g = some (some (vI x), g) := Eq.trans (ev_iload_n (q := qX7_loadBy) (pc := 0) dX7_loadBy_0 rfl) (ev_ireturn (q := qX7_loadBy) (pc := 1) dX7_loadBy_1 (Or.inl rfl))
theorem l1_ld (g : Hp) (a : Nat) (x : Int) (h : 0 ≤ x) : EV 8 qX1_loadBy 0 [vR a, vI x] [] g = some (some (vI (x / 2)), g) := Eq.trans (ev_iload_n (q := qX1_loadBy) (pc := 0) dX1_loadBy_0 rfl) (Eq.trans (ev_iconst (q := qX1_loadBy) (pc := 1) dX1_loadBy_1 (by decide)) (Eq.trans (ev_idiv (q := qX1_loadBy) (pc := 2) dX1_loadBy_2 ⟨h, by decide⟩) (ev_ireturn (q := qX1_loadBy) (pc := 3) dX1_loadBy_3 (Or.inl rfl))))
theorem l0_ld (g : Hp) (a : Nat) (x : Int) (h : 0 ≤ x ∧ x < 1000) : EV 8 qX0_loadBy 0 [vR a, vI x] [] g = some (some (vI (2 * x)), g) := Eq.trans (ev_iconst (q := qX0_loadBy) (pc := 0) dX0_loadBy_0 (by decide)) (Eq.trans (ev_iload_n (q := qX0_loadBy) (pc := 1) dX0_loadBy_1 rfl) (Eq.trans (ev_imul (q := qX0_loadBy) (pc := 2) dX0_loadBy_2 ⟨by omega, by omega⟩) (ev_ireturn (q := qX0_loadBy) (pc := 3) dX0_loadBy_3 (Or.inl rfl))))
theorem l3_ld {f : Nat} (hF : isFort f) (g : Hp) (x : Int) (h : 0 ≤ x ∧ x < 1000) : EV 9 qX3_loadBy 0 [vR (f + 7), vI x, vU] [] g = some (some (vI (if 0 < x then 2 * x + 1 else 0)), g) := by
  simp (disch := omega) only [bX3_loadBy_0 hF, bX3_loadBy_5 hF, bX3_loadBy_10 hF, bX3_loadBy_16 hF, bX3_loadBy_17 hF, l0_ld, bnd_some, Option.toList_some, List.cons_append, List.nil_append]
  split
  · rw [if_neg (by omega), show 2 * x = 0 by omega]
  · rw [if_pos (by omega)]
theorem l7_mayRise (g : Hp) (a : Nat) : EV 8 qX7_mayRise 0 [vR a] [] g = some (some (vI 1), g) := Eq.trans (ev_iconst (q := qX7_mayRise) (pc := 0) dX7_mayRise_0 (by decide)) (ev_ireturn (q := qX7_mayRise) (pc := 1) dX7_mayRise_1 (Or.inr ⟨rfl, Or.inr rfl⟩))
theorem l7_mayFall (g : Hp) (a : Nat) : EV 8 qX7_mayFall 0 [vR a] [] g = some (some (vI 1), g) := Eq.trans (ev_iconst (q := qX7_mayFall) (pc := 0) dX7_mayFall_0 (by decide)) (ev_ireturn (q := qX7_mayFall) (pc := 1) dX7_mayFall_1 (Or.inr ⟨rfl, Or.inr rfl⟩))
theorem c_ld_tail {f : Nat} (hF : isFort f) (g : Hp) (b x y k : Int) (hk : 0 ≤ k ∧ k ≤ 5) (hx : 0 ≤ x ∧ x < 1000) : EV 10 qX2_loadOn 54 [vR f, vI b, vI x, vI y] [vI k, vR (f + 1)] g = some (some (vI (aKd k x)), g) := by
  rcases (by omega : k = 0 ∨ k = 1 ∨ k = 2 ∨ k = 3 ∨ k = 4 ∨ k = 5) with rfl | rfl | rfl | rfl | rfl | rfl
  · rw [ev_aald (i := (0 : Int)) (q := qX2_loadOn) (pc := 54) dX2_loadOn_54 (Or.inl (fk_1 hF)) (fl_1 hF) (by omega) (fr_1_0 hF), ev_iload_n (q := qX2_loadOn) (pc := 55) dX2_loadOn_55 rfl, ev_cV (q := qX2_loadOn) (pc := 56) dX2_loadOn_56 ct_2_112 (by decide) rfl (by rw [fk_2 hF]; exact su_2_112_7) rfl rfl ⟨⟨Nat.le_of_ble_eq_true rfl, Nat.le_of_ble_eq_true rfl⟩, Nat.le_of_ble_eq_true rfl, Nat.le_of_ble_eq_true rfl⟩ rfl rfl]
    refine (congrArg (fun z => bnd z _) (l7_ld g _ x)).trans ?_
    rw [bnd_some]
    exact bX2_loadOn_59 hF _ _ _ _ _
  · rw [ev_aald (i := (1 : Int)) (q := qX2_loadOn) (pc := 54) dX2_loadOn_54 (Or.inl (fk_1 hF)) (fl_1 hF) (by omega) (fr_1_1 hF), ev_iload_n (q := qX2_loadOn) (pc := 55) dX2_loadOn_55 rfl, ev_cV (q := qX2_loadOn) (pc := 56) dX2_loadOn_56 ct_2_112 (by decide) rfl (by rw [fk_3 hF]; exact su_2_112_1) rfl rfl ⟨⟨Nat.le_of_ble_eq_true rfl, Nat.le_of_ble_eq_true rfl⟩, Nat.le_of_ble_eq_true rfl, Nat.le_of_ble_eq_true rfl⟩ rfl rfl]
    refine (congrArg (fun z => bnd z _) (l1_ld g _ x (by omega))).trans ?_
    rw [bnd_some]
    exact bX2_loadOn_59 hF _ _ _ _ _
  · rw [ev_aald (i := (2 : Int)) (q := qX2_loadOn) (pc := 54) dX2_loadOn_54 (Or.inl (fk_1 hF)) (fl_1 hF) (by omega) (fr_1_2 hF), ev_iload_n (q := qX2_loadOn) (pc := 55) dX2_loadOn_55 rfl, ev_cV (q := qX2_loadOn) (pc := 56) dX2_loadOn_56 ct_2_112 (by decide) rfl (by rw [fk_4 hF]; exact su_2_112_0) rfl rfl ⟨⟨Nat.le_of_ble_eq_true rfl, Nat.le_of_ble_eq_true rfl⟩, Nat.le_of_ble_eq_true rfl, Nat.le_of_ble_eq_true rfl⟩ rfl rfl]
    refine (congrArg (fun z => bnd z _) (l0_ld g _ x hx)).trans ?_
    rw [bnd_some]
    exact bX2_loadOn_59 hF _ _ _ _ _
  · rw [ev_aald (i := (3 : Int)) (q := qX2_loadOn) (pc := 54) dX2_loadOn_54 (Or.inl (fk_1 hF)) (fl_1 hF) (by omega) (fr_1_3 hF), ev_iload_n (q := qX2_loadOn) (pc := 55) dX2_loadOn_55 rfl, ev_cV (q := qX2_loadOn) (pc := 56) dX2_loadOn_56 ct_2_112 (by decide) rfl (by rw [fk_5 hF]; exact su_2_112_5) rfl rfl ⟨⟨Nat.le_of_ble_eq_true rfl, Nat.le_of_ble_eq_true rfl⟩, Nat.le_of_ble_eq_true rfl, Nat.le_of_ble_eq_true rfl⟩ rfl rfl]
    refine (congrArg (fun z => bnd z _) (l7_ld g _ x)).trans ?_
    rw [bnd_some]
    exact bX2_loadOn_59 hF _ _ _ _ _
  · rw [ev_aald (i := (4 : Int)) (q := qX2_loadOn) (pc := 54) dX2_loadOn_54 (Or.inl (fk_1 hF)) (fl_1 hF) (by omega) (fr_1_4 hF), ev_iload_n (q := qX2_loadOn) (pc := 55) dX2_loadOn_55 rfl, ev_cV (q := qX2_loadOn) (pc := 56) dX2_loadOn_56 ct_2_112 (by decide) rfl (by rw [fk_6 hF]; exact su_2_112_4) rfl rfl ⟨⟨Nat.le_of_ble_eq_true rfl, Nat.le_of_ble_eq_true rfl⟩, Nat.le_of_ble_eq_true rfl, Nat.le_of_ble_eq_true rfl⟩ rfl rfl]
    refine (congrArg (fun z => bnd z _) (l1_ld g _ x (by omega))).trans ?_
    rw [bnd_some]
    exact bX2_loadOn_59 hF _ _ _ _ _
  · rw [ev_aald (i := (5 : Int)) (q := qX2_loadOn) (pc := 54) dX2_loadOn_54 (Or.inl (fk_1 hF)) (fl_1 hF) (by omega) (fr_1_5 hF), ev_iload_n (q := qX2_loadOn) (pc := 55) dX2_loadOn_55 rfl, ev_cV (q := qX2_loadOn) (pc := 56) dX2_loadOn_56 ct_2_112 (by decide) rfl (by rw [fk_7 hF]; exact su_2_112_3) rfl rfl ⟨⟨Nat.le_of_ble_eq_true rfl, Nat.le_of_ble_eq_true rfl⟩, Nat.le_of_ble_eq_true rfl, Nat.le_of_ble_eq_true rfl⟩ rfl rfl]
    refine (congrArg (fun z => bnd z _) (l3_ld hF g x hx)).trans ?_
    rw [bnd_some]
    exact bX2_loadOn_59 hF _ _ _ _ _
theorem c_tip_mayFall {f : Nat} (hF : isFort f) (g : Hp) (h l k : Int) (hk : 0 ≤ k ∧ k ≤ 5) : EV 9 qX2_tip 18 [vR f, vI h, vI l, vU, vU] [vI k, vR (f + 1)] g = EV 9 qX2_tip 22 [vR f, vI h, vI l, vU, vU] [vI (b01 (k ≠ 4))] g := by
  rcases (by omega : k = 0 ∨ k = 1 ∨ k = 2 ∨ k = 3 ∨ k = 4 ∨ k = 5) with rfl | rfl | rfl | rfl | rfl | rfl
  · rw [ev_aald (i := (0 : Int)) (q := qX2_tip) (pc := 18) dX2_tip_18 (Or.inl (fk_1 hF)) (fl_1 hF) (by omega) (fr_1_0 hF), ev_cV (q := qX2_tip) (pc := 19) dX2_tip_19 ct_2_135 (by decide) rfl (by rw [fk_2 hF]; exact su_2_135_7) rfl rfl ⟨⟨Nat.le_of_ble_eq_true rfl, Nat.le_of_ble_eq_true rfl⟩, Nat.le_of_ble_eq_true rfl, Nat.le_of_ble_eq_true rfl⟩ rfl rfl]
    refine (congrArg (fun z => bnd z _) (l7_mayFall g _)).trans ?_
    rw [bnd_some]
    rfl
  · rw [ev_aald (i := (1 : Int)) (q := qX2_tip) (pc := 18) dX2_tip_18 (Or.inl (fk_1 hF)) (fl_1 hF) (by omega) (fr_1_1 hF), ev_cV (q := qX2_tip) (pc := 19) dX2_tip_19 ct_2_135 (by decide) rfl (by rw [fk_3 hF]; exact su_2_135_1) rfl rfl ⟨⟨Nat.le_of_ble_eq_true rfl, Nat.le_of_ble_eq_true rfl⟩, Nat.le_of_ble_eq_true rfl, Nat.le_of_ble_eq_true rfl⟩ rfl rfl]
    refine (congrArg (fun z => bnd z _) (l7_mayFall g _)).trans ?_
    rw [bnd_some]
    rfl
  · rw [ev_aald (i := (2 : Int)) (q := qX2_tip) (pc := 18) dX2_tip_18 (Or.inl (fk_1 hF)) (fl_1 hF) (by omega) (fr_1_2 hF), ev_cV (q := qX2_tip) (pc := 19) dX2_tip_19 ct_2_135 (by decide) rfl (by rw [fk_4 hF]; exact su_2_135_0) rfl rfl ⟨⟨Nat.le_of_ble_eq_true rfl, Nat.le_of_ble_eq_true rfl⟩, Nat.le_of_ble_eq_true rfl, Nat.le_of_ble_eq_true rfl⟩ rfl rfl]
    refine (congrArg (fun z => bnd z _) (l7_mayFall g _)).trans ?_
    rw [bnd_some]
    rfl
  · rw [ev_aald (i := (3 : Int)) (q := qX2_tip) (pc := 18) dX2_tip_18 (Or.inl (fk_1 hF)) (fl_1 hF) (by omega) (fr_1_3 hF), ev_cV (q := qX2_tip) (pc := 19) dX2_tip_19 ct_2_135 (by decide) rfl (by rw [fk_5 hF]; exact su_2_135_5) rfl rfl ⟨⟨Nat.le_of_ble_eq_true rfl, Nat.le_of_ble_eq_true rfl⟩, Nat.le_of_ble_eq_true rfl, Nat.le_of_ble_eq_true rfl⟩ rfl rfl]
    refine (congrArg (fun z => bnd z _) (l7_mayFall g _)).trans ?_
    rw [bnd_some]
    rfl
  · rw [ev_aald (i := (4 : Int)) (q := qX2_tip) (pc := 18) dX2_tip_18 (Or.inl (fk_1 hF)) (fl_1 hF) (by omega) (fr_1_4 hF), ev_cV (q := qX2_tip) (pc := 19) dX2_tip_19 ct_2_135 (by decide) rfl (by rw [fk_6 hF]; exact su_2_135_4) rfl rfl ⟨⟨Nat.le_of_ble_eq_true rfl, Nat.le_of_ble_eq_true rfl⟩, Nat.le_of_ble_eq_true rfl, Nat.le_of_ble_eq_true rfl⟩ rfl rfl]
    refine (congrArg (fun z => bnd z _) (bX4_mayFall_0 hF g)).trans ?_
    rw [bnd_some]
    rfl
  · rw [ev_aald (i := (5 : Int)) (q := qX2_tip) (pc := 18) dX2_tip_18 (Or.inl (fk_1 hF)) (fl_1 hF) (by omega) (fr_1_5 hF), ev_cV (q := qX2_tip) (pc := 19) dX2_tip_19 ct_2_135 (by decide) rfl (by rw [fk_7 hF]; exact su_2_135_3) rfl rfl ⟨⟨Nat.le_of_ble_eq_true rfl, Nat.le_of_ble_eq_true rfl⟩, Nat.le_of_ble_eq_true rfl, Nat.le_of_ble_eq_true rfl⟩ rfl rfl]
    refine (congrArg (fun z => bnd z _) (l7_mayFall g _)).trans ?_
    rw [bnd_some]
    rfl
theorem c_tip_mayRise {f : Nat} (hF : isFort f) (g : Hp) (h l u k : Int) (hk : 0 ≤ k ∧ k ≤ 5) : EV 9 qX2_tip 49 [vR f, vI h, vI l, vI u, vU] [vI k, vR (f + 1)] g = EV 9 qX2_tip 53 [vR f, vI h, vI l, vI u, vU] [vI (b01 (k ≠ 3))] g := by
  rcases (by omega : k = 0 ∨ k = 1 ∨ k = 2 ∨ k = 3 ∨ k = 4 ∨ k = 5) with rfl | rfl | rfl | rfl | rfl | rfl
  · rw [ev_aald (i := (0 : Int)) (q := qX2_tip) (pc := 49) dX2_tip_49 (Or.inl (fk_1 hF)) (fl_1 hF) (by omega) (fr_1_0 hF), ev_cV (q := qX2_tip) (pc := 50) dX2_tip_50 ct_2_139 (by decide) rfl (by rw [fk_2 hF]; exact su_2_139_7) rfl rfl ⟨⟨Nat.le_of_ble_eq_true rfl, Nat.le_of_ble_eq_true rfl⟩, Nat.le_of_ble_eq_true rfl, Nat.le_of_ble_eq_true rfl⟩ rfl rfl]
    refine (congrArg (fun z => bnd z _) (l7_mayRise g _)).trans ?_
    rw [bnd_some]
    rfl
  · rw [ev_aald (i := (1 : Int)) (q := qX2_tip) (pc := 49) dX2_tip_49 (Or.inl (fk_1 hF)) (fl_1 hF) (by omega) (fr_1_1 hF), ev_cV (q := qX2_tip) (pc := 50) dX2_tip_50 ct_2_139 (by decide) rfl (by rw [fk_3 hF]; exact su_2_139_1) rfl rfl ⟨⟨Nat.le_of_ble_eq_true rfl, Nat.le_of_ble_eq_true rfl⟩, Nat.le_of_ble_eq_true rfl, Nat.le_of_ble_eq_true rfl⟩ rfl rfl]
    refine (congrArg (fun z => bnd z _) (l7_mayRise g _)).trans ?_
    rw [bnd_some]
    rfl
  · rw [ev_aald (i := (2 : Int)) (q := qX2_tip) (pc := 49) dX2_tip_49 (Or.inl (fk_1 hF)) (fl_1 hF) (by omega) (fr_1_2 hF), ev_cV (q := qX2_tip) (pc := 50) dX2_tip_50 ct_2_139 (by decide) rfl (by rw [fk_4 hF]; exact su_2_139_0) rfl rfl ⟨⟨Nat.le_of_ble_eq_true rfl, Nat.le_of_ble_eq_true rfl⟩, Nat.le_of_ble_eq_true rfl, Nat.le_of_ble_eq_true rfl⟩ rfl rfl]
    refine (congrArg (fun z => bnd z _) (l7_mayRise g _)).trans ?_
    rw [bnd_some]
    rfl
  · rw [ev_aald (i := (3 : Int)) (q := qX2_tip) (pc := 49) dX2_tip_49 (Or.inl (fk_1 hF)) (fl_1 hF) (by omega) (fr_1_3 hF), ev_cV (q := qX2_tip) (pc := 50) dX2_tip_50 ct_2_139 (by decide) rfl (by rw [fk_5 hF]; exact su_2_139_5) rfl rfl ⟨⟨Nat.le_of_ble_eq_true rfl, Nat.le_of_ble_eq_true rfl⟩, Nat.le_of_ble_eq_true rfl, Nat.le_of_ble_eq_true rfl⟩ rfl rfl]
    refine (congrArg (fun z => bnd z _) (bX5_mayRise_0 hF g)).trans ?_
    rw [bnd_some]
    rfl
  · rw [ev_aald (i := (4 : Int)) (q := qX2_tip) (pc := 49) dX2_tip_49 (Or.inl (fk_1 hF)) (fl_1 hF) (by omega) (fr_1_4 hF), ev_cV (q := qX2_tip) (pc := 50) dX2_tip_50 ct_2_139 (by decide) rfl (by rw [fk_6 hF]; exact su_2_139_4) rfl rfl ⟨⟨Nat.le_of_ble_eq_true rfl, Nat.le_of_ble_eq_true rfl⟩, Nat.le_of_ble_eq_true rfl, Nat.le_of_ble_eq_true rfl⟩ rfl rfl]
    refine (congrArg (fun z => bnd z _) (l7_mayRise g _)).trans ?_
    rw [bnd_some]
    rfl
  · rw [ev_aald (i := (5 : Int)) (q := qX2_tip) (pc := 49) dX2_tip_49 (Or.inl (fk_1 hF)) (fl_1 hF) (by omega) (fr_1_5 hF), ev_cV (q := qX2_tip) (pc := 50) dX2_tip_50 ct_2_139 (by decide) rfl (by rw [fk_7 hF]; exact su_2_139_3) rfl rfl ⟨⟨Nat.le_of_ble_eq_true rfl, Nat.le_of_ble_eq_true rfl⟩, Nat.le_of_ble_eq_true rfl, Nat.le_of_ble_eq_true rfl⟩ rfl rfl]
    refine (congrArg (fun z => bnd z _) (l7_mayRise g _)).trans ?_
    rw [bnd_some]
    rfl
