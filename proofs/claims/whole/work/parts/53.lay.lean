/-! type -/
theorem c_app_loop (y n : Int) : ∀ (m : Nat) (g : Hp), m ≤ 8 → 0 ≤ g 79 1 → g 79 1 + (m : Int) ≤ 200 → ∃ g', EV 8 qX10_append 34 [vR 79, vL y, vU, vI n, vI ((m : Int) - 1)] [] g = some (some (vI (g 79 1 + (m : Int))), g') ∧ g' 79 1 = g 79 1 + (m : Int) ∧ (∀ k, k < g 79 1 → g' 80 k = g 80 k) ∧ (∀ j : Nat, j < m → g' 80 (g 79 1 + (j : Int)) = w32 (lAnd (lUsh y (8 * ((m - 1 - j : Nat) : Int))) 255)) ∧ ∀ a : Nat, a ≠ 79 → a ≠ 80 → g' a = g a := by
  intro m
  induction m with
  | zero =>
    intro g _ h0 h1
    refine ⟨g, ?_, by omega, fun _ _ => rfl, fun j hj => absurd hj (by omega), fun _ _ _ => rfl⟩
    rw [bX10_append_34, if_pos (by omega), bX10_append_76]
    exact ans_eq (by omega)
  | succ m ih =>
    intro g hm h0 h1
    have e1 : ((m + 1 : Nat) : Int) - 1 = (m : Int) := by omega
    rw [e1]
    generalize hg1 : up (up g 80 (g 79 1) (w32 (lAnd (lUsh y (8 * (m : Int))) 255))) 79 1 (g 79 1 + 1) = g1
    have q79 : g1 79 1 = g 79 1 + 1 := by subst hg1; exact up_eq
    have q80 : ∀ k, g1 80 k = if k = g 79 1 then w32 (lAnd (lUsh y (8 * (m : Int))) 255) else g 80 k := fun k => by
      subst hg1
      rw [up_ne (by omega)]
      by_cases e : k = g 79 1
      · rw [e, up_eq, if_pos rfl]
      · rw [up_nei e, if_neg e]
    obtain ⟨g', a1, a2, a3, a4, a5⟩ := ih g1 (by omega) (by omega) (by omega)
    refine ⟨g', ?_, by omega, fun k hk => ?_, fun j hj => ?_, fun a b1 b2 => ?_⟩
    · rw [bX10_append_34, if_neg (by omega), bX10_append_39 _ _ _ _ (by omega) (by omega) (by omega) (by omega), hg1]
      rw [show (m : Int) + -1 = (m : Int) - 1 by omega, a1]
      exact ans_eq (by omega)
    · rw [a3 k (by omega), q80, if_neg (by omega)]
    · cases j with
      | zero =>
        rw [a3 _ (by omega), q80, if_pos (by omega)]
        rfl
      | succ j =>
        have := a4 j (by omega)
        rw [q79] at this
        rw [show g 79 1 + ((j + 1 : Nat) : Int) = g 79 1 + 1 + (j : Int) by omega, this, show m + 1 - 1 - (j + 1) = m - 1 - j by omega]
    · rw [a5 a b1 b2]
      subst hg1
      funext i
      rw [up_ne b1, up_ne b2]
theorem m_app_loop (y n : Int) : ∀ (m : Nat) (g : Hp), m ≤ 8 → 0 ≤ g 86 3 → g 86 3 + (m : Int) ≤ 200 → ∃ g', EV 10 qX12_type 41 [vR 86, vL y, vU, vI n, vI ((m : Int) - 1)] [] g = some (some (vI (g 86 3 + (m : Int))), g') ∧ g' 86 3 = g 86 3 + (m : Int) ∧ (∀ k, k < g 86 3 → g' 89 k = g 89 k) ∧ (∀ j : Nat, j < m → g' 89 (g 86 3 + (j : Int)) = w32 (lAnd (lShr y (8 * ((m - 1 - j : Nat) : Int))) 255)) ∧ ∀ a : Nat, a ≠ 86 → a ≠ 89 → g' a = g a := by
  intro m
  induction m with
  | zero =>
    intro g _ h0 h1
    refine ⟨g, ?_, by omega, fun _ _ => rfl, fun j hj => absurd hj (by omega), fun _ _ _ => rfl⟩
    rw [bX12_type_41, if_pos (by omega), bX12_type_83]
    exact ans_eq (by omega)
  | succ m ih =>
    intro g hm h0 h1
    have e1 : ((m + 1 : Nat) : Int) - 1 = (m : Int) := by omega
    rw [e1]
    generalize hg1 : up (up g 89 (g 86 3) (w32 (lAnd (lShr y (8 * (m : Int))) 255))) 86 3 (g 86 3 + 1) = g1
    have q79 : g1 86 3 = g 86 3 + 1 := by subst hg1; exact up_eq
    have q80 : ∀ k, g1 89 k = if k = g 86 3 then w32 (lAnd (lShr y (8 * (m : Int))) 255) else g 89 k := fun k => by
      subst hg1
      rw [up_ne (by omega)]
      by_cases e : k = g 86 3
      · rw [e, up_eq, if_pos rfl]
      · rw [up_nei e, if_neg e]
    obtain ⟨g', a1, a2, a3, a4, a5⟩ := ih g1 (by omega) (by omega) (by omega)
    refine ⟨g', ?_, by omega, fun k hk => ?_, fun j hj => ?_, fun a b1 b2 => ?_⟩
    · rw [bX12_type_41, if_neg (by omega), bX12_type_46 _ _ _ _ (by omega) (by omega) (by omega) (by omega), hg1]
      rw [show (m : Int) + -1 = (m : Int) - 1 by omega, a1]
      exact ans_eq (by omega)
    · rw [a3 k (by omega), q80, if_neg (by omega)]
    · cases j with
      | zero =>
        rw [a3 _ (by omega), q80, if_pos (by omega)]
        rfl
      | succ j =>
        have := a4 j (by omega)
        rw [q79] at this
        rw [show g 86 3 + ((j + 1 : Nat) : Int) = g 86 3 + 1 + (j : Int) by omega, this, show m + 1 - 1 - (j + 1) = m - 1 - j by omega]
    · rw [a5 a b1 b2]
      subst hg1
      funext i
      rw [up_ne b1, up_ne b2]
theorem o_type {g : Hp} {n : Int} (hR : Rel g n) (hn : n < 1000) (y x : Int) : Opk g n (EV 9 qX11_type 0 [vR 0, vL y, vU, vI x] []) (EV 10 qX12_type 0 [vR 86, vL y, vU, vI x, vU] []) := by
  have c7 := hR.c7 (by omega)
  obtain ⟨ra, rb, rc, rd⟩ := id hR
  obtain ⟨t1, t2, t3⟩ := rc
  have cC : ∀ (v : Int) (g' : Hp), EV 8 qX10_append 0 [vR 79, vL y, vU, vI x, vU] [] g = some (some (vI v), g') → (∀ k, 7 ≤ k → g' 0 k = g 0 k) → EV 9 qX11_type 0 [vR 0, vL y, vU, vI x] [] g = some (some (vI v), ctH g' v) := fun v g' hE hz => by
    rw [bX11_type_0, hE, bnd_some]
    show EV 9 qX11_type 10 _ [vI _, vR 0] _ = _
    rw [bX11_type_10, c_counted _ _ (fun k k0 k1 => by rw [hz k k0]; exact c7 k k0 k1), bnd_some]
    exact bX11_type_13 _ _ _ _
  by_cases ok : 1 ≤ x ∧ x ≤ 8
  · have e3 : ctH g (-4) 86 3 = g 86 3 := by rw [ctH_86 (by omega)]
    by_cases full : g 86 3 + x ≤ 200
    · obtain ⟨m, rfl⟩ := Int.eq_ofNat_of_zero_le (show 0 ≤ x by omega)
      obtain ⟨g1, a1, a2, a3, a4, a5⟩ := c_app_loop y (m : Int) m g (by omega) (by omega) (by omega)
      have ha := cC _ _ (by rw [bX10_append_0, if_neg (by omega), bX10_append_5, if_pos (by omega), bX10_append_14 _ _ _ (by omega), if_pos (by omega), bX10_append_29 _ _ _ (by omega), a1]) (fun k _ => by rw [a5 0 (by omega) (by omega)])
      rw [ctH_0 _ (by omega)] at ha
      have f3 : g1 86 3 = g 86 3 := by rw [a5 86 (by omega) (by omega)]
      obtain ⟨g2, b1, b2, b3, b4, b5⟩ := m_app_loop y (m : Int) m g1 (by omega) (by omega) (by omega)
      have k : ∀ a : Nat, a ≠ 79 → a ≠ 80 → a ≠ 86 → a ≠ 89 → g2 a = g a := fun a x1 x2 x3 x4 => by rw [b5 a x3 x4, a5 a x1 x2]
      refine ⟨_, g1, g2, ha, ?_, ⟨ra.keep (fun a' x1 x2 => k a' (by omega) (by omega) (by omega) (by omega)) (fun j _ _ => ?_), rb.keep (fun a' x1 x2 => k a' (by omega) (by omega) (by omega) (by omega)) (k 88 (by omega) (by omega) (by omega) (by omega)) (fun j _ _ => ?_), ⟨?_, ?_, fun j j0 j1 => ?_⟩, rd.keep (by omega) (fun j _ _ => ?_) (k 90 (by omega) (by omega) (by omega) (by omega))⟩, k 220 (by omega) (by omega) (by omega) (by omega)⟩
      · rw [bX12_type_0, e_in, bnd_some]
        show EV 10 qX12_type 9 _ [vI _] _ = _
        rw [bX12_type_9, if_neg (b01_pos ok), bX12_type_17 _ _ _ (by omega), if_pos (by omega), bX12_type_36 _ _ _ (by omega), b1]
        exact ans_eq (by omega)
      · unfold rg
        rw [k 87 (by omega) (by omega) (by omega) (by omega)]
      · rw [k 87 (by omega) (by omega) (by omega) (by omega)]
      · rw [b5 79 (by omega) (by omega), a2, b2]
        omega
      · omega
      · rw [b5 80 (by omega) (by omega)]
        by_cases e : j < g 86 3
        · rw [a3 j (by omega), b3 j (by omega), a5 89 (by omega) (by omega)]
          exact t3 j j0 e
        · obtain ⟨i, hi⟩ := Int.eq_ofNat_of_zero_le (show 0 ≤ j - g 86 3 by omega)
          have hj : j = g 86 3 + (i : Int) := by omega
          have hji : i < m := by omega
          have q1 := a4 i hji
          have q2 := b4 i hji
          rw [f3] at q2
          rw [t1] at q1
          have q := byt y (i := m - 1 - i) (by omega)
          rw [hj, q1, q2]
          exact q
      · rw [k 0 (by omega) (by omega) (by omega) (by omega)]
    · refine Opk.no hR (-4) (by omega) (vI (-4)) (cC _ _ (by rw [bX10_append_0, if_neg (by omega), bX10_append_5, if_pos (by omega), bX10_append_14 _ _ _ (by omega), if_neg (by omega), bX10_append_26]) (fun _ _ => rfl)) ?_
      rw [bX12_type_0, e_in, bnd_some]
      show EV 10 qX12_type 9 _ [vI _] _ = _
      rw [bX12_type_9, if_neg (b01_pos ok), bX12_type_17 _ _ _ (by omega), if_neg (by omega), bX12_type_29, e_met _ _ (hR.m9 (by omega) _), bnd_some]
      exact bX12_type_35 _ _ _ _
  · refine Opk.no hR (-2) (by omega) (vI (-2)) (cC _ _ ?_ (fun _ _ => rfl)) ?_
    · rw [bX10_append_0, bX10_append_11, bX10_append_5, bX10_append_11]
      by_cases z : x < 1
      · rw [if_pos z]
      · rw [if_neg z, if_neg (by omega)]
    · rw [bX12_type_0, e_in, bnd_some]
      show EV 10 qX12_type 9 _ [vI _] _ = _
      rw [bX12_type_9, if_pos (b01_neg ok), bX12_type_12, e_bad _ (hR.m9 (by omega) _), bnd_some]
      exact bX12_type_16 _ _ _ _
/-! the reference lays the fort for looking ahead -/
def lay5 (g : Hp) (n : Int) : Hp := fun a i => if a = 91 ∧ 0 ≤ i ∧ i < n then g 87 (16 + i) else g a i
theorem lay5_succ (g : Hp) (n : Int) (hn : 0 ≤ n) : up (lay5 g n) 91 n (lay5 g n 87 (16 + n)) = lay5 g (n + 1) := by
  funext a i
  unfold up lay5
  by_cases ha : a = 91
  · subst ha
    by_cases hi : i = n
    · subst hi
      rw [if_pos ⟨rfl, rfl⟩, if_neg (by omega), if_pos ⟨rfl, hn, by omega⟩]
    · rw [if_neg (fun h => hi h.2)]
      by_cases h2 : 0 ≤ i ∧ i < n
      · rw [if_pos ⟨rfl, h2⟩, if_pos ⟨rfl, by omega⟩]
      · rw [if_neg (fun h => h2 h.2), if_neg (fun h => by omega)]
  · rw [if_neg (fun h => ha h.1), if_neg (fun h => ha h.1), if_neg (fun h => ha h.1)]
def tm (h : Hp) (c a b r : Int) : Hp := up (up (up (up h 92 c a) 93 c b) 94 c r) 86 6 (c + 1)
theorem m_tieMore (h : Hp) (c a b r : Int) (hc : 0 ≤ c ∧ c < 3) (e : h 86 6 = c) : EV 8 qX12_tieMore 0 [vR 86, vI a, vI b, vI r] [] h = some (none, tm h c a b r) := by
  subst e
  rw [bX12_tieMore_0 _ _ _ _ (by omega) (by omega) (by omega) (by omega)]
  rfl
theorem m_lay_it (h : Hp) (c : Int) (hc : 0 ≤ c ∧ c < 2) (e : h 86 6 = c) (hlt : c < h 87 22) : EV 9 qX12_layNow 35 [vR 86, vI c] [] h = EV 9 qX12_layNow 35 [vR 86, vI (c + 1)] [] (tm h c (h 87 (23 + c)) (h 87 (25 + c)) (h 87 (27 + c))) := by
  rw [bX12_layNow_35, if_neg (by omega), bX12_layNow_46 _ _ (by omega) (by omega) (by omega) (by omega) (by omega) (by omega), m_tieMore _ c _ _ _ (by omega) e, bnd_some]
  show EV 9 qX12_layNow 77 _ [] _ = _
  rw [bX12_layNow_77 _ _ (by omega)]
/-- what layNow lays -/
def Laid (g g' : Hp) : Prop :=
  (∀ k, 0 ≤ k → k < 5 → g' 91 k = g 87 (16 + k)) ∧ g' 86 6 = g 87 22 ∧ (∀ c, 0 ≤ c → c < g 87 22 → g' 92 c = g 87 (23 + c) ∧ g' 93 c = g 87 (25 + c) ∧ g' 94 c = g 87 (27 + c)) ∧ g' 86 10 = pw2 (g 87 29) - 1 ∧
  (∀ a : Nat, a ≠ 86 → a ≠ 91 → a ≠ 92 → a ≠ 93 → a ≠ 94 → g' a = g a) ∧ ∀ i : Int, i ≠ 6 → i ≠ 10 → g' 86 i = g 86 i
theorem tm_e (h : Hp) (c a b r : Int) : (∀ i, tm h c a b r 92 i = if i = c then a else h 92 i) ∧ (∀ i, tm h c a b r 93 i = if i = c then b else h 93 i) ∧ (∀ i, tm h c a b r 94 i = if i = c then r else h 94 i) ∧ tm h c a b r 86 6 = c + 1 ∧ (∀ i, i ≠ 6 → tm h c a b r 86 i = h 86 i) ∧ ∀ x : Nat, x ≠ 86 → x ≠ 92 → x ≠ 93 → x ≠ 94 → tm h c a b r x = h x := by
  unfold tm
  refine ⟨fun i => ?_, fun i => ?_, fun i => ?_, up_eq, fun i hi => ?_, fun x x1 x2 x3 x4 => ?_⟩
  · rw [up_ne (by omega), up_ne (by omega), up_ne (by omega)]
    by_cases e : i = c
    · rw [e, up_eq, if_pos rfl]
    · rw [up_nei e, if_neg e]
  · rw [up_ne (by omega), up_ne (by omega)]
    by_cases e : i = c
    · rw [e, up_eq, if_pos rfl]
    · rw [up_nei e, if_neg e, up_ne (by omega)]
  · rw [up_ne (by omega)]
    by_cases e : i = c
    · rw [e, up_eq, if_pos rfl]
    · rw [up_nei e, if_neg e, up_ne (by omega), up_ne (by omega)]
  · rw [up_nei hi, up_ne (by omega), up_ne (by omega), up_ne (by omega)]
  · funext i
    rw [up_ne x1, up_ne x4, up_ne x3, up_ne x2]
theorem m_layNow (g : Hp) (h22 : 0 ≤ g 87 22 ∧ g 87 22 ≤ 2) (h29 : 0 ≤ g 87 29 ∧ g 87 29 ≤ 3) : ∃ g', EV 9 qX12_layNow 0 [vR 86, vU] [] g = some (none, g') ∧ Laid g g' := by
  have l5 : EV 9 qX12_layNow 0 [vR 86, vU] [] g = EV 9 qX12_layNow 35 [vR 86, vI 0] [] (up (lay5 g 5) 86 6 0) := by
    have loop : ∀ (m : Nat) (n : Int), 0 ≤ n → n + m = 5 → EV 9 qX12_layNow 2 [vR 86, vI n] [] (lay5 g n) = EV 9 qX12_layNow 28 [vR 86, vI 5] [] (lay5 g 5) := by
      intro m
      induction m with
      | zero =>
        intro n h0 hn
        rw [bX12_layNow_2, if_pos (by omega), show n = 5 by omega]
      | succ m ih =>
        intro n h0 hn
        rw [bX12_layNow_2, if_neg (by omega), bX12_layNow_7 _ _ (by omega) (by omega) (by omega) (by omega), lay5_succ g n h0]
        exact ih (n + 1) (by omega) (by omega)
    rw [bX12_layNow_0]
    have h0 : g = lay5 g 0 := by
      funext a i
      unfold lay5
      rw [if_neg (by omega)]
    have := loop 5 0 (by omega) (by omega)
    rw [← h0] at this
    rw [this, bX12_layNow_28]
  rw [l5]
  generalize hh : up (lay5 g 5) 86 6 0 = h
  have q91 : ∀ k, 0 ≤ k → k < 5 → h 91 k = g 87 (16 + k) := fun k k0 k1 => by
    subst hh
    rw [up_ne (by omega)]
    unfold lay5
    rw [if_pos ⟨rfl, k0, k1⟩]
  have q6 : h 86 6 = 0 := by subst hh; exact up_eq
  have q86 : ∀ i, i ≠ 6 → h 86 i = g 86 i := fun i hi => by
    subst hh
    rw [up_nei hi]
    unfold lay5
    rw [if_neg (by omega)]
  have qo : ∀ a : Nat, a ≠ 86 → a ≠ 91 → h a = g a := fun a a1 a2 => by
    subst hh
    funext i
    rw [up_ne a1]
    unfold lay5
    rw [if_neg (fun z => a2 z.1)]
  have q87 := qo 87 (by omega) (by omega)
  have fin : ∀ (x : Hp) (c : Int), x 87 = g 87 → g 87 22 ≤ c → EV 9 qX12_layNow 35 [vR 86, vI c] [] x = some (none, up x 86 10 (pw2 (g 87 29) - 1)) := fun x c e hc => by
    have := pw2_le (n := g 87 29) (by omega)
    have := pw2_pos (n := g 87 29)
    rw [bX12_layNow_35, if_pos (by rw [e]; exact hc), bX12_layNow_83 _ _ (by rw [e, shl1I (by omega)]; omega), e, shl1I (by omega)]
  rcases (by omega : g 87 22 = 0 ∨ g 87 22 = 1 ∨ g 87 22 = 2) with e | e | e
  · refine ⟨_, fin h 0 q87 (by omega), ?_, ?_, fun c c0 c1 => by omega, up_eq, ?_, ?_⟩
    · intro k k0 k1
      rw [up_ne (by omega)]
      exact q91 k k0 k1
    · rw [up_nei (by omega), q6, e]
    · intro a a1 a2 a3 a4 a5
      funext i
      rw [up_ne a1, qo a a1 a2]
    · intro i i1 i2
      rw [up_nei i2, q86 i i1]
  · obtain ⟨t1, t2, t3, t4, t5, t6⟩ := tm_e h 0 (h 87 (23 + 0)) (h 87 (25 + 0)) (h 87 (27 + 0))
    have b1 := m_lay_it h 0 (by omega) q6 (by rw [q87]; omega)
    generalize tm h 0 (h 87 (23 + 0)) (h 87 (25 + 0)) (h 87 (27 + 0)) = h1 at *
    refine ⟨_, by rw [b1, fin h1 _ (by rw [t6 87 (by omega) (by omega) (by omega) (by omega), q87]) (by omega)], ?_, ?_, ?_, up_eq, ?_, ?_⟩
    · intro k k0 k1
      rw [up_ne (by omega), t6 91 (by omega) (by omega) (by omega) (by omega)]
      exact q91 k k0 k1
    · rw [up_nei (by omega), t4, e]
      rfl
    · intro c c0 c1
      have : c = 0 := by omega
      subst this
      rw [up_ne (by omega), up_ne (by omega), up_ne (by omega), t1, t2, t3, if_pos rfl, if_pos rfl, if_pos rfl, q87]
      exact ⟨rfl, rfl, rfl⟩
    · intro a a1 a2 a3 a4 a5
      funext i
      rw [up_ne a1, t6 a a1 a3 a4 a5, qo a a1 a2]
    · intro i i1 i2
      rw [up_nei i2, t5 i i1, q86 i i1]
  · obtain ⟨t1, t2, t3, t4, t5, t6⟩ := tm_e h 0 (h 87 (23 + 0)) (h 87 (25 + 0)) (h 87 (27 + 0))
    have b1 := m_lay_it h 0 (by omega) q6 (by rw [q87]; omega)
    generalize tm h 0 (h 87 (23 + 0)) (h 87 (25 + 0)) (h 87 (27 + 0)) = h1 at *
    have r87 : h1 87 = g 87 := by rw [t6 87 (by omega) (by omega) (by omega) (by omega), q87]
    obtain ⟨s1, s2, s3, s4, s5, s6⟩ := tm_e h1 1 (h1 87 (23 + 1)) (h1 87 (25 + 1)) (h1 87 (27 + 1))
    have b2 := m_lay_it h1 1 (by omega) t4 (by rw [r87]; omega)
    generalize tm h1 1 (h1 87 (23 + 1)) (h1 87 (25 + 1)) (h1 87 (27 + 1)) = h2 at *
    refine ⟨_, by rw [b1, show (0 : Int) + 1 = 1 from rfl, b2, fin h2 _ (by rw [s6 87 (by omega) (by omega) (by omega) (by omega), r87]) (by omega)], ?_, ?_, ?_, up_eq, ?_, ?_⟩
    · intro k k0 k1
      rw [up_ne (by omega), s6 91 (by omega) (by omega) (by omega) (by omega), t6 91 (by omega) (by omega) (by omega) (by omega)]
      exact q91 k k0 k1
    · rw [up_nei (by omega), s4, e]
      rfl
    · intro c c0 c1
      rw [up_ne (by omega), up_ne (by omega), up_ne (by omega), s1, s2, s3, t1, t2, t3, r87, q87]
      rcases (by omega : c = 0 ∨ c = 1) with rfl | rfl
      · exact ⟨rfl, rfl, rfl⟩
      · exact ⟨rfl, rfl, rfl⟩
    · intro a a1 a2 a3 a4 a5
      funext i
      rw [up_ne a1, s6 a a1 a3 a4 a5, t6 a a1 a3 a4 a5, qo a a1 a2]
    · intro i i1 i2
      rw [up_nei i2, s5 i i1, t5 i i1, q86 i i1]
