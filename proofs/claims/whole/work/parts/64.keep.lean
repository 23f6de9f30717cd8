/-! keep -/
def conI (p : Int) : Int → Int := fun _ => p
def stK (φ : Int → Int) (bits v : Int) : Int → Int := fun k => φ (16 + k) + if dnB bits k then v else 0
theorem al_ok {p : Int} (hp : 0 ≤ p ∧ p < 3) : cn (bShl 1 p) = 1 ∧ (∀ q, 0 ≤ q → q < 3 → (dnB (bShl 1 p) q ↔ q = p)) ∧ rk (bShl 1 p) p = 0 := by
  rcases (by omega : p = 0 ∨ p = 1 ∨ p = 2) with rfl | rfl | rfl
  · refine ⟨by decide, fun q q0 q1 => ?_, by decide⟩
    rcases (by omega : q = 0 ∨ q = 1 ∨ q = 2) with rfl | rfl | rfl <;> decide
  · refine ⟨by decide, fun q q0 q1 => ?_, by decide⟩
    rcases (by omega : q = 0 ∨ q = 1 ∨ q = 2) with rfl | rfl | rfl <;> decide
  · refine ⟨by decide, fun q q0 q1 => ?_, by decide⟩
    rcases (by omega : q = 0 ∨ q = 1 ∨ q = 2) with rfl | rfl | rfl <;> decide
noncomputable def DKp (φ : Int → Int) (p room v bits : Int) : Int := DS (kap φ 1 (conI p) (stK φ bits v)) (stI φ 1 (conI p)) 1 room
theorem keep_ok {φ : Int → Int} (hI : FI φ) {p v : Int} (hp : 0 ≤ p ∧ p < φ 29) (hv : 0 ≤ v ∧ v ≤ 9) (bits : Int) : KI (kap φ 1 (conI p) (stK φ bits v)) ∧ SVd (kap φ 1 (conI p) (stK φ bits v)) (stI φ 1 (conI p)) := by
  have hι : ∀ i, 0 ≤ i → i < 1 → 0 ≤ conI p i ∧ conI p i < φ 29 := fun i i0 i1 => hp
  refine ⟨KI_kap hI (by omega) hι (fun k k0 k1 => ?_), SVd_kap hI hι⟩
  have := (hI.2.1 k k0 k1).2.2.2
  unfold stK
  split <;> omega
/-- the class lays one alone, with stones -/
theorem c_alone {g : Hp} {φ : Int → Int} (hI : FI φ) (hC : ClsF g 1 φ) {p : Int} (hp : 0 ≤ p ∧ p < φ 29) : ∃ g1 g2, EV 9 qX2_take 0 [vR 20, vR 1] [] g = some (none, g1) ∧ EV 8 qX2_leaveAlone 0 [vR 20, vI p] [] g1 = some (none, g2) ∧ ClsF g1 20 φ ∧ g2 20 11 = 1 ∧ (∀ i, i ≠ 11 → g2 20 i = g1 20 i) ∧ (∀ a : Nat, a ≠ 20 → a ≠ 35 → a ≠ 36 → g2 a = g1 a) ∧ (g2 35 0 = φ (30 + p) ∧ g2 36 0 = φ (33 + p)) ∧ frT g g2 := by
  have h29 := hI.2.2.2.2.2.2.1
  obtain ⟨g1, a1, a2, a3⟩ := c_trial hI hC
  obtain ⟨g2, b1, b2, b3, b4, b5, b6⟩ := c_leaveAlone g1 p (by omega)
  have q := a2.2.2.2.2.2.2.1 p hp.1 hp.2
  refine ⟨g1, g2, a1, b1, a2, b2, b3, b6, ⟨by rw [b4]; exact q.1, by rw [b5]; exact q.2⟩, (frT_of a3).trans (fun a x1 _ => b6 a (by omega) (by omega) (by omega))⟩
theorem c_keep_try {g : Hp} {φ : Int → Int} (hI : FI φ) (hC : ClsF g 1 φ) {p room v : Int} (hp : 0 ≤ p ∧ p < φ 29) (hr : room ≠ -1) (hv : 1 ≤ v ∧ v ≤ 9) (s bits : Int) : ∃ g', frT g g' ∧ EV 14 qX11_keep 72 [vR 0, vI p, vI room, vI v, vI s, vI bits] [] g = if DKp φ p room v bits = 100000 then some (some (vI bits), g') else EV 14 qX11_keep 122 [vR 0, vI p, vI room, vI v, vI s, vI bits] [] g' := by
  have h0 := hI.1
  obtain ⟨hK, hV⟩ := keep_ok hI hp (v := v) (by omega) bits
  obtain ⟨g1, g2, a1, a2, a3, a4, a5, a6, a7, a8⟩ := c_alone hI hC hp
  have e201 : g2 20 1 = φ 0 := by rw [a5 1 (by omega)]; exact a3.1
  have e31 : ∀ k, 0 ≤ k → k < φ 0 → g2 31 k = φ (16 + k) := fun k k0 k1 => by
    rw [a6 31 (by omega) (by omega) (by omega)]
    exact (a3.2.1 k k0 k1).2.2.2
  obtain ⟨g3, b1, b2, b3, b4⟩ := c_addStones bits v (by omega) (φ 0).toNat 0 g2 (by omega) (by omega) (by omega) (fun k k0 k1 => by
    rw [e31 k k0 (by omega)]
    exact (hI.2.1 k k0 (by omega)).2.2.2)
  have cK : ClsK g3 20 (kap φ 1 (conI p) (stK φ bits v)) (stI φ 1 (conI p)) := by
    refine ClsK_kap hI a3 (by omega) (fun i hi => by rw [b4 20 (by omega), a5 i hi]) (by rw [b4 20 (by omega)]; exact a4) (fun a x1 x2 x3 => by rw [b4 a x3, a6 a (by omega) (by omega) (by omega)]) (fun k k0 k1 => ?_) (fun i i0 i1 => ?_)
    · rw [b2 k k0 (by omega), e31 k k0 k1]
      rfl
    · have : i = 0 := by omega
      subst this
      rw [b4 35 (by omega), b4 36 (by omega)]
      exact a7
  obtain ⟨r, g4, c1, c2, c3⟩ := c_search hK hV cK 1 room 100000 hr (Or.inl rfl)
  have hcl : cl 100000 = -1 := by decide
  rw [hcl] at c1
  have hD := DS_le hK (SVd_ly hK.1 hV) hV 1 room
  refine ⟨g4, (a8.trans (fun a x1 _ => b4 a (by omega))).trans c2, ?_⟩
  rw [bX11_keep_72, a1, bnd_some]
  show EV 14 qX11_keep 83 _ [] _ = _
  rw [bX11_keep_83, a2, bnd_some]
  show EV 14 qX11_keep 91 _ [] _ = _
  rw [bX11_keep_91, bX2_addStones_0 hF20, b1, bnd_some]
  show EV 14 qX11_keep 101 _ [] _ = _
  rw [bX11_keep_101, c1, bnd_some]
  show EV 14 qX11_keep 115 _ [vI _] _ = _
  rw [bX11_keep_115, bX11_keep_119]
  rcases c3 with ⟨z1, z2, z3⟩ | ⟨z1, z2⟩
  · have : ¬ DKp φ p room v bits = 100000 := fun z => by
      have : DS (kap φ 1 (conI p) (stK φ bits v)) (stI φ 1 (conI p)) 1 room = 100000 := z
      omega
    rw [if_neg z3, if_neg this]
  · have : DKp φ p room v bits = 100000 := by
      have : DS (kap φ 1 (conI p) (stK φ bits v)) (stI φ 1 (conI p)) 1 room = 100000 := by omega
      exact this
    rw [if_pos z2, if_pos this]
def pcI (b : Int) : Int := (pcn 32 (uI b) : Int)
/-- the best set: nothing keeps him out, or r does, with the fewest, the least of like ones -/
def KBest (K : Int → Prop) (N r : Int) : Prop := (r = -1 ∧ ∀ b, 0 ≤ b → b < N → ¬ K b) ∨ ((0 ≤ r ∧ r < N) ∧ K r ∧ ∀ b, 0 ≤ b → b < N → K b → (pcI r < pcI b ∨ (pcI r = pcI b ∧ r ≤ b)))
theorem KBest_uni {K : Int → Prop} {N r r' : Int} (h : KBest K N r) (h' : KBest K N r') : r = r' := by
  rcases h with ⟨a, b⟩ | ⟨a, b, c⟩ <;> rcases h' with ⟨a', b'⟩ | ⟨a', b', c'⟩
  · omega
  · exact absurd b' (b r' a'.1 a'.2)
  · exact absurd b (b' r a.1 a.2)
  · have x := c r' a'.1 a'.2 b'
    have y := c' r a.1 a.2 b
    omega
theorem pc_small : ∀ n : Nat, n < 6 → ∀ b : Nat, b < 2 ^ n → pcn 32 b ≤ n := by decide +kernel
theorem pcI_le {n b : Int} (hn : 0 ≤ n ∧ n ≤ 5) (hb : 0 ≤ b ∧ b < pw2 n) : 0 ≤ pcI b ∧ pcI b ≤ n := by
  have hp := pw2_le hn
  obtain ⟨x, rfl⟩ := Int.eq_ofNat_of_zero_le hb.1
  obtain ⟨m, rfl⟩ := Int.eq_ofNat_of_zero_le hn.1
  have e : pw2 (m : Int) = ((2 ^ m : Nat) : Int) := by unfold pw2; simp
  rw [e] at hb
  have := pc_small m (by omega) x (by omega)
  unfold pcI
  rw [uI_nat (by omega)]
  omega
theorem c_keep_in {φ : Int → Int} (hI : FI φ) {p room v : Int} (hp : 0 ≤ p ∧ p < φ 29) (hr : room ≠ -1) (hv : 1 ≤ v ∧ v ≤ 9) (s : Int) (hs : 0 ≤ s ∧ s < 100) : ∀ (m : Nat) (b : Int) (g : Hp), 0 ≤ b → b + m = pw2 (φ 0) → ClsF g 1 φ → (∃ b' g', (b ≤ b' ∧ b' < pw2 (φ 0)) ∧ (pcI b' = s ∧ DKp φ p room v b' = 100000) ∧ (∀ c, b ≤ c → c < b' → ¬ (pcI c = s ∧ DKp φ p room v c = 100000)) ∧ EV 14 qX11_keep 50 [vR 0, vI p, vI room, vI v, vI s, vI b] [] g = some (some (vI b'), g') ∧ frT g g') ∨ ((∀ c, b ≤ c → c < pw2 (φ 0) → ¬ (pcI c = s ∧ DKp φ p room v c = 100000)) ∧ ∃ g' u5, EV 14 qX11_keep 50 [vR 0, vI p, vI room, vI v, vI s, vI b] [] g = EV 14 qX11_keep 35 [vR 0, vI p, vI room, vI v, vI (s + 1), u5] [] g' ∧ frT g g') := by
  have h0 := hI.1
  have hpw := pw2_le h0
  intro m
  induction m with
  | zero =>
    intro b g b0 h hC
    have e11 : g 1 1 = φ 0 := hC.1
    right
    refine ⟨fun c c0 c1 => by omega, g, vI b, ?_, frT.refl g⟩
    rw [bX11_keep_50, c_allBridges hF1 _ (by omega), bnd_some, e11]
    show EV 14 qX11_keep 59 _ [vI _, vI _] _ = _
    rw [bX11_keep_59, if_pos (by omega), bX11_keep_128 _ _ _ _ _ _ (by omega)]
  | succ m ih =>
    intro b g b0 h hC
    have e11 : g 1 1 = φ 0 := hC.1
    have st : EV 14 qX11_keep 50 [vR 0, vI p, vI room, vI v, vI s, vI b] [] g = if pcI b = s then EV 14 qX11_keep 72 [vR 0, vI p, vI room, vI v, vI s, vI b] [] g else EV 14 qX11_keep 122 [vR 0, vI p, vI room, vI v, vI s, vI b] [] g := by
      rw [bX11_keep_50, c_allBridges hF1 _ (by omega), bnd_some, e11]
      show EV 14 qX11_keep 59 _ [vI _, vI _] _ = _
      rw [bX11_keep_59, if_neg (by omega), bX11_keep_62, c_bitCount, bnd_some]
      exact bX11_keep_67 _ _ _ _ _ _ _
    have nx : ∀ g1 : Hp, frT g g1 → EV 14 qX11_keep 50 [vR 0, vI p, vI room, vI v, vI s, vI b] [] g = EV 14 qX11_keep 122 [vR 0, vI p, vI room, vI v, vI s, vI b] [] g1 → ¬ (pcI b = s ∧ DKp φ p room v b = 100000) → (∃ b' g', (b ≤ b' ∧ b' < pw2 (φ 0)) ∧ (pcI b' = s ∧ DKp φ p room v b' = 100000) ∧ (∀ c, b ≤ c → c < b' → ¬ (pcI c = s ∧ DKp φ p room v c = 100000)) ∧ EV 14 qX11_keep 50 [vR 0, vI p, vI room, vI v, vI s, vI b] [] g = some (some (vI b'), g') ∧ frT g g') ∨ ((∀ c, b ≤ c → c < pw2 (φ 0) → ¬ (pcI c = s ∧ DKp φ p room v c = 100000)) ∧ ∃ g' u5, EV 14 qX11_keep 50 [vR 0, vI p, vI room, vI v, vI s, vI b] [] g = EV 14 qX11_keep 35 [vR 0, vI p, vI room, vI v, vI (s + 1), u5] [] g' ∧ frT g g') := fun g1 f1 e1 hno => by
      rw [e1, bX11_keep_122 _ _ _ _ _ _ (by omega)]
      rcases ih (b + 1) g1 (by omega) (by omega) (hC.keep (fun a x1 x2 => f1 a (by omega) (by omega))) with ⟨b', g', k1, k2, k3, k4, k5⟩ | ⟨k1, g', u5, k2, k3⟩
      · refine Or.inl ⟨b', g', by omega, k2, fun c c0 c1 => ?_, k4, f1.trans k5⟩
        by_cases e : c = b
        · rw [e]; exact hno
        · exact k3 c (by omega) c1
      · refine Or.inr ⟨fun c c0 c1 => ?_, g', u5, k2, f1.trans k3⟩
        by_cases e : c = b
        · rw [e]; exact hno
        · exact k1 c (by omega) c1
    by_cases e : pcI b = s
    · obtain ⟨g1, f1, t1⟩ := c_keep_try hI hC hp hr hv s b
      rw [if_pos e, t1] at st
      by_cases k : DKp φ p room v b = 100000
      · rw [if_pos k] at st
        exact Or.inl ⟨b, g1, by omega, ⟨e, k⟩, fun c c0 c1 => by omega, st, f1⟩
      · rw [if_neg k] at st
        exact nx g1 f1 st (fun z => k z.2)
    · rw [if_neg e] at st
      exact nx g (frT.refl g) st (fun z => e z.1)
theorem c_keep_out {φ : Int → Int} (hI : FI φ) {p room v : Int} (hp : 0 ≤ p ∧ p < φ 29) (hr : room ≠ -1) (hv : 1 ≤ v ∧ v ≤ 9) : ∀ (m : Nat) (s : Int) (g : Hp) (u5 : SV), 0 ≤ s → s + m = φ 0 + 1 → ClsF g 1 φ → (∀ b, 0 ≤ b → b < pw2 (φ 0) → pcI b < s → ¬ DKp φ p room v b = 100000) → ∃ r g', EV 14 qX11_keep 35 [vR 0, vI p, vI room, vI v, vI s, u5] [] g = some (some (vI r), g') ∧ frT g g' ∧ KBest (fun b => DKp φ p room v b = 100000) (pw2 (φ 0)) r := by
  have h0 := hI.1
  have hpw := pw2_le h0
  have hpos := pw2_pos (n := φ 0)
  intro m
  induction m with
  | zero =>
    intro s g u5 s0 h hC hno
    have e11 : g 1 1 = φ 0 := hC.1
    refine ⟨-1, g, by rw [bX11_keep_35, if_pos (by omega), bX11_keep_134], frT.refl g, Or.inl ⟨rfl, fun b b0 b1 => ?_⟩⟩
    have := pcI_le h0 ⟨b0, b1⟩
    exact hno b b0 b1 (by omega)
  | succ m ih =>
    intro s g u5 s0 h hC hno
    have e11 : g 1 1 = φ 0 := hC.1
    have st : EV 14 qX11_keep 35 [vR 0, vI p, vI room, vI v, vI s, u5] [] g = EV 14 qX11_keep 50 [vR 0, vI p, vI room, vI v, vI s, vI 0] [] g := by
      rw [bX11_keep_35, if_neg (by omega), bX11_keep_47]
    rcases c_keep_in hI hp hr hv s (by omega) (pw2 (φ 0)).toNat 0 g (by omega) (by omega) hC with ⟨b', g', k1, k2, k3, k4, k5⟩ | ⟨k1, g', u5', k2, k3⟩
    · refine ⟨b', g', by rw [st]; exact k4, k5, Or.inr ⟨k1, k2.2, fun b b0 b1 kb => ?_⟩⟩
      by_cases lt : pcI b < s
      · exact absurd kb (hno b b0 b1 lt)
      · by_cases eq : pcI b = s
        · right
          refine ⟨by omega, ?_⟩
          by_cases z : b < b'
          · exact absurd ⟨eq, kb⟩ (k3 b b0 z)
          · omega
        · left
          omega
    · obtain ⟨r, g2, r1, r2, r3⟩ := ih (s + 1) g' u5' (by omega) (by omega) (hC.keep (fun a x1 x2 => k3 a (by omega) (by omega))) (fun b b0 b1 lt kb => by
        by_cases z : pcI b < s
        · exact hno b b0 b1 z kb
        · exact k1 b b0 b1 ⟨by omega, kb⟩)
      exact ⟨r, g2, by rw [st, k2, r1], k3.trans r2, r3⟩
theorem m_ones (g : Hp) {x : Int} (hx : 0 ≤ x ∧ x < 32) : EV 8 qX12_ones 0 [vI x, vU, vU] [] g = some (some (vI (pcI x)), g) := by
  have it : ∀ (n k : Int), 0 ≤ n → n < 100 → 0 ≤ k → k < 5 → EV 8 qX12_ones 4 [vI x, vI n, vI k] [] g = EV 8 qX12_ones 4 [vI x, vI (n + bAnd (bShr x k) 1), vI (k + 1)] [] g := fun n k n0 n1 k0 k1 => by
    have := bit01 (bShr x k)
    rw [bX12_ones_4, if_neg (by omega), bX12_ones_9 _ _ _ _ (by omega) (by omega)]
  have b0 := bit01 (bShr x 0)
  have b1 := bit01 (bShr x 1)
  have b2 := bit01 (bShr x 2)
  have b3 := bit01 (bShr x 3)
  have b4 := bit01 (bShr x 4)
  rw [bX12_ones_0, it _ _ (by omega) (by omega) (by omega) (by omega), show (0 : Int) + 1 = 1 from rfl, it _ _ (by omega) (by omega) (by omega) (by omega), show (1 : Int) + 1 = 2 from rfl, it _ _ (by omega) (by omega) (by omega) (by omega), show (2 : Int) + 1 = 3 from rfl, it _ _ (by omega) (by omega) (by omega) (by omega), show (3 : Int) + 1 = 4 from rfl, it _ _ (by omega) (by omega) (by omega) (by omega), bX12_ones_4, if_pos (by omega), bX12_ones_23]
  refine ans_eq ?_
  obtain ⟨n, rfl⟩ := Int.eq_ofNat_of_zero_le hx.1
  have all : ∀ n : Nat, n < 32 → 0 + bAnd (bShr (n : Int) 0) 1 + bAnd (bShr (n : Int) 1) 1 + bAnd (bShr (n : Int) 2) 1 + bAnd (bShr (n : Int) 3) 1 + bAnd (bShr (n : Int) 4) 1 = (pcn 32 n : Int) := by decide +kernel
  unfold pcI
  rw [uI_nat (by omega)]
  exact all n (by omega)
theorem m_stones (p room v f set : Int) (hv : 0 ≤ v ∧ v ≤ 9) : ∀ (m : Nat) (b : Int) (g : Hp), 0 ≤ b → b + m = g 87 0 → g 87 0 ≤ 5 → (∀ k, b ≤ k → k < g 87 0 → 0 ≤ g 91 k ∧ g 91 k ≤ 20) → ∃ (g' : Hp) (u6 : Int), EV 13 qX12_keep 84 [vR 86, vI p, vI room, vI v, vI f, vI set, vI b] [] g = EV 13 qX12_keep 126 [vR 86, vI p, vI room, vI v, vI f, vI set, vI u6] [] g' ∧ (∀ k, b ≤ k → k < g 87 0 → g' 91 k = g 91 k + if dnB set k then v else 0) ∧ (∀ k, k < b → g' 91 k = g 91 k) ∧ ∀ a : Nat, a ≠ 91 → g' a = g a := by
  intro m
  induction m with
  | zero =>
    intro b g h0 h h5 hr
    exact ⟨g, b, by rw [bX12_keep_84, if_pos (by omega)], fun k k0 k1 => by omega, fun _ _ => rfl, fun _ _ => rfl⟩
  | succ m ih =>
    intro b g h0 h h5 hr
    have hb := hr b (by omega) (by omega)
    generalize hw : (if dnB set b then v else 0) = w
    have hw' : 0 ≤ w ∧ w ≤ 9 := by rw [← hw]; split <;> omega
    generalize hg1 : up g 91 b (g 91 b + w) = g1
    have st : EV 13 qX12_keep 84 [vR 86, vI p, vI room, vI v, vI f, vI set, vI b] [] g = EV 13 qX12_keep 84 [vR 86, vI p, vI room, vI v, vI f, vI set, vI (b + 1)] [] g1 := by
      rw [bX12_keep_84, if_neg (by omega), bX12_keep_95 _ _ _ _ _ _ _ (by omega), m_has, bnd_some]
      show EV 13 qX12_keep 110 _ [vI _, vI _, vI _, vR 91] _ = _
      rw [bX12_keep_110]
      by_cases d : dnB set b
      · rw [if_pos d] at hw
        subst hw
        rw [if_neg (b01_pos d), bX12_keep_113, bX12_keep_118 _ _ _ _ _ _ _ _ _ _ (by omega) (by omega) (by omega), hg1]
      · rw [if_neg d] at hw
        subst hw
        rw [if_pos (b01_neg d), bX12_keep_117, bX12_keep_118 _ _ _ _ _ _ _ _ _ _ (by omega) (by omega) (by omega), hg1]
    have e87 : g1 87 = g 87 := by subst hg1; funext i; rw [up_ne (by omega)]
    have e91 : ∀ k, g1 91 k = if k = b then g 91 b + w else g 91 k := fun k => by
      subst hg1
      by_cases e : k = b
      · rw [e, up_eq, if_pos rfl]
      · rw [up_nei e, if_neg e]
    obtain ⟨g', u6, a1, a2, a3, a4⟩ := ih (b + 1) g1 (by omega) (by rw [e87]; omega) (by rw [e87]; exact h5) (fun k k0 k1 => by
      rw [e91, if_neg (by omega)]
      exact hr k (by omega) (by rw [e87] at k1; exact k1))
    rw [e87] at a2
    refine ⟨g', u6, by rw [st, a1], fun k k0 k1 => ?_, fun k k0 => ?_, fun a ha => ?_⟩
    · by_cases e : k = b
      · rw [e, a3 b (by omega), e91, if_pos rfl, hw]
      · rw [a2 k (by omega) k1, e91, if_neg e]
    · rw [a3 k (by omega), e91, if_neg (by omega)]
    · rw [a4 a ha]
      subst hg1
      funext i
      rw [up_ne ha]
theorem m_keep_try {g : Hp} {φ : Int → Int} (hI : FI φ) (hφ : rg g 0 = φ) {p room v : Int} (hp : 0 ≤ p ∧ p < φ 29) (hv : 1 ≤ v ∧ v ≤ 9) (f set : Int) (hset : 0 ≤ set ∧ set < 32) (u6 : SV) : ∃ (g' : Hp) (w6 : SV), frS g g' ∧ EV 13 qX12_keep 70 [vR 86, vI p, vI room, vI v, vI f, vI set, u6] [] g = EV 13 qX12_keep 38 [vR 86, vI p, vI room, vI v, vI (if DKp φ p room v set = 100000 then set else f), vI (set + 1), w6] [] g' := by
  have h0 := hI.1
  have h22 := hI.2.2.2.1
  have h29 := hI.2.2.2.2.2.2.1
  have ek : ∀ k, g 87 k = φ k := fun k => by rw [← hφ, rg0]
  have al := al_ok (p := p) (by omega)
  obtain ⟨hK, hV⟩ := keep_ok hI hp (v := v) (by omega) set
  obtain ⟨g1, l1, l2⟩ := m_layNow g (by rw [ek]; exact h22) (by rw [ek]; exact h29)
  have e87a : g1 87 = g 87 := l2.2.2.2.2.1 87 (by omega) (by omega) (by omega) (by omega) (by omega)
  have e87b : up g1 86 10 (bShl 1 p) 87 = g 87 := by funext i; rw [up_ne (by omega), e87a]
  obtain ⟨g2, w6, s1, s2, s3, s4⟩ := m_stones p room v f set (by omega) (φ 0).toNat 0 (up g1 86 10 (bShl 1 p)) (by omega) (by rw [e87b, ek]; omega) (by rw [e87b, ek]; omega) (fun k k0 k1 => by
    rw [e87b, ek] at k1
    rw [up_ne (by omega), l2.1 k k0 (by omega), ek]
    exact (hI.2.1 k k0 k1).2.2.2)
  have hIg : FI (rg g 0) := by rw [hφ]; exact hI
  have hmap : ∀ q, 0 ≤ q → q < 3 → dnB (bShl 1 p) q → q < g 87 29 ∧ conI p (rk (bShl 1 p) q) = q := fun q q0 q1 d => by
    have := (al.2.1 q q0 q1).mp d
    rw [ek]
    exact ⟨by omega, this.symm⟩
  have e10 : g2 86 10 = bShl 1 p := by rw [s4 86 (by omega), up_eq]
  have e87 : g2 87 = g1 87 := by rw [s4 87 (by omega)]; funext i; rw [up_ne (by omega)]
  have mC : ModC g2 (kap (rg g 0) 1 (conI p) (stK (rg g 0) set v)) (bShl 1 p) := by
    refine ModC_kap l2 hIg e87 (by rw [s4 86 (by omega), up_nei (by omega)]) (by rw [s4 92 (by omega)]; funext i; rw [up_ne (by omega)]) (by rw [s4 93 (by omega)]; funext i; rw [up_ne (by omega)]) (by rw [s4 94 (by omega)]; funext i; rw [up_ne (by omega)]) (fun k k0 k1 => ?_) e10 al.1.symm hmap
    rw [s2 k k0 (by rw [e87b]; exact k1), up_ne (by omega), l2.1 k k0 (by rw [ek] at k1; omega)]
    unfold stK
    rw [rg0]
  have mN : ModN g2 (bShl 1 p) (stI (rg g 0) 1 (conI p)) := ModN_kap l2 e87 e10 al.1.symm hmap
  rw [hφ] at mC mN
  have sR : SmR g2 (bShl 1 p) (bShl 1 p) 1 := fun q q0 q1 => by
    have hq := al.2.1 q q0 q1
    rw [e87, e87a, ek]
    constructor
    · rintro ⟨a, b⟩
      refine ⟨b, ?_⟩
      have := hq.mp b
      subst this
      rw [al.2.2]
      decide
    · rintro ⟨a, b⟩
      have := hq.mp a
      exact ⟨by omega, a⟩
  obtain ⟨r, g3, f1, f2, f3, f4, f5⟩ := m_findWay hK hV mC mN sR room
  have fr : frS g g3 := ((l2.S.trans ⟨fun a x1 _ => by funext i; rw [up_ne x1], by rw [up_nei (by omega)]⟩).trans ⟨fun a _ x2 => s4 a (by omega), by rw [s4 86 (by omega)]⟩).trans f4.S
  refine ⟨g3, vI w6, fr, ?_⟩
  have st : EV 13 qX12_keep 70 [vR 86, vI p, vI room, vI v, vI f, vI set, u6] [] g = EV 13 qX12_keep 134 [vR 86, vI p, vI room, vI v, vI f, vI set, vI w6] [vI r] g3 := by
    rw [bX12_keep_70, l1, bnd_some]
    show EV 13 qX12_keep 74 _ [] _ = _
    rw [bX12_keep_74, s1, bX12_keep_126, f1, bnd_some]
    rfl
  rw [st, bX12_keep_134]
  rcases f5 with ⟨j, j1, j2, j3, j4⟩ | ⟨j1, j2⟩
  · have d : DKp φ p room v set = ((qE (qF (kap φ 1 (conI p) (stK φ set v)) (stI φ 1 (conI p))) j).2.2.1 : Int) := dsL_first _ j j1 j2 j3
    have hQ := QI_F hK hV
    have hm := mco_le (t := bShl 1 p) hK.1 (hQ.2.1 _ (mem_qSt.mpr ⟨j, j1, rfl⟩)).1
    have hd := QI_dep hQ j j1
    have h9 := QI_len hK hQ
    rw [if_pos (by omega), bX12_keep_142, bX12_keep_144, bX12_keep_146 _ _ _ _ _ _ _ (by omega), if_neg (by omega)]
  · have d : DKp φ p room v set = 100000 := dsL_none _ j2
    rw [if_neg (by omega), bX12_keep_137, bX12_keep_144, bX12_keep_146 _ _ _ _ _ _ _ (by omega), if_pos d]
theorem m_keep_loop {φ : Int → Int} (hI : FI φ) {p room v : Int} (hp : 0 ≤ p ∧ p < φ 29) (hv : 1 ≤ v ∧ v ≤ 9) : ∀ (m : Nat) (set f : Int) (g : Hp) (u6 : SV), 0 ≤ set → set + m = pw2 (φ 0) → rg g 0 = φ → KBest (fun b => DKp φ p room v b = 100000) set f → ∃ r g', EV 13 qX12_keep 38 [vR 86, vI p, vI room, vI v, vI f, vI set, u6] [] g = some (some (vI r), g') ∧ frS g g' ∧ KBest (fun b => DKp φ p room v b = 100000) (pw2 (φ 0)) r := by
  have h0 := hI.1
  have hpw := pw2_le h0
  intro m
  induction m with
  | zero =>
    intro set f g u6 s0 h hφ hB
    have e0 : g 87 0 = φ 0 := by rw [← hφ, rg0]
    refine ⟨f, g, ?_, frS.refl g, by rw [← show set = pw2 (φ 0) by omega]; exact hB⟩
    rw [bX12_keep_38, if_pos (by rw [e0, shl1I h0]; omega), bX12_keep_152]
  | succ m ih =>
    intro set f g u6 s0 h hφ hB
    have e0 : g 87 0 = φ 0 := by rw [← hφ, rg0]
    have try1 : (f = -1 ∨ pcI set < pcI f) → EV 13 qX12_keep 38 [vR 86, vI p, vI room, vI v, vI f, vI set, u6] [] g = EV 13 qX12_keep 70 [vR 86, vI p, vI room, vI v, vI f, vI set, u6] [] g → ∃ r g', EV 13 qX12_keep 38 [vR 86, vI p, vI room, vI v, vI f, vI set, u6] [] g = some (some (vI r), g') ∧ frS g g' ∧ KBest (fun b => DKp φ p room v b = 100000) (pw2 (φ 0)) r := fun hc st => by
      obtain ⟨g1, w6, a1, a2⟩ := m_keep_try hI hφ hp hv (room := room) f set (by omega) u6
      obtain ⟨r, g', b1, b2, b3⟩ := ih (set + 1) (if DKp φ p room v set = 100000 then set else f) g1 w6 (by omega) (by omega) (by rw [← hφ]; unfold rg; rw [a1.1 87 (by omega) (by omega)]) (by
        by_cases k : DKp φ p room v set = 100000
        · rw [if_pos k]
          right
          refine ⟨by omega, k, fun b b0 b1 kb => ?_⟩
          by_cases e : b = set
          · right; rw [e]; exact ⟨rfl, Int.le_refl _⟩
          · left
            rcases hB with ⟨z1, z2⟩ | ⟨z1, z2, z3⟩
            · exact absurd kb (z2 b b0 (by omega))
            · have := z3 b b0 (by omega) kb
              omega
        · rw [if_neg k]
          rcases hB with ⟨z1, z2⟩ | ⟨z1, z2, z3⟩
          · refine Or.inl ⟨z1, fun b b0 b1 kb => ?_⟩
            by_cases e : b = set
            · exact k (e ▸ kb)
            · exact z2 b b0 (by omega) kb
          · refine Or.inr ⟨by omega, z2, fun b b0 b1 kb => ?_⟩
            by_cases e : b = set
            · exact absurd (e ▸ kb) k
            · exact z3 b b0 (by omega) kb)
      exact ⟨r, g', by rw [st, a2, b1], a1.trans b2, b3⟩
    have st0 : EV 13 qX12_keep 38 [vR 86, vI p, vI room, vI v, vI f, vI set, u6] [] g = EV 13 qX12_keep 51 [vR 86, vI p, vI room, vI v, vI f, vI set, u6] [] g := by
      rw [bX12_keep_38, if_neg (by rw [e0, shl1I h0]; omega)]
    by_cases ef : f = -1
    · exact try1 (Or.inl ef) (by rw [st0, bX12_keep_51, if_pos ef])
    · have hf : 0 ≤ f ∧ f < set := by
        rcases hB with ⟨z1, _⟩ | ⟨z1, _⟩
        · exact absurd z1 ef
        · exact z1
      have st1 : EV 13 qX12_keep 38 [vR 86, vI p, vI room, vI v, vI f, vI set, u6] [] g = if pcI f ≤ pcI set then EV 13 qX12_keep 146 [vR 86, vI p, vI room, vI v, vI f, vI set, u6] [] g else EV 13 qX12_keep 70 [vR 86, vI p, vI room, vI v, vI f, vI set, u6] [] g := by
        rw [st0, bX12_keep_51, if_neg ef, bX12_keep_57, m_ones _ (by omega), bnd_some]
        show EV 13 qX12_keep 62 _ [vI _] _ = _
        rw [bX12_keep_62, m_ones _ (by omega), bnd_some]
        exact bX12_keep_67 _ _ _ _ _ _ _ _ _
      by_cases lt : pcI f ≤ pcI set
      · rw [if_pos lt, bX12_keep_146 _ _ _ _ _ _ _ (by omega)] at st1
        obtain ⟨r, g', b1, b2, b3⟩ := ih (set + 1) f g u6 (by omega) (by omega) hφ (by
          rcases hB with ⟨z1, _⟩ | ⟨z1, z2, z3⟩
          · exact absurd z1 ef
          · refine Or.inr ⟨by omega, z2, fun b b0 b1 kb => ?_⟩
            by_cases e : b = set
            · rw [e]; omega
            · exact z3 b b0 (by omega) kb)
        exact ⟨r, g', by rw [st1, b1], b2, b3⟩
      · rw [if_neg lt] at st1
        exact try1 (Or.inr (by omega)) st1
theorem o_keep {g : Hp} {n : Int} (hR : Rel g n) (hn : n < 1000) (p room v : Int) : Opk g n (EV 14 qX11_keep 0 [vR 0, vI p, vI room, vI v, vU, vU] []) (EV 13 qX12_keep 0 [vR 86, vI p, vI room, vI v, vU, vU, vU] []) := by
  have c7 := hR.c7 (by omega)
  obtain ⟨p1, p2, p3⟩ := hR.p29
  have hI := hR.1.1
  have h0 := hI.1
  have hpos := pw2_pos (n := rg g 0 0)
  have hpcN : ∀ b, 0 ≤ b → 0 ≤ pcI b := fun b _ => by unfold pcI; omega
  by_cases ok : (0 ≤ p ∧ p ≤ g 87 29 - 1) ∧ (0 ≤ room ∧ room ≤ 4) ∧ (1 ≤ v ∧ v ≤ 9)
  · have hp : 0 ≤ p ∧ p < rg g 0 29 := by rw [rg0]; omega
    obtain ⟨r, g1, a1, a2, a3⟩ := c_keep_out hI hp (room := room) (by omega) ok.2.2 (rg g 0 0 + 1).toNat 0 g vU (by omega) (by omega) hR.1.2 (fun b b0 b1 lt => by have := hpcN b b0; omega)
    have e87 : g1 87 = g 87 := a2 87 (by omega) (by omega)
    have erg : rg g1 0 = rg g 0 := by unfold rg; rw [e87]
    obtain ⟨r', g2, b1, b2, b3⟩ := m_keep_loop hI hp (room := room) ok.2.2 (pw2 (rg g 0 0)).toNat 0 (-1) g1 vU (by omega) (by omega) erg (Or.inl ⟨rfl, fun b b0 b1 => by omega⟩)
    have er := KBest_uni a3 b3
    subst er
    refine Opk.ro hR (vI r) ?_ ?_ a2 b2
    · rw [bX11_keep_0, c_isPerson hF1, bnd_some, p2]
      show EV 14 qX11_keep 8 _ [vI _] _ = _
      rw [bX11_keep_8, if_neg (b01_pos ok.1), bX11_keep_11, c_isRoom, bnd_some]
      show EV 14 qX11_keep 15 _ [vI _] _ = _
      rw [bX11_keep_15, if_neg (b01_pos ok.2.1), bX11_keep_18, c_isStone, bnd_some]
      show EV 14 qX11_keep 22 _ [vI _] _ = _
      rw [bX11_keep_22, if_neg (b01_pos ok.2.2), bX11_keep_32, a1]
    · rw [bX12_keep_0, e_isOne _ _ (by rw [e87]; exact p1), bnd_some, e87]
      show EV 13 qX12_keep 5 _ [vI _] _ = _
      rw [bX12_keep_5, if_neg (b01_pos ok.1), bX12_keep_8, e_isRoom, bnd_some]
      show EV 13 qX12_keep 12 _ [vI _] _ = _
      rw [bX12_keep_12, if_neg (b01_pos ok.2.1), bX12_keep_15, e_in, bnd_some]
      show EV 13 qX12_keep 24 _ [vI _] _ = _
      rw [bX12_keep_24, if_neg (b01_pos ok.2.2), bX12_keep_32, b1]
  · refine Opk.no hR (-2) (by omega) (vI (-2)) ?_ ?_
    · have fin : EV 14 qX11_keep 25 [vR 0, vI p, vI room, vI v, vU, vU] [] g = some (some (vI (-2)), ctH g (-2)) := by
        rw [bX11_keep_25, c_counted _ _ c7, bnd_some]
        exact bX11_keep_31 _ _ _ _ _
      rw [bX11_keep_0, c_isPerson hF1, bnd_some, p2]
      show EV 14 qX11_keep 8 _ [vI _] _ = _
      rw [bX11_keep_8]
      by_cases o1 : 0 ≤ p ∧ p ≤ g 87 29 - 1
      · rw [if_neg (b01_pos o1), bX11_keep_11, c_isRoom, bnd_some]
        show EV 14 qX11_keep 15 _ [vI _] _ = _
        rw [bX11_keep_15]
        by_cases o2 : 0 ≤ room ∧ room ≤ 4
        · rw [if_neg (b01_pos o2), bX11_keep_18, c_isStone, bnd_some]
          show EV 14 qX11_keep 22 _ [vI _] _ = _
          rw [bX11_keep_22, if_pos (b01_neg (fun z => ok ⟨o1, o2, z⟩)), fin]
        · rw [if_pos (b01_neg o2), fin]
      · rw [if_pos (b01_neg o1), fin]
    · have k87 : ctH g (-2) 87 = g 87 := ctH_86 (by omega)
      have fin : EV 13 qX12_keep 27 [vR 86, vI p, vI room, vI v, vU, vU, vU] [] (ctH g (-2)) = some (some (vI (-2)), metH (ctH g (-2)) (-2)) := by
        rw [bX12_keep_27, e_bad _ (hR.m9 (by omega) _), bnd_some]
        exact bX12_keep_31 _ _ _ _ _
      rw [bX12_keep_0, e_isOne _ _ (by rw [k87]; exact p1), bnd_some, k87]
      show EV 13 qX12_keep 5 _ [vI _] _ = _
      rw [bX12_keep_5]
      by_cases o1 : 0 ≤ p ∧ p ≤ g 87 29 - 1
      · rw [if_neg (b01_pos o1), bX12_keep_8, e_isRoom, bnd_some]
        show EV 13 qX12_keep 12 _ [vI _] _ = _
        rw [bX12_keep_12]
        by_cases o2 : 0 ≤ room ∧ room ≤ 4
        · rw [if_neg (b01_pos o2), bX12_keep_15, e_in, bnd_some]
          show EV 13 qX12_keep 24 _ [vI _] _ = _
          rw [bX12_keep_24, if_pos (b01_neg (fun z => ok ⟨o1, o2, z⟩)), fin]
        · rw [if_pos (b01_neg o2), fin]
      · rw [if_pos (b01_neg o1), fin]
