/-! wet: all rows, and the answer -/
theorem m_wet_ks {κ : Int → Int} (hI : KI κ) (h29 : κ 29 = 1) {t p : Int} (hp : 0 ≤ p ∧ p < 3) (hd : dnB t p) (hr : rk t p = 0) (hone : ∀ q, 0 ≤ q → q < 3 → dnB t q → q = p) {N : Nat} (hN : (N : Int) = 10240) (n : Nat) (pl wt x2 x3 x4 x5 x6 : Int) : ∀ (m : Nat) (k : Int) (g : Hp) (u8 : SV), 0 ≤ k → k + m = 10240 → ModC g κ t → Vr κ (g 100) → Vr κ (g 101) → (∀ j, 0 ≤ j → j < 10240 → g 100 j ≤ 1000000) → sumF (g 101) N 0 + 10 * sumF (g 100) m k ≤ 20000000 → ∃ g' u7 v8, EV 11 qX12_wet 178 [vR 86, vI p, vI x2, vI x3, vI x4, vI x5, vI x6, vI k, u8] [] g = EV 11 qX12_wet 316 [vR 86, vI p, vI x2, vI x3, vI x4, vI x5, vI x6, vI u7, v8] [] g' ∧ frW g g' ∧ Vr κ (g' 101) ∧ Ur κ pl wt N n (g' 101) = Ur κ pl wt N n (g 101) + sumF (fun k => g 100 k * uc κ pl wt (n + 1) (sk k) (k % 32)) m k ∧ sumF (g' 101) N 0 ≤ sumF (g 101) N 0 + 10 * sumF (g 100) m k := by
  intro m
  induction m with
  | zero =>
    intro k g u8 k0 k1 hC hV hV1 hb hT
    refine ⟨g, k, u8, by rw [bX12_wet_178, if_pos (by omega)], frW.refl g, hV1, ?_, ?_⟩
    · show _ = _ + 0
      rw [Int.add_zero]
    · show _ ≤ _ + 10 * 0
      omega
  | succ m ih =>
    intro k g u8 k0 k1 hC hV hV1 hb hT
    have hs : sumF (g 100) (m + 1) k = g 100 k + sumF (g 100) m (k + 1) := rfl
    have hnn := (sumF_ge (f := g 100) (a := 0) m (k + 1) (fun j j0 j1 => (hV j (by omega) (by omega)).1)).1
    rw [hs] at hT
    obtain ⟨g1, v8, a1, a2, a3, a4, a5, a6⟩ := m_wet_tos hI h29 hp hd hr hone hN (k := k) (by omega) n pl wt x2 x3 x4 x5 x6 10 0 g (by omega) (by omega) hC hV hV1 (hb k k0 (by omega)) (Or.inr (by
      have : g 100 k * ((10 : Nat) : Int) = 10 * g 100 k := by omega
      rw [this]
      omega))
    have a6' : sumF (g1 101) N 0 ≤ sumF (g 101) N 0 + 10 * g 100 k := by
      have : g 100 k * ((10 : Nat) : Int) = 10 * g 100 k := by omega
      rw [this] at a6
      exact a6
    obtain ⟨g2, w7, w8, b1, b2, b4, b5, b6⟩ := ih (k + 1) g1 v8 (by omega) (by omega) (hC.keepW a2) (by rw [a3]; exact hV) a4 (by rw [a3]; exact hb) (by rw [a3]; omega)
    rw [a3] at b5 b6
    refine ⟨g2, w7, w8, ?_, a2.trans b2, b4, ?_, ?_⟩
    · rw [bX12_wet_178, if_neg (by omega), bX12_wet_186, a1, b1]
    · rw [b5, a5]
      show _ = _ + (g 100 k * uc κ pl wt (n + 1) (sk k) (k % 32) + sumF _ m (k + 1))
      rw [Int.add_assoc]
      rfl
    · rw [hs]
      omega
theorem m_wet_z1 (x1 x2 x3 x4 : Int) : ∀ (m : Nat) (k : Int) (g : Hp), 0 ≤ k → k + m = 10240 → ∃ g' u5, EV 11 qX12_wet 68 [vR 86, vI x1, vI x2, vI x3, vI x4, vI k, vU, vU, vU] [] g = EV 11 qX12_wet 90 [vR 86, vI x1, vI x2, vI x3, vI x4, vI u5, vU, vU, vU] [] g' ∧ (∀ j, k ≤ j → j < 10240 → g' 100 j = 0) ∧ (∀ j, j < k → g' 100 j = g 100 j) ∧ ∀ a : Nat, a ≠ 100 → g' a = g a := by
  intro m
  induction m with
  | zero =>
    intro k g k0 k1
    exact ⟨g, k, by rw [bX12_wet_68, if_pos (by omega)], fun j _ _ => by omega, fun _ _ => rfl, fun _ _ => rfl⟩
  | succ m ih =>
    intro k g k0 k1
    obtain ⟨g', u5, a1, a2, a3, a4⟩ := ih (k + 1) (up g 100 k 0) (by omega) (by omega)
    refine ⟨g', u5, by rw [bX12_wet_68, if_neg (by omega), bX12_wet_76 _ _ _ _ _ _ (by omega) (by omega), a1], fun j j0 j1 => ?_, fun j j0 => ?_, fun a ha => ?_⟩
    · by_cases e : j = k
      · rw [e, a3 k (by omega), up_eq]
      · exact a2 j (by omega) j1
    · rw [a3 j (by omega), up_nei (by omega)]
    · rw [a4 a ha]; funext i; rw [up_ne ha]
theorem m_wet_z2 (x1 x2 x3 x4 x5 x6 : Int) (u8 : SV) : ∀ (m : Nat) (k : Int) (g : Hp), 0 ≤ k → k + m = 10240 → ∃ g' u7, EV 11 qX12_wet 153 [vR 86, vI x1, vI x2, vI x3, vI x4, vI x5, vI x6, vI k, u8] [] g = EV 11 qX12_wet 175 [vR 86, vI x1, vI x2, vI x3, vI x4, vI x5, vI x6, vI u7, u8] [] g' ∧ (∀ j, k ≤ j → j < 10240 → g' 101 j = 0) ∧ (∀ j, j < k → g' 101 j = g 101 j) ∧ ∀ a : Nat, a ≠ 101 → g' a = g a := by
  intro m
  induction m with
  | zero =>
    intro k g k0 k1
    exact ⟨g, k, by rw [bX12_wet_153, if_pos (by omega)], fun j _ _ => by omega, fun _ _ => rfl, fun _ _ => rfl⟩
  | succ m ih =>
    intro k g k0 k1
    obtain ⟨g', u5, a1, a2, a3, a4⟩ := ih (k + 1) (up g 101 k 0) (by omega) (by omega)
    refine ⟨g', u5, by rw [bX12_wet_153, if_neg (by omega), bX12_wet_161 _ _ _ _ _ _ _ _ _ (by omega) (by omega), a1], fun j j0 j1 => ?_, fun j j0 => ?_, fun a ha => ?_⟩
    · by_cases e : j = k
      · rw [e, a3 k (by omega), up_eq]
      · exact a2 j (by omega) j1
    · rw [a3 j (by omega), up_nei (by omega)]
    · rw [a4 a ha]; funext i; rw [up_ne ha]
theorem m_wet_cp (x1 x2 x3 x4 x5 x6 : Int) (u8 : SV) : ∀ (m : Nat) (k : Int) (g : Hp), 0 ≤ k → k + m = 10240 → ∃ g' u7, EV 11 qX12_wet 319 [vR 86, vI x1, vI x2, vI x3, vI x4, vI x5, vI x6, vI k, u8] [] g = EV 11 qX12_wet 347 [vR 86, vI x1, vI x2, vI x3, vI x4, vI x5, vI x6, vI u7, u8] [] g' ∧ (∀ j, k ≤ j → j < 10240 → g' 100 j = g 101 j) ∧ (∀ j, j < k → g' 100 j = g 100 j) ∧ ∀ a : Nat, a ≠ 100 → g' a = g a := by
  intro m
  induction m with
  | zero =>
    intro k g k0 k1
    exact ⟨g, k, by rw [bX12_wet_319, if_pos (by omega)], fun j _ _ => by omega, fun _ _ => rfl, fun _ _ => rfl⟩
  | succ m ih =>
    intro k g k0 k1
    obtain ⟨g', u5, a1, a2, a3, a4⟩ := ih (k + 1) (up g 100 k (g 101 k)) (by omega) (by omega)
    refine ⟨g', u5, by rw [bX12_wet_319, if_neg (by omega), bX12_wet_327 _ _ _ _ _ _ _ _ _ (by omega) (by omega) (by omega), a1], fun j j0 j1 => ?_, fun j j0 => ?_, fun a ha => ?_⟩
    · by_cases e : j = k
      · rw [e, a3 k (by omega), up_eq]
      · rw [a2 j (by omega) j1, up_ne (by omega)]
    · rw [a3 j (by omega), up_nei (by omega)]
    · rw [a4 a ha]; funext i; rw [up_ne ha]
theorem m_wet_out {κ : Int → Int} (hI : KI κ) (h29 : κ 29 = 1) {t p : Int} (hp : 0 ≤ p ∧ p < 3) (hd : dnB t p) (hr : rk t p = 0) (hone : ∀ q, 0 ≤ q → q < 3 → dnB t q → q = p) {N : Nat} (hN : (N : Int) = 10240) (pl wt x3 x4 x5 : Int) {L : Int} (hL : 0 ≤ L ∧ L ≤ 6) : ∀ (n : Nat) (s : Nat) (g : Hp) (u7 u8 : SV), (s : Int) + n = L → ModC g κ t → Vr κ (g 100) → sumF (g 100) N 0 ≤ p10 s → ∃ g' u6 v7 v8, EV 11 qX12_wet 144 [vR 86, vI p, vI L, vI x3, vI x4, vI x5, vI (s : Int), u7, u8] [] g = EV 11 qX12_wet 353 [vR 86, vI p, vI L, vI x3, vI x4, vI x5, vI u6, v7, v8] [] g' ∧ frW g g' ∧ Vr κ (g' 100) ∧ sumF (g' 100) N 0 ≤ 1000000 ∧ Ur κ pl wt N 0 (g' 100) = Ur κ pl wt N n (g 100) := by
  intro n
  induction n with
  | zero =>
    intro s g u7 u8 hs hC hV hT
    have := (p10_le (n := s) (by omega)).2.1
    exact ⟨g, s, u7, u8, by rw [bX12_wet_144, if_pos (by omega)], frW.refl g, hV, by omega, rfl⟩
  | succ n ih =>
    intro s g u7 u8 hs hC hV hT
    have hp5 := (p10_le (n := s) (by omega)).2.2 (by omega)
    obtain ⟨g1, a7, a1, a2, a3, a4⟩ := m_wet_z2 p L x3 x4 x5 s u8 N 0 g (by omega) (by omega)
    have e100 : g1 100 = g 100 := a4 100 (by omega)
    have f1 : frW g g1 := ⟨fun a _ _ _ a5 => a4 a a5, fun i _ => by rw [a4 86 (by omega)]⟩
    have z1 : sumF (g1 101) N 0 = 0 := sumF_zero N 0 (fun j j0 j1 => a2 j j0 (by omega))
    have z2 : Ur κ pl wt N n (g1 101) = 0 := sumF_zero N 0 (fun j j0 j1 => by
      show g1 101 j * _ = 0
      rw [a2 j j0 (by omega), Int.zero_mul])
    obtain ⟨g2, b7, b8, b1, b2, b3, b4, b5⟩ := m_wet_ks hI h29 hp hd hr hone hN n pl wt L x3 x4 x5 s N 0 g1 u8 (by omega) (by omega) (hC.keepW f1) (by rw [e100]; exact hV) (fun j j0 j1 => by rw [a2 j j0 j1]; exact ⟨Int.le_refl _, fun h => absurd h (by omega)⟩) (fun j j0 j1 => by
      rw [e100]
      have := (sumF_ge (f := g 100) (a := j) N 0 (fun i i0 i1 => (hV i i0 (by omega)).1)).2 j0 (by omega)
      omega) (by rw [z1, e100]; omega)
    rw [z2, e100, Int.zero_add] at b4
    rw [z1, e100, Int.zero_add] at b5
    obtain ⟨g3, c7, c1, c2, c3, c4⟩ := m_wet_cp p L x3 x4 x5 s b8 N 0 g2 (by omega) (by omega)
    have f3 : frW g2 g3 := ⟨fun a _ _ a5 _ => c4 a a5, fun i _ => by rw [c4 86 (by omega)]⟩
    have hV3 : Vr κ (g3 100) := fun j j0 j1 => by rw [c2 j j0 j1]; exact b3 j j0 j1
    have hT3 : sumF (g3 100) N 0 = sumF (g2 101) N 0 := sumF_eq N 0 (fun j j0 j1 => c2 j j0 (by omega))
    have hU3 : Ur κ pl wt N n (g3 100) = Ur κ pl wt N n (g2 101) := sumF_eq N 0 (fun j j0 j1 => by
      show g3 100 j * _ = g2 101 j * _
      rw [c2 j j0 (by omega)])
    obtain ⟨g4, d6, d7, d8, d1, d2, d3, d4, d5⟩ := ih (s + 1) g3 (vI c7) b8 (by omega) (((hC.keepW f1).keepW b2).keepW f3) hV3 (by
      rw [hT3]
      show _ ≤ 10 * p10 s
      omega)
    refine ⟨g4, d6, d7, d8, ?_, ((f1.trans b2).trans f3).trans d2, d3, d4, ?_⟩
    · rw [bX12_wet_144, if_neg (by omega), bX12_wet_150, a1, bX12_wet_175, b1, bX12_wet_316, c1, bX12_wet_347 _ _ _ _ _ _ _ _ _ (by omega), show ((s : Int) + 1) = ((s + 1 : Nat) : Int) by omega, d1]
    · rw [d5, hU3, b4]
theorem m_wet_sum (p L x5 : Int) {pl wt : Int} (hpl : 0 ≤ pl ∧ pl < 10) (hwt : 0 ≤ wt ∧ wt < 32) (u8 : SV) (g : Hp) (hb : ∀ j, 0 ≤ j → j < 10240 → 0 ≤ g 100 j ∧ g 100 j ≤ 1000000) : ∀ (m : Nat) (x acc : Int), 0 ≤ x → x + m = 32 → 0 ≤ acc → acc + 1000000 * m ≤ 100000000 → EV 11 qX12_wet 359 [vR 86, vI p, vI L, vI pl, vI wt, vI x5, vI acc, vI x, u8] [] g = some (some (vI (acc + sumF (fun y => g 100 (1024 * pl + 32 * y + wt)) m x)), g) := by
  intro m
  induction m with
  | zero =>
    intro x acc x0 x1 a0 a1
    rw [bX12_wet_359, if_pos (by omega), bX12_wet_396]
    show _ = some (some (vI (acc + 0)), g)
    rw [Int.add_zero]
  | succ m ih =>
    intro x acc x0 x1 a0 a1
    have := hb (1024 * pl + 32 * x + wt) (by omega) (by omega)
    rw [bX12_wet_359, if_neg (by omega), bX12_wet_366 _ _ _ _ _ _ _ _ _ (by omega) (by omega) (by omega) (by omega) (by omega) (by omega) (by omega), ih (x + 1) _ (by omega) (by omega) (by omega) (by omega), Int.add_assoc]
    rfl
theorem sum_blk {r : Int → Int} {pl wt : Int} (hwt : 0 ≤ wt ∧ wt < 32) : ∀ (m : Nat) (x : Int), 0 ≤ x → x + m ≤ 32 → sumF (fun j => r j * (if j / 1024 = pl ∧ j % 32 = wt then 1 else 0)) (32 * m) (1024 * pl + 32 * x) = sumF (fun y => r (1024 * pl + 32 * y + wt)) m x := by
  obtain ⟨b, hb⟩ : ∃ b : Nat, b = 32 := ⟨32, rfl⟩
  intro m
  induction m with
  | zero => intro x _ _; rfl
  | succ m ih =>
    intro x x0 x1
    rw [show 32 * (m + 1) = b + 32 * m by omega, sumF_split, sumF_one (a := 1024 * pl + 32 * x + wt) b _ (by omega) (by omega) (fun j j0 j1 jn => by
      show r j * (if _ then 1 else 0) = 0
      rw [if_neg (by omega), Int.mul_zero])]
    show r _ * (if _ then 1 else 0) + _ = r _ + sumF _ m (x + 1)
    rw [if_pos (by omega), Int.mul_one, show 1024 * pl + 32 * x + (b : Int) = 1024 * pl + 32 * (x + 1) by omega, ih (x + 1) (by omega) (by omega)]
theorem sum_all {κ : Int → Int} {r : Int → Int} {pl wt : Int} (hpl : 0 ≤ pl ∧ pl < 10) (hwt : 0 ≤ wt ∧ wt < 32) {N M : Nat} (hN : (N : Int) = 10240) (hM : (M : Int) = 32) : Ur κ pl wt N 0 r = sumF (fun y => r (1024 * pl + 32 * y + wt)) M 0 := by
  obtain ⟨a, ha⟩ := Int.eq_ofNat_of_zero_le (show 0 ≤ 1024 * pl by omega)
  obtain ⟨c, hc⟩ : ∃ c : Nat, N = a + (32 * M + c) := ⟨N - a - 32 * M, by omega⟩
  have hz : ∀ (j : Int), ¬ (j / 1024 = pl) → r j * uc κ pl wt 0 (sk j) (j % 32) = 0 := fun j h => by
    show r j * (if j / 1024 = pl ∧ j % 32 = wt then 1 else 0) = 0
    rw [if_neg (fun z => h z.1), Int.mul_zero]
  have := sum_blk (r := r) (pl := pl) hwt M 0 (by omega) (by omega)
  rw [← this]
  show sumF (fun j => r j * uc κ pl wt 0 (sk j) (j % 32)) N 0 = _
  rw [hc, sumF_split, sumF_split, sumF_zero a 0 (fun j j0 j1 => hz j (by omega)), sumF_zero c _ (fun j j0 j1 => hz j (by omega)), Int.zero_add, Int.add_zero, show (0 : Int) + (a : Int) = 1024 * pl + 32 * 0 by omega]
  rfl
