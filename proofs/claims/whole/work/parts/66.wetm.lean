/-! wet: the reference's table -/
def sk (k : Int) : St := (k / 32 % 32, k / 1024, 0, 0)
theorem sumF_add (f k : Int → Int) : ∀ (m : Nat) (i : Int), sumF (fun j => f j + k j) m i = sumF f m i + sumF k m i := by
  intro m
  induction m with
  | zero => intro i; rfl
  | succ m ih =>
    intro i
    show f i + k i + sumF _ m (i + 1) = f i + sumF f m (i + 1) + (k i + sumF k m (i + 1))
    rw [ih]
    omega
theorem sumF_one {f : Int → Int} {a : Int} : ∀ (m : Nat) (i : Int), i ≤ a → a < i + m → (∀ j, i ≤ j → j < i + m → j ≠ a → f j = 0) → sumF f m i = f a := by
  intro m
  induction m with
  | zero => intro i h1 h2; omega
  | succ m ih =>
    intro i h1 h2 h3
    show f i + sumF f m (i + 1) = f a
    by_cases e : i = a
    · subst e
      rw [sumF_zero m (i + 1) (fun j j0 j1 => h3 j (by omega) (by omega) (by omega)), Int.add_zero]
    · rw [h3 i (by omega) (by omega) e, ih (i + 1) (by omega) (by omega) (fun j j0 j1 jn => h3 j (by omega) (by omega) jn), Int.zero_add]
theorem sumF_split (f : Int → Int) : ∀ (a b : Nat) (i : Int), sumF f (a + b) i = sumF f a i + sumF f b (i + a) := by
  intro a
  induction a with
  | zero =>
    intro b i
    show sumF f (0 + b) i = 0 + sumF f b (i + ((0 : Nat) : Int))
    rw [Nat.zero_add, Int.zero_add, show i + ((0 : Nat) : Int) = i by omega]
  | succ a ih =>
    intro b i
    rw [show a + 1 + b = (a + b) + 1 by omega]
    show f i + sumF f (a + b) (i + 1) = f i + sumF f a (i + 1) + sumF f b _
    rw [ih, show i + ((a + 1 : Nat) : Int) = i + 1 + (a : Int) by omega]
    omega
theorem sumF_ge {f : Int → Int} {a : Int} : ∀ (m : Nat) (i : Int), (∀ j, i ≤ j → j < i + m → 0 ≤ f j) → 0 ≤ sumF f m i ∧ (i ≤ a → a < i + m → f a ≤ sumF f m i) := by
  intro m
  induction m with
  | zero => intro i _; exact ⟨Int.le_refl _, fun h1 h2 => by omega⟩
  | succ m ih =>
    intro i h
    have h1 := h i (by omega) (by omega)
    obtain ⟨b1, b2⟩ := ih (i + 1) (fun j j0 j1 => h j (by omega) (by omega))
    show 0 ≤ f i + sumF f m (i + 1) ∧ (_ → _ → f a ≤ f i + sumF f m (i + 1))
    refine ⟨by omega, fun x y => ?_⟩
    by_cases e : a = i
    · subst e; omega
    · have := b2 (by omega) (by omega); omega
/-- what is told of a table of rows: none below zero, those above it stand for states that can be -/
def Vr (κ : Int → Int) (r : Int → Int) : Prop := ∀ j, 0 ≤ j → j < 10240 → 0 ≤ r j ∧ (0 < r j → SVd κ (sk j))
abbrev Ur (κ : Int → Int) (pl wt : Int) (N m : Nat) (r : Int → Int) : Int := sumF (fun j => r j * uc κ pl wt m (sk j) (j % 32)) N 0
abbrev frW (g g' : Hp) : Prop := (∀ a : Nat, a ≠ 86 → a ≠ 95 → a ≠ 100 → a ≠ 101 → g' a = g a) ∧ ∀ i : Int, i ≠ 12 → g' 86 i = g 86 i
theorem frW.refl (g : Hp) : frW g g := ⟨fun _ _ _ _ _ => rfl, fun _ _ => rfl⟩
theorem frW.trans {g g' g'' : Hp} (h : frW g g') (h' : frW g' g'') : frW g g'' := ⟨fun a a1 a2 a3 a4 => (h'.1 a a1 a2 a3 a4).trans (h.1 a a1 a2 a3 a4), fun i i1 => (h'.2 i i1).trans (h.2 i i1)⟩
theorem ModC.keepW {g g' : Hp} {κ : Int → Int} {t : Int} (h : ModC g κ t) (hf : frW g g') : ModC g' κ t := by
  unfold ModC at *
  rw [hf.1 87 (by omega) (by omega) (by omega) (by omega), hf.1 91 (by omega) (by omega) (by omega) (by omega), hf.1 92 (by omega) (by omega) (by omega) (by omega), hf.1 93 (by omega) (by omega) (by omega) (by omega), hf.1 94 (by omega) (by omega) (by omega) (by omega), hf.2 6 (by omega), hf.2 10 (by omega)]
  exact h
def jX (κ : Int → Int) (k to : Int) : Int := 1024 * to + 32 * (aGo κ (sk k) 0 to).1 + bOr (k % 32) (wb to)
theorem jX_ok {κ : Int → Int} (hI : KI κ) (h29 : κ 29 = 1) {k to : Int} (hk : 0 ≤ k ∧ k < 10240) (ht : 0 ≤ to ∧ to < 10) (hV : SVd κ (sk k)) (hc : aCan κ (sk k) 0 to) : (0 ≤ jX κ k to ∧ jX κ k to < 10240) ∧ sk (jX κ k to) = aGo κ (sk k) 0 to ∧ jX κ k to % 32 = bOr (k % 32) (wb to) ∧ SVd κ (aGo κ (sk k) 0 to) := by
  have h0 := hI.1
  have hV1 : SVd κ (aGo κ (sk k) 0 to) := (Rch_go hI (SVd_ly h0 hV) ⟨hV, nine_self κ (sk k).1⟩ (by omega) ht.1 hc).1
  have hl := SVd_ly h0 hV1
  have hw := (w_lt (w := k % 32) (q := to) (by omega) ht).1
  have e : aGo κ (sk k) 0 to = ((aGo κ (sk k) 0 to).1, to, 0, 0) := by simp [aGo, qs, sk]
  unfold jX
  generalize (aGo κ (sk k) 0 to).1 = l at *
  generalize bOr (k % 32) (wb to) = w at *
  refine ⟨by omega, ?_, by omega, hV1⟩
  rw [e]
  unfold sk
  rw [show (1024 * to + 32 * l + w) / 32 % 32 = l by omega, show (1024 * to + 32 * l + w) / 1024 = to by omega]
theorem m_wet_to {κ : Int → Int} (hI : KI κ) (h29 : κ 29 = 1) {t p : Int} (hp : 0 ≤ p ∧ p < 3) (hd : dnB t p) (hr : rk t p = 0) (hone : ∀ q, 0 ≤ q → q < 3 → dnB t q → q = p) {g : Hp} (hC : ModC g κ t) {k to : Int} (hk : 0 ≤ k ∧ k < 10240) (ht : 0 ≤ to ∧ to < 10) (hV : SVd κ (sk k)) (hb : ∀ j, 0 ≤ j → j < 10240 → 0 ≤ g 101 j + g 100 k ∧ g 101 j + g 100 k < 2147483648) (x2 x3 x4 x5 x6 : Int) : ∃ g', EV 11 qX12_wet 206 [vR 86, vI p, vI x2, vI x3, vI x4, vI x5, vI x6, vI k, vI to] [] g = EV 11 qX12_wet 304 [vR 86, vI p, vI x2, vI x3, vI x4, vI x5, vI x6, vI k, vI to] [] g' ∧ frW g g' ∧ g' 100 = g 100 ∧ ∀ j, g' 101 j = g 101 j + if aCan κ (sk k) 0 to ∧ j = jX κ k to then g 100 k else 0 := by
  have h0 := hI.1
  generalize hg1 : up (up g 95 p (k / 1024)) 86 12 (k / 32 % 32) = g1
  have hC1 : ModC g1 κ t := by subst hg1; exact ModC_ly (ModC_pl hC _ _) _
  have hS1 : ModS g1 t (sk k) := by
    subst hg1
    refine ⟨up_eq .., fun q q0 q1 dq => ?_⟩
    have := hone q q0 q1 dq
    subst this
    rw [up_ne (by omega), up_eq, hr]
    rfl
  have f1 : frW g g1 := by
    subst hg1
    refine ⟨fun a a1 a2 a3 a4 => ?_, fun i hi => ?_⟩
    · funext j; rw [up_ne a1, up_ne a2]
    · rw [up_nei hi, up_ne (by omega)]
  have e100 : g1 100 = g 100 := by subst hg1; funext j; rw [up_ne (by omega), up_ne (by omega)]
  have e101 : g1 101 = g 101 := by subst hg1; funext j; rw [up_ne (by omega), up_ne (by omega)]
  have hq0 := (hV.2 0 (by omega) (by omega)).1
  have st : EV 11 qX12_wet 206 [vR 86, vI p, vI x2, vI x3, vI x4, vI x5, vI x6, vI k, vI to] [] g = EV 11 qX12_wet 237 [vR 86, vI p, vI x2, vI x3, vI x4, vI x5, vI x6, vI k, vI to] [vI (b01 (aCan κ (sk k) 0 to))] g1 := by
    have hm := m_mayStep hC1 hS1 hI hp hd ht (by rw [hr]; exact hq0)
    rw [hr] at hm
    rw [bX12_wet_206 _ _ _ _ _ _ _ _ _ (by omega) hp (by omega) (by omega), hg1, hm, bnd_some]
    rfl
  rw [st, bX12_wet_237]
  by_cases can : aCan κ (sk k) 0 to
  · obtain ⟨j1, j2, j3, j4⟩ := jX_ok hI h29 hk ht hV can
    have hl := SVd_ly h0 j4
    have hC2 : ModC (up g1 95 p to) κ t := ModC_pl hC1 _ _
    have hS2 : ModS (up g1 95 p to) t (qs (sk k) 0 to) := by
      have := ModS_pl hS1 (v := to) hp hd
      rw [hr] at this
      exact this
    generalize hg2 : up (up g1 95 p to) 86 12 (aGo κ (sk k) 0 to).1 = g2
    have hta := m_tipAll hC2 hS2 hI
    have e12 : g2 86 12 = (aGo κ (sk k) 0 to).1 := by subst hg2; exact up_eq ..
    have f2 : frW g1 g2 := by
      subst hg2
      refine ⟨fun a a1 a2 a3 a4 => ?_, fun i hi => ?_⟩
      · funext j; rw [up_ne a1, up_ne a2]
      · rw [up_nei hi, up_ne (by omega)]
    have e100' : g2 100 = g 100 := by rw [← e100]; subst hg2; funext j; rw [up_ne (by omega), up_ne (by omega)]
    have e101' : g2 101 = g 101 := by rw [← e101]; subst hg2; funext j; rw [up_ne (by omega), up_ne (by omega)]
    have hJ : 1024 * to + 32 * g2 86 12 + bOr (k % 32) (wb to) = jX κ k to := by rw [e12]; rfl
    refine ⟨up g2 101 (jX κ k to) (g 101 (jX κ k to) + g 100 k), ?_, (f1.trans f2).trans ⟨fun a a1 a2 a3 a4 => by funext j; rw [up_ne a4], fun i hi => by rw [up_ne (by omega)]⟩, by funext j; rw [up_ne (by omega), e100'], fun j => ?_⟩
    · have s2 : EV 11 qX12_wet 252 [vR 86, vI p, vI x2, vI x3, vI x4, vI x5, vI x6, vI k, vI to] [] g2 = EV 11 qX12_wet 291 [vR 86, vI p, vI x2, vI x3, vI x4, vI x5, vI x6, vI k, vI to] [vI (wb to), vI (k % 32), vI (1024 * to + 32 * g2 86 12), vR 101] g2 := by
        rw [bX12_wet_252 _ _ _ _ _ _ _ _ _ (by omega) (by rw [e12]; omega) (by rw [e12]; omega) (by omega)]
        by_cases c : to ≤ 4
        · rw [if_pos c, bX12_wet_290, show wb to = 0 from if_neg (by omega)]
        · rw [if_neg c, bX12_wet_281 _ _ _ _ _ _ _ _ _ _ _ (by omega), show wb to = bShl 1 (to - 5) from if_pos (by omega)]
      have hbj := hb (jX κ k to) j1.1 j1.2
      rw [if_neg (b01_pos can), bX12_wet_240 _ _ _ _ _ _ _ _ _ hp, hta, bnd_some]
      show EV 11 qX12_wet 252 _ [] (up (up g1 95 p to) 86 12 (aGo κ (sk k) 0 to).1) = _
      rw [hg2, s2, bX12_wet_291 _ _ _ _ _ _ _ _ _ _ _ _ (by rw [hJ]; omega) (by rw [hJ]; exact j1) hk (by rw [hJ, e100', e101']; omega) (by rw [hJ]; exact j1), hJ, e100', e101']
    · by_cases e : j = jX κ k to
      · rw [if_pos ⟨can, e⟩, e, up_eq]
      · rw [if_neg (fun z => e z.2), up_nei e, e101', Int.add_zero]
  · refine ⟨g1, by rw [if_pos (b01_neg can)], f1, e100, fun j => ?_⟩
    rw [if_neg (fun z => can z.1), e101, Int.add_zero]
theorem Ur_pt {κ : Int → Int} {pl wt : Int} {N : Nat} (hN : (N : Int) = 10240) (m : Nat) {r r' : Int → Int} {P : Prop} [Decidable P] {J c : Int} (hJ : P → 0 ≤ J ∧ J < 10240) (h : ∀ j, r' j = r j + if P ∧ j = J then c else 0) : Ur κ pl wt N m r' = Ur κ pl wt N m r + (if P then c * uc κ pl wt m (sk J) (J % 32) else 0) ∧ sumF r' N 0 = sumF r N 0 + (if P then c else 0) := by
  by_cases hP : P
  · obtain ⟨a, b⟩ := hJ hP
    have e1 : sumF (fun j => (if P ∧ j = J then c else 0) * uc κ pl wt m (sk j) (j % 32)) N 0 = (if P ∧ J = J then c else 0) * uc κ pl wt m (sk J) (J % 32) := sumF_one (a := J) N 0 a (by omega) (fun j _ _ jn => by
      show (if P ∧ j = J then c else 0) * _ = 0
      rw [if_neg (fun z => jn z.2), Int.zero_mul])
    have e2 : sumF (fun j => if P ∧ j = J then c else 0) N 0 = if P ∧ J = J then c else 0 := sumF_one (a := J) N 0 a (by omega) (fun j _ _ jn => if_neg (fun z => jn z.2))
    rw [if_pos hP, if_pos hP]
    rw [if_pos ⟨hP, rfl⟩] at e1 e2
    constructor
    · rw [← e1]
      show sumF _ N 0 = sumF _ N 0 + sumF _ N 0
      rw [← sumF_add]
      refine sumF_eq N 0 (fun j _ _ => ?_)
      show r' j * _ = r j * _ + _ * _
      rw [h j, Int.add_mul]
    · rw [← e2, ← sumF_add]
      exact sumF_eq N 0 (fun j _ _ => h j)
  · rw [if_neg hP, if_neg hP, Int.add_zero, Int.add_zero]
    have e : r' = r := by
      funext j
      rw [h j, if_neg (fun z => hP z.1), Int.add_zero]
    rw [e]
    exact ⟨rfl, rfl⟩
/-- one row's steps -/
theorem m_wet_tos {κ : Int → Int} (hI : KI κ) (h29 : κ 29 = 1) {t p : Int} (hp : 0 ≤ p ∧ p < 3) (hd : dnB t p) (hr : rk t p = 0) (hone : ∀ q, 0 ≤ q → q < 3 → dnB t q → q = p) {N : Nat} (hN : (N : Int) = 10240) {k : Int} (hk : 0 ≤ k ∧ k < 10240) (n : Nat) (pl wt x2 x3 x4 x5 x6 : Int) : ∀ (m : Nat) (to : Int) (g : Hp), 0 ≤ to → to + m = 10 → ModC g κ t → Vr κ (g 100) → Vr κ (g 101) → g 100 k ≤ 1000000 → sumF (g 101) N 0 + 1000000 * m ≤ 100000000 ∨ sumF (g 101) N 0 + g 100 k * m ≤ 20000000 → ∃ g' u8, EV 11 qX12_wet 189 [vR 86, vI p, vI x2, vI x3, vI x4, vI x5, vI x6, vI k, vI to] [] g = EV 11 qX12_wet 178 [vR 86, vI p, vI x2, vI x3, vI x4, vI x5, vI x6, vI (k + 1), u8] [] g' ∧ frW g g' ∧ g' 100 = g 100 ∧ Vr κ (g' 101) ∧ Ur κ pl wt N n (g' 101) = Ur κ pl wt N n (g 101) + g 100 k * sumF (fun to => if aCan κ (sk k) 0 to then uc κ pl wt n (aGo κ (sk k) 0 to) (bOr (k % 32) (wb to)) else 0) m to ∧ sumF (g' 101) N 0 ≤ sumF (g 101) N 0 + g 100 k * m := by
  intro m
  induction m with
  | zero =>
    intro to g t0 t1 hC hV hV1 hb hb2
    refine ⟨g, vI to, by rw [bX12_wet_189, if_pos (by omega), bX12_wet_310 _ _ _ _ _ _ _ _ _ (by omega)], frW.refl g, rfl, hV1, ?_, ?_⟩
    · show _ = _ + _ * 0
      rw [Int.mul_zero, Int.add_zero]
    · show _ ≤ _ + _ * 0
      rw [Int.mul_zero, Int.add_zero]
      exact Int.le_refl _
  | succ m ih =>
    intro to g t0 t1 hC hV hV1 hb hb2
    have hk0 := (hV k hk.1 hk.2).1
    have hem : g 100 k * ((m + 1 : Nat) : Int) = g 100 k * (m : Int) + g 100 k := by
      rw [show ((m + 1 : Nat) : Int) = (m : Int) + 1 by omega, Int.mul_add, Int.mul_one]
    by_cases pos : 0 < g 100 k
    · have hVk := (hV k hk.1 hk.2).2 pos
      have hmn : 0 ≤ g 100 k * (m : Int) := Int.mul_nonneg hk0 (by omega)
      have hT : sumF (g 101) N 0 ≤ 100000000 := by
        rw [hem] at hb2
        generalize g 100 k * (m : Int) = z at *
        omega
      obtain ⟨g1, a1, a2, a3, a4⟩ := m_wet_to hI h29 hp hd hr hone hC hk (to := to) (by omega) hVk (fun j j0 j1 => by
        have x := (hV1 j j0 j1).1
        have y := (sumF_ge (f := g 101) (a := j) N 0 (fun i i0 i1 => (hV1 i i0 (by omega)).1)).2 j0 (by omega)
        omega) x2 x3 x4 x5 x6
      have hj := fun c => jX_ok hI h29 hk (to := to) (by omega) hVk c
      obtain ⟨u1, u2⟩ := Ur_pt (κ := κ) (pl := pl) (wt := wt) hN n (fun c => (hj c).1) a4
      have hV2 : Vr κ (g1 101) := fun j j0 j1 => by
        have x := hV1 j j0 j1
        rw [a4 j]
        by_cases c : aCan κ (sk k) 0 to ∧ j = jX κ k to
        · rw [if_pos c]
          refine ⟨by omega, fun _ => ?_⟩
          rw [c.2, (hj c.1).2.1]
          exact (hj c.1).2.2.2
        · rw [if_neg c, Int.add_zero]
          exact x
      have hTT : sumF (g1 101) N 0 ≤ sumF (g 101) N 0 + g 100 k := by
        rw [u2]
        split <;> omega
      obtain ⟨g2, u8, b1, b2, b3, b4, b5, b6⟩ := ih (to + 1) g1 (by omega) (by omega) (hC.keepW a2) (by rw [a3]; exact hV) hV2 (by rw [a3]; exact hb) (by
        rw [a3]
        rw [hem] at hb2
        generalize g 100 k * (m : Int) = z at *
        omega)
      rw [a3] at b3 b5 b6
      refine ⟨g2, u8, ?_, a2.trans b2, b3, b4, ?_, ?_⟩
      · rw [bX12_wet_189, if_neg (by omega), bX12_wet_196 _ _ _ _ _ _ _ _ _ hk, if_neg (by omega), a1, bX12_wet_304 _ _ _ _ _ _ _ _ _ (by omega), b1]
      · rw [b5, u1]
        show _ = _ + g 100 k * ((if aCan κ (sk k) 0 to then uc κ pl wt n (aGo κ (sk k) 0 to) (bOr (k % 32) (wb to)) else 0) + sumF _ m (to + 1))
        rw [Int.mul_add, Int.add_assoc]
        by_cases c : aCan κ (sk k) 0 to
        · rw [if_pos c, if_pos c, (hj c).2.1, (hj c).2.2.1]
        · rw [if_neg c, if_neg c, Int.mul_zero]
      · rw [hem]
        generalize g 100 k * (m : Int) = z at *
        omega
    · have e : g 100 k = 0 := by omega
      refine ⟨g, vI to, by rw [bX12_wet_189, if_neg (by omega), bX12_wet_196 _ _ _ _ _ _ _ _ _ hk, if_pos (by omega), bX12_wet_310 _ _ _ _ _ _ _ _ _ (by omega)], frW.refl g, rfl, hV1, ?_, ?_⟩
      · rw [e, Int.zero_mul, Int.add_zero]
      · rw [e, Int.zero_mul, Int.add_zero]
        exact Int.le_refl _
