/-! the reference, on: loads, tipping, states -/
theorem m_ld_it' {g : Hp} (b x p : Int) (hp : 0 ≤ p ∧ p < 3) (hlt : p < g 87 29) (hb : 0 ≤ b ∧ b < 5) (hx : 0 ≤ x ∧ x < 1000) (hw : dnB (g 86 10) p → 0 ≤ g 87 (30 + p) ∧ g 87 (30 + p) ≤ 9) : EV 9 qX12_loadOf 9 [vR 86, vI b, vI x, vI p] [] g = EV 9 qX12_loadOf 9 [vR 86, vI b, vI (x + mW g b p), vI (p + 1)] [] g := m_ld_it g b x p hp hlt hb hx hw
theorem m_loadOf {g : Hp} {κ : Int → Int} {t : Int} {s : St} (hC : ModC g κ t) (hS : ModS g t s) (hI : KI κ) {b : Int} (hb : 0 ≤ b ∧ b < κ 0) : EV 9 qX12_loadOf 0 [vR 86, vI b, vU, vU] [] g = some (some (vI (aLd κ s b)), g) := by
  have hs := mW_sum hC hS b
  have w0 := mW_le hC hI b (p := 0) (by omega)
  have w1 := mW_le hC hI b (p := 1) (by omega)
  have w2 := mW_le hC hI b (p := 2) (by omega)
  obtain ⟨h0, hbb, h22, hc, h29, h10, hcn, hpp⟩ := hC
  obtain ⟨i0, ib, i22, ic, ic2, i29, ip⟩ := hI
  have hB := hbb b hb.1 hb.2
  have hD := ib b hb.1 hb.2
  rw [bX12_loadOf_0 _ _ (by omega), hB.2.2.2]
  unfold aLd
  rw [← hs, ← hB.2.2.1]
  rcases (by omega : g 87 29 = 0 ∨ g 87 29 = 1 ∨ g 87 29 = 2 ∨ g 87 29 = 3) with e | e | e | e
  · rw [w0.2.2 (by omega), w1.2.2 (by omega), w2.2.2 (by omega), m_ld_end _ _ _ _ (by omega) (by omega) (by omega) (by omega)]
    simp
  · rw [w1.2.2 (by omega), w2.2.2 (by omega), m_ld_it' _ _ _ (by omega) (by omega) (by omega) (by omega) w0.2.1, m_ld_end _ _ _ _ (by omega) (by omega) (by omega) (by omega)]
    simp
  · rw [w2.2.2 (by omega), m_ld_it' _ _ _ (by omega) (by omega) (by omega) (by omega) w0.2.1, show (0 : Int) + 1 = 1 from rfl, m_ld_it' _ _ _ (by omega) (by omega) (by omega) (by omega) w1.2.1, m_ld_end _ _ _ _ (by omega) (by omega) (by omega) (by omega)]
    simp
  · rw [m_ld_it' _ _ _ (by omega) (by omega) (by omega) (by omega) w0.2.1, show (0 : Int) + 1 = 1 from rfl, m_ld_it' _ _ _ (by omega) (by omega) (by omega) (by omega) w1.2.1, show (1 : Int) + 1 = 2 from rfl, m_ld_it' _ _ _ (by omega) (by omega) (by omega) (by omega) w2.2.1, m_ld_end _ _ _ _ (by omega) (by omega) (by omega) (by omega)]
theorem m_tip (g : Hp) (κ : Int → Int) (h l : Int) (hh : 0 ≤ h ∧ h < 5) (hl : 0 ≤ l ∧ l < 5) (kh : g 87 (11 + h) = κ (11 + h)) (kl : g 87 (11 + l) = κ (11 + l)) : EV 9 qX12_tip 0 [vR 86, vI h, vI l, vU, vU] [] g = some (none, up g 86 12 (aTip κ (g 86 12) h l)) := by
  simp (disch := first | omega | exact b01_or _) only [bX12_tip_0, bX12_tip_8, bX12_tip_11, bX12_tip_24, bX12_tip_28, bX12_tip_29, bX12_tip_38, bX12_tip_41, bX12_tip_54, bX12_tip_58, bX12_tip_59, bX12_tip_65, bX12_tip_70, bX12_tip_88, bnd_some, Option.toList_some, List.cons_append, List.nil_append, m_has, b01_eq0, kh, kl, if_true, if_false]
  unfold aTip tpB
  by_cases c1 : dnB (g 86 12) h <;> by_cases c2 : κ (11 + h) = 4 <;> by_cases c3 : dnB (g 86 12) l <;> by_cases c4 : κ (11 + l) = 3 <;> simp [dnB, c1, c2, c3, c4, up_id]
theorem ModC_ly {g : Hp} {κ : Int → Int} {t : Int} (h : ModC g κ t) (v : Int) : ModC (up g 86 12 v) κ t := by
  obtain ⟨h0, hb, h22, hc, h29, h10, hcn, hpp⟩ := h
  refine ⟨by rw [up_ne (by omega)]; exact h0, fun k k0 k1 => ?_, by rw [up_nei (by omega)]; exact h22, fun c c0 c1 => ?_, by rw [up_ne (by omega)]; exact h29, by rw [up_nei (by omega)]; exact h10, hcn, fun p p0 p1 pd => ?_⟩
  · rw [up_ne (by omega), up_ne (by omega), up_ne (by omega), up_ne (by omega)]
    exact hb k k0 k1
  · rw [up_ne (by omega), up_ne (by omega), up_ne (by omega)]
    exact hc c c0 c1
  · rw [up_ne (by omega), up_ne (by omega)]
    exact hpp p p0 p1 pd
theorem ModC_pl {g : Hp} {κ : Int → Int} {t : Int} (h : ModC g κ t) (i v : Int) : ModC (up g 95 i v) κ t := by
  obtain ⟨h0, hb, h22, hc, h29, h10, hcn, hpp⟩ := h
  refine ⟨by rw [up_ne (by omega)]; exact h0, fun k k0 k1 => ?_, by rw [up_ne (by omega)]; exact h22, fun c c0 c1 => ?_, by rw [up_ne (by omega)]; exact h29, by rw [up_ne (by omega)]; exact h10, hcn, fun p p0 p1 pd => ?_⟩
  · rw [up_ne (by omega), up_ne (by omega), up_ne (by omega), up_ne (by omega)]
    exact hb k k0 k1
  · rw [up_ne (by omega), up_ne (by omega), up_ne (by omega)]
    exact hc c c0 c1
  · rw [up_ne (by omega), up_ne (by omega)]
    exact hpp p p0 p1 pd
theorem ModS_ly {g : Hp} {t : Int} {s : St} (h : ModS g t s) (v : Int) : ModS (up g 86 12 v) t (v, s.2) := by
  refine ⟨up_eq, fun p p0 p1 pd => ?_⟩
  rw [up_ne (by omega)]
  exact h.2 p p0 p1 pd
theorem rk_inj {t p q : Int} (hp : 0 ≤ p ∧ p < 3) (hq : 0 ≤ q ∧ q < 3) (dp : dnB t p) (dq : dnB t q) (h : rk t p = rk t q) : p = q := by
  unfold rk at h
  rcases (by omega : p = 0 ∨ p = 1 ∨ p = 2) with rfl | rfl | rfl <;> rcases (by omega : q = 0 ∨ q = 1 ∨ q = 2) with rfl | rfl | rfl <;> first | rfl | (exfalso; simp [dnB] at dp dq h; simp [dp, dq] at h; try (split at h <;> omega))
theorem ModS_pl {g : Hp} {t : Int} {s : St} (h : ModS g t s) {p v : Int} (hp : 0 ≤ p ∧ p < 3) (hd : dnB t p) : ModS (up g 95 p v) t (qs s (rk t p) v) := by
  refine ⟨by rw [up_ne (by omega), qs_1]; exact h.1, fun q q0 q1 qd => ?_⟩
  have r1 := rk_le (t := t) (p := p)
  have r2 := rk_le (t := t) (p := q)
  rw [qa_qs (by omega) (by omega)]
  by_cases e : q = p
  · rw [e, up_eq, if_pos rfl]
  · rw [up_nei e, if_neg (fun z => e (rk_inj ⟨q0, q1⟩ hp qd hd z))]
    exact h.2 q q0 q1 qd
theorem m_tip_it {g : Hp} {κ : Int → Int} {t : Int} {s : St} (hC : ModC g κ t) (hS : ModS g t s) (hI : KI κ) {c : Int} (hc : 0 ≤ c ∧ c < κ 22) (u2 : SV) : ∃ v2 : SV, EV 10 qX12_tipAll 2 [vR 86, vI c, u2] [] g = EV 10 qX12_tipAll 2 [vR 86, vI (c + 1), v2] [] (up g 86 12 (aT1 κ s c s.1)) := by
  have hC' := hC
  have hI' := hI
  obtain ⟨h0, hb, h22, hch, h29, h10, hcn, hpp⟩ := hC
  obtain ⟨i0, ib, i22, ic, ic2, i29, ip⟩ := hI
  have h6 := hS.1
  have q := hch c hc.1 hc.2
  have r := ic c hc.1 hc.2
  have la := aLd_le hI' s (b := κ (23 + c)) (by omega)
  have lb := aLd_le hI' s (b := κ (25 + c)) (by omega)
  have ea := hb (κ (23 + c)) (by omega) (by omega)
  have eb := hb (κ (25 + c)) (by omega) (by omega)
  refine ⟨vI (aLd κ s (κ (23 + c)) - aLd κ s (κ (25 + c))), ?_⟩
  rw [bX12_tipAll_2, if_neg (by omega), bX12_tipAll_10 _ _ _ (by omega), q.1, m_loadOf hC' hS hI' (by omega), bnd_some]
  show EV 10 qX12_tipAll 20 _ [vI _] g = _
  rw [bX12_tipAll_20 _ _ _ _ (by omega), q.2.1, m_loadOf hC' hS hI' (by omega), bnd_some]
  show EV 10 qX12_tipAll 30 _ [vI _, vI _] g = _
  rw [bX12_tipAll_30 _ _ _ _ _ (by omega) (by omega), q.2.2]
  unfold aT1
  by_cases d1 : κ (27 + c) < aLd κ s (κ (23 + c)) - aLd κ s (κ (25 + c))
  · rw [if_neg (by omega), if_pos d1, bX12_tipAll_42 _ _ _ (by omega) (by omega), q.1, q.2.1, m_tip g κ _ _ (by omega) (by omega) ea.2.2.1 eb.2.2.1, bnd_some, h6]
    show EV 10 qX12_tipAll 58 _ [] _ = _
    rw [bX12_tipAll_58, bX12_tipAll_88 _ _ _ (by omega)]
  · rw [if_pos (by omega), if_neg d1, bX12_tipAll_61 _ _ _ (by omega) (by omega), q.2.2]
    by_cases d2 : κ (27 + c) < -(aLd κ s (κ (23 + c)) - aLd κ s (κ (25 + c)))
    · rw [if_neg (by omega), if_pos d2, bX12_tipAll_72 _ _ _ (by omega) (by omega), q.1, q.2.1, m_tip g κ _ _ (by omega) (by omega) eb.2.2.1 ea.2.2.1, bnd_some, h6]
      show EV 10 qX12_tipAll 88 _ [] _ = _
      rw [bX12_tipAll_88 _ _ _ (by omega)]
    · rw [if_pos (by omega), if_neg d2, bX12_tipAll_88 _ _ _ (by omega), up_id h6]
theorem m_tip_end (g : Hp) (c : Int) (u2 : SV) (h : g 86 6 ≤ c) : EV 10 qX12_tipAll 2 [vR 86, vI c, u2] [] g = some (none, g) := by
  rw [bX12_tipAll_2, if_pos h, bX12_tipAll_94]
theorem m_tipAll {g : Hp} {κ : Int → Int} {t : Int} {s : St} (hC : ModC g κ t) (hS : ModS g t s) (hI : KI κ) : EV 10 qX12_tipAll 0 [vR 86, vU, vU] [] g = some (none, up g 86 12 (aTA κ s)) := by
  have i22 := hI.2.2.1
  have h7 := hC.2.2.1
  have h6 := hS.1
  rw [bX12_tipAll_0]
  unfold aTA
  rcases (by omega : κ 22 = 0 ∨ κ 22 = 1 ∨ κ 22 = 2) with e | e | e
  · rw [m_tip_end _ _ _ (by omega), if_neg (by omega), if_neg (by omega), up_id h6]
  · obtain ⟨v2, hh⟩ := m_tip_it hC hS hI (c := 0) (by omega) vU
    rw [hh, m_tip_end _ _ _ (by rw [up_nei (by omega)]; omega), if_neg (by omega), if_pos (by omega)]
  · obtain ⟨v2, hh⟩ := m_tip_it hC hS hI (c := 0) (by omega) vU
    obtain ⟨w2, hh2⟩ := m_tip_it (ModC_ly hC (aT1 κ s 0 s.1)) (ModS_ly hS (aT1 κ s 0 s.1)) hI (c := 1) (by omega) v2
    rw [hh, show (0 : Int) + 1 = 1 from rfl, hh2, m_tip_end _ _ _ (by rw [up_nei (by omega), up_nei (by omega)]; omega), if_pos (by omega), up_up]
    rfl
/-- a place as the reference has it, the state as its number -/
def mpl (t : Int) (s : St) (p : Int) : Int := if dnB t p then qa s (rk t p) else 0
def mco (t : Int) (s : St) : Int := s.1 + 32 * (mpl t s 0 + 10 * mpl t s 1 + 100 * mpl t s 2)
def ModZ (g : Hp) (t : Int) : Prop := ∀ p, 0 ≤ p → p < 3 → ¬ dnB t p → g 95 p = 0
theorem mpl_eq {g : Hp} {t : Int} {s : St} (hS : ModS g t s) (hZ : ModZ g t) {p : Int} (hp : 0 ≤ p ∧ p < 3) : g 95 p = mpl t s p := by
  unfold mpl
  by_cases d : dnB t p
  · rw [if_pos d, hS.2 p hp.1 hp.2 d]
  · rw [if_neg d, hZ p hp.1 hp.2 d]
theorem SVd_ly {κ : Int → Int} {s : St} (h0 : 0 ≤ κ 0 ∧ κ 0 ≤ 5) (h : SVd κ s) : 0 ≤ s.1 ∧ s.1 < 32 := by
  have := h.1
  have := pw2_le h0
  omega
theorem mpl_le {κ : Int → Int} {t : Int} {s : St} (h0 : 0 ≤ κ 0 ∧ κ 0 ≤ 5) (h : SVd κ s) (p : Int) : 0 ≤ mpl t s p ∧ mpl t s p < 10 := by
  unfold mpl
  have r := rk_le (t := t) (p := p)
  have := (h.2 (rk t p) r.1 (by omega)).1
  split <;> omega
theorem mco_le {κ : Int → Int} {t : Int} {s : St} (h0 : 0 ≤ κ 0 ∧ κ 0 ≤ 5) (h : SVd κ s) : 0 ≤ mco t s ∧ mco t s < 32000 := by
  have := SVd_ly h0 h
  have := mpl_le (t := t) h0 h 0
  have := mpl_le (t := t) h0 h 1
  have := mpl_le (t := t) h0 h 2
  unfold mco
  omega
theorem m_codeNow {g : Hp} {κ : Int → Int} {t : Int} {s : St} (h0 : 0 ≤ κ 0 ∧ κ 0 ≤ 5) (hV : SVd κ s) (hS : ModS g t s) (hZ : ModZ g t) : EV 8 qX12_codeNow 0 [vR 86] [] g = some (some (vI (mco t s)), g) := by
  have := SVd_ly h0 hV
  have l0 := mpl_le (t := t) h0 hV 0
  have l1 := mpl_le (t := t) h0 hV 1
  have l2 := mpl_le (t := t) h0 hV 2
  have e0 := mpl_eq hS hZ (p := 0) (by omega)
  have e1 := mpl_eq hS hZ (p := 1) (by omega)
  have e2 := mpl_eq hS hZ (p := 2) (by omega)
  have e3 := hS.1
  rw [bX12_codeNow_0 _ (by omega) (by omega) (by omega) (by omega) (by omega) (by omega), e0, e1, e2, e3]
  rfl
theorem and31 {x : Int} (h : 0 ≤ x ∧ x < 2147483648) : bAnd x 31 = x % 32 := by
  obtain ⟨n, rfl⟩ := Int.eq_ofNat_of_zero_le h.1
  have := bAnd_N (a := n) (b := 31) (by omega) (by omega)
  rw [show ((31 : Nat) : Int) = 31 from rfl] at this
  rw [this, show (31 : Nat) = 2 ^ 5 - 1 from rfl, Nat.and_two_pow_sub_one_eq_mod]
  omega
/-- the reference's state becomes the one of a number -/
def dcd (g : Hp) (ly a b c : Int) : Hp := up (up (up (up g 86 12 ly) 95 0 a) 95 1 b) 95 2 c
theorem m_decode {g : Hp} {κ : Int → Int} {t : Int} {s : St} (h0 : 0 ≤ κ 0 ∧ κ 0 ≤ 5) (hV : SVd κ s) : EV 8 qX12_decode 0 [vR 86, vI (mco t s)] [] g = some (none, dcd g s.1 (mpl t s 0) (mpl t s 1) (mpl t s 2)) := by
  have := SVd_ly h0 hV
  have l0 := mpl_le (t := t) h0 hV 0
  have l1 := mpl_le (t := t) h0 hV 1
  have l2 := mpl_le (t := t) h0 hV 2
  have hm := mco_le (t := t) h0 hV
  rw [bX12_decode_0 _ _ (by omega) (by omega) (by omega) (by omega) (by omega), and31 (by omega)]
  unfold dcd mco
  rw [show (s.1 + 32 * (mpl t s 0 + 10 * mpl t s 1 + 100 * mpl t s 2)) % 32 = s.1 by omega, show (s.1 + 32 * (mpl t s 0 + 10 * mpl t s 1 + 100 * mpl t s 2)) / 32 % 10 = mpl t s 0 by omega, show (s.1 + 32 * (mpl t s 0 + 10 * mpl t s 1 + 100 * mpl t s 2)) / 320 % 10 = mpl t s 1 by omega, show (s.1 + 32 * (mpl t s 0 + 10 * mpl t s 1 + 100 * mpl t s 2)) / 3200 = mpl t s 2 by omega]
theorem ModC_dcd {g : Hp} {κ : Int → Int} {t : Int} (h : ModC g κ t) (ly a b c : Int) : ModC (dcd g ly a b c) κ t := ModC_pl (ModC_pl (ModC_pl (ModC_ly h ly) 0 a) 1 b) 2 c
theorem dcd_95 (g : Hp) (ly a b c : Int) {p : Int} (hp : 0 ≤ p ∧ p < 3) : dcd g ly a b c 95 p = if p = 0 then a else if p = 1 then b else c := by
  unfold dcd
  rcases (by omega : p = 0 ∨ p = 1 ∨ p = 2) with rfl | rfl | rfl <;> simp [up]
theorem ModS_dcd (g : Hp) (t : Int) (s : St) : ModS (dcd g s.1 (mpl t s 0) (mpl t s 1) (mpl t s 2)) t s := by
  refine ⟨by unfold dcd; rw [up_ne (by omega), up_ne (by omega), up_ne (by omega), up_eq], fun p p0 p1 pd => ?_⟩
  rw [dcd_95 _ _ _ _ _ ⟨p0, p1⟩]
  rcases (by omega : p = 0 ∨ p = 1 ∨ p = 2) with rfl | rfl | rfl <;> simp only [mpl, if_pos pd] <;> simp
theorem ModZ_dcd (g : Hp) (t : Int) (s : St) : ModZ (dcd g s.1 (mpl t s 0) (mpl t s 1) (mpl t s 2)) t := by
  intro p p0 p1 pd
  rw [dcd_95 _ _ _ _ _ ⟨p0, p1⟩]
  rcases (by omega : p = 0 ∨ p = 1 ∨ p = 2) with rfl | rfl | rfl <;> simp only [mpl, if_neg pd] <;> simp
def asP (g : Hp) (p : Int) : Int := if p < g 87 29 ∧ dnB (g 86 10) p then g 87 (33 + p) else 0
theorem m_as_it (g : Hp) (p : Int) (hp : 0 ≤ p ∧ p < 3) : EV 9 qX12_asNow 13 [vR 86, vI p] [] g = EV 9 qX12_asNow 13 [vR 86, vI (p + 1)] [] (up g 95 p (asP g p)) := by
  unfold asP
  rw [bX12_asNow_13, if_neg (by omega), bX12_asNow_18]
  by_cases c1 : g 87 29 ≤ p
  · rw [if_pos c1, bX12_asNow_57, bX12_asNow_58 _ _ _ _ hp (by omega), if_neg (by omega)]
  · rw [if_neg c1, bX12_asNow_34, m_has, bnd_some]
    show EV 9 qX12_asNow 42 _ [vI _, vI _, vR 95] g = _
    rw [bX12_asNow_42]
    by_cases d : dnB (g 86 10) p
    · rw [if_neg (b01_pos d), bX12_asNow_45 _ _ _ (by omega) (by omega), bX12_asNow_58 _ _ _ _ hp (by omega), if_pos ⟨by omega, d⟩]
    · rw [if_pos (b01_neg d), bX12_asNow_57, bX12_asNow_58 _ _ _ _ hp (by omega), if_neg (fun z => d z.2)]
theorem m_asNow (g : Hp) : EV 9 qX12_asNow 0 [vR 86, vU] [] g = some (none, dcd g (g 87 21) (asP g 0) (asP g 1) (asP g 2)) := by
  have e : ∀ (p v : Int), asP (up g 86 12 v) p = asP g p := fun p v => by
    simp [asP, up]
  have e2 : ∀ (h : Hp) (i p v : Int), asP (up h 95 i v) p = asP h p := fun h i p v => by
    simp [asP, up]
  rw [bX12_asNow_0, m_as_it _ _ (by omega), show (0 : Int) + 1 = 1 from rfl, m_as_it _ _ (by omega), show (1 : Int) + 1 = 2 from rfl, m_as_it _ _ (by omega), bX12_asNow_13, if_pos (by omega), bX12_asNow_65]
  rw [e2, e2, e2, e, e, e]
  rfl
