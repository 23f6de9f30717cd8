/-! looking ahead: the class's trial Fort, the reference's layout -/
theorem c_trial {g : Hp} {φ : Int → Int} (hI : FI φ) (hC : ClsF g 1 φ) : ∃ g1, EV 9 qX2_take 0 [vR 20, vR 1] [] g = some (none, g1) ∧ ClsF g1 20 φ ∧ ∀ a : Nat, (a < 20 ∨ 38 < a) → g1 a = g a := by
  obtain ⟨g1, a1, a2, a3⟩ := c_take hF1 hF20 (by omega) g
  exact ⟨g1, a1, a2.cls hI hC, fun a ha => a3 a (by omega)⟩
theorem frT_of {g g1 : Hp} (h : ∀ a : Nat, (a < 20 ∨ 38 < a) → g1 a = g a) : frT g g1 := fun a a1 _ => h a (by omega)
theorem c_stepsNow {g : Hp} {φ : Int → Int} (hI : FI φ) (hC : ClsF g 1 φ) (sm room : Int) (hr : room ≠ -1) : ∃ r g', EV 14 qX11_stepsNow 0 [vR 0, vI sm, vI room] [] g = some (some (vI r), g') ∧ frT g g' ∧ (r = if DS φ (stF φ) sm room < 100000 then DS φ (stF φ) sm room else -1) ∧ (r ≠ -1 → ∃ (k : Nat) (Q' : Qu), g' 83 4 = (k : Int) ∧ ClsQ g' Q' ∧ QI φ (stF φ) Q' ∧ Q' <+: qF φ (stF φ) ∧ k < Q'.length ∧ aIn φ (qE (qF φ (stF φ)) k).1 sm room ∧ (∀ i, i < k → ¬ aIn φ (qE (qF φ (stF φ)) i).1 sm room) ∧ r = ((qE (qF φ (stF φ)) k).2.2.1 : Int)) := by
  have kI := KI_F hI
  have sV := SVd_F hI
  obtain ⟨g1, a1, a2, a3⟩ := c_trial hI hC
  obtain ⟨r, g', b1, b2, b3, b4, b5⟩ := c_shorter kI (SVd_ly kI.1 sV) sV (ClsK_F hI a2) sm room (-1) (Or.inl rfl)
  refine ⟨r, g', ?_, (frT_of a3).trans b2.T, ?_, b5 hr⟩
  · rw [bX11_stepsNow_0, a1, bnd_some]
    show EV 14 qX11_stepsNow 11 _ [] _ = _
    rw [bX11_stepsNow_11, b1, bnd_some]
    exact bX11_stepsNow_25 _ _ _ _
  · have := b4 hr
    rw [if_pos rfl] at this
    exact this
theorem c_lyingsNow {g : Hp} {φ : Int → Int} (hI : FI φ) (hC : ClsF g 1 φ) : ∃ g', EV 14 qX11_lyingsNow 0 [vR 0] [] g = some (some (vI (lyS (qF φ (stF φ)))), g') ∧ frT g g' ∧ g' 83 2 = ((qF φ (stF φ)).length : Int) := by
  have kI := KI_F hI
  have sV := SVd_F hI
  obtain ⟨g1, a1, a2, a3⟩ := c_trial hI hC
  obtain ⟨r, g', b1, b2, b3, b4, b5⟩ := c_shorter kI (SVd_ly kI.1 sV) sV (ClsK_F hI a2) 0 (-1) (-1) (Or.inl rfl)
  have q := b3 rfl rfl
  refine ⟨g', ?_, (frT_of a3).trans b2.T, q.1⟩
  rw [bX11_lyingsNow_0, a1, bnd_some]
  show EV 14 qX11_lyingsNow 11 _ [] _ = _
  rw [bX11_lyingsNow_11, b1, bnd_some]
  show EV 14 qX11_lyingsNow 25 _ [vI _] _ = _
  rw [bX11_lyingsNow_25, q.2.2.1]
theorem m_allLyings {g : Hp} (hI : FI (rg g 0)) : ∃ g', EV 12 qX12_allLyings 0 [vR 86] [] g = some (some (vI (lyS (qF (rg g 0) (stF (rg g 0))))), g') ∧ frS g g' ∧ ModC g' (rg g 0) (tF (g 87 29)) ∧ ModQ g' (tF (g 87 29)) (qF (rg g 0) (stF (rg g 0))) := by
  have kI := KI_F hI
  have sV := SVd_F hI
  have h22 := hI.2.2.2.1
  have h29 := hI.2.2.2.2.2.2.1
  rw [rg0] at h22 h29
  obtain ⟨g1, a1, a2⟩ := m_layNow g h22 h29
  obtain ⟨g2, b1, b2, b3, b4⟩ := m_goAll kI sV (a2.modC hI) (a2.modN hI)
  refine ⟨g2, ?_, a2.S.trans b4.S, b2, b3⟩
  rw [bX12_allLyings_0, a1, bnd_some]
  show EV 12 qX12_allLyings 4 _ [] _ = _
  rw [bX12_allLyings_4, b1, bnd_some]
  show EV 12 qX12_allLyings 8 _ [] _ = _
  rw [bX12_allLyings_8, m_lyings kI (QI_F kI sV) b3, bnd_some]
  exact bX12_allLyings_12 _ _
theorem c_isAmong (g : Hp) (x y : Int) : EV 8 qX11_isAmong 0 [vI x, vI y] [] g = some (some (vI (b01 (dnB x y))), g) := by
  simp (disch := first | omega | exact b01_or _) only [bX11_isAmong_0, bX11_isAmong_9, bX11_isAmong_13, bX11_isAmong_14]
  unfold b01
  split <;> rfl
theorem bit01 (x : Int) : bAnd x 1 = 0 ∨ bAnd x 1 = 1 := by
  unfold bAnd
  have e : (Int32.ofInt x &&& Int32.ofInt 1) = 0 ∨ (Int32.ofInt x &&& Int32.ofInt 1) = 1 := by
    have q : (Int32.ofInt x &&& Int32.ofInt 1).toBitVec = (Int32.ofInt x).toBitVec &&& BitVec.twoPow 32 0 := by
      rw [Int32.toBitVec_and]
      rfl
    rw [BitVec.and_twoPow] at q
    cases h : (Int32.ofInt x).toBitVec.getLsbD 0
    · rw [h] at q
      left
      exact Int32.toBitVec_inj.mp q
    · rw [h] at q
      right
      exact Int32.toBitVec_inj.mp q
  rcases e with e | e
  · rw [e]; left; decide
  · rw [e]; right; decide
theorem bit01e (x y : Int) : bAnd (bShr x y) 1 = b01 (dnB x y) := by
  unfold b01 dnB
  rcases bit01 (bShr x y) with e | e
  · rw [e]; decide
  · rw [e]; decide
theorem o_can {g : Hp} {n : Int} (hR : Rel g n) (hn : n < 1000) (x : Int) : Opk g n (EV 15 qX11_can 0 [vR 0, vI x] []) (EV 13 qX12_can 0 [vR 86, vI x] []) := by
  have c7 := hR.c7 (by omega)
  obtain ⟨b1, b2, b3, b4⟩ := hR.b0
  have hI := hR.1.1
  have hpw := pw2_le b1
  have hpos := pw2_pos (n := g 87 0)
  by_cases ok : 0 ≤ x ∧ x ≤ pw2 (g 87 0) - 1
  · obtain ⟨g1, a1, a2, a3⟩ := c_lyingsNow hI hR.1.2
    have e87 : g1 87 = g 87 := a2 87 (by omega) (by omega)
    have erg : rg g1 0 = rg g 0 := by unfold rg; rw [e87]
    obtain ⟨g2, d1, d2, d3, d4⟩ := m_allLyings (g := g1) (by rw [erg]; exact hI)
    rw [erg] at d1
    refine Opk.ro hR (vI (b01 (dnB (lyS (qF (rg g 0) (stF (rg g 0)))) x))) ?_ ?_ a2 d2
    · rw [bX11_can_0, c_areBridges hF1 _ _ (by omega), bnd_some, b2]
      show EV 15 qX11_can 8 _ [vI _] _ = _
      rw [bX11_can_8, if_neg (b01_pos ok), bX11_can_18, a1, bnd_some]
      show EV 15 qX11_can 22 _ [vI _] _ = _
      rw [bX11_can_22, c_isAmong, bnd_some]
      show EV 15 qX11_can 26 _ [vI _] _ = _
      rw [bX11_can_26, bX11_can_33, bX11_can_34, bX11_can_29, bX11_can_34]
      unfold b01
      by_cases z : dnB (lyS (qF (rg g 0) (stF (rg g 0)))) x
      · rw [if_pos z, if_neg (by omega)]
      · rw [if_neg z, if_pos rfl]
    · rw [bX12_can_0 _ _ (by rw [e87, shl1I (by omega)]; omega), e_in, bnd_some, e87, shl1I (by omega)]
      show EV 13 qX12_can 17 _ [vI _] _ = _
      rw [bX12_can_17, if_neg (b01_pos ok), bX12_can_20, d1, bnd_some]
      show EV 13 qX12_can 24 _ [vI _] _ = _
      rw [bX12_can_24, bX12_can_35]
      exact ans_eq (bit01e _ _)
  · refine Opk.no hR (-2) (by omega) (vI (-2)) ?_ ?_
    · rw [bX11_can_0, c_areBridges hF1 _ _ (by omega), bnd_some, b2]
      show EV 15 qX11_can 8 _ [vI _] _ = _
      rw [bX11_can_8, if_pos (b01_neg ok), bX11_can_11, c_counted _ _ c7, bnd_some]
      exact bX11_can_17 _ _ _
    · have k87 : ctH g (-2) 87 = g 87 := ctH_86 (by omega)
      rw [bX12_can_0 _ _ (by rw [k87, shl1I (by omega)]; omega), e_in, bnd_some, k87, shl1I (by omega)]
      show EV 13 qX12_can 17 _ [vI _] _ = _
      rw [bX12_can_17, if_pos (b01_neg ok), bX12_can_31, e_bad _ (hR.m9 (by omega) _), bnd_some]
      exact bX12_can_35 _ _ _
/-! the steps of a way -/
theorem c_between (g : Hp) {s s' : St} (h0 : (0 ≤ s.2.1 ∧ s.2.1 < 10) ∧ (0 ≤ s.2.2.1 ∧ s.2.2.1 < 10) ∧ (0 ≤ s.2.2.2 ∧ s.2.2.2 < 10) ∧ 0 ≤ pk s) (h1 : (0 ≤ s'.2.1 ∧ s'.2.1 < 10) ∧ (0 ≤ s'.2.2.1 ∧ s'.2.2.1 < 10) ∧ (0 ≤ s'.2.2.2 ∧ s'.2.2.2 < 10) ∧ 0 ≤ pk s') : EV 8 qX9_stepBetween 0 [vI (pk s), vI (pk s'), vU, vU, vU] [] g = some (some (vI (if s.2.2.2 = s'.2.2.2 then (if s.2.2.1 = s'.2.2.1 then (if s.2.1 = s'.2.1 then -1 else s'.2.1) else 10 + s'.2.2.1) else 20 + s'.2.2.2)), g) := by
  have a2 : pk s % 10 = s.2.2.2 := by unfold pk; omega
  have a1 : pk s / 10 % 10 = s.2.2.1 := by unfold pk; omega
  have a0 : pk s / 10 / 10 % 10 = s.2.1 := by unfold pk; omega
  have b2 : pk s' % 10 = s'.2.2.2 := by unfold pk; omega
  have b1 : pk s' / 10 % 10 = s'.2.2.1 := by unfold pk; omega
  have b0 : pk s' / 10 / 10 % 10 = s'.2.1 := by unfold pk; omega
  have it : ∀ (x y p : Int), 0 ≤ x → 0 ≤ y → 0 ≤ p → p < 3 → EV 8 qX9_stepBetween 7 [vI (pk s), vI (pk s'), vI x, vI y, vI p] [] g = if x % 10 = y % 10 then EV 8 qX9_stepBetween 7 [vI (pk s), vI (pk s'), vI (x / 10), vI (y / 10), vI (p + -1)] [] g else some (some (vI (10 * p + y % 10)), g) := fun x y p hx hy p0 p1 => by
    rw [bX9_stepBetween_7, if_neg (by omega), bX9_stepBetween_12 _ _ _ _ _ _ hx hy, bX9_stepBetween_34 _ _ _ _ _ _ hx hy (by omega), bX9_stepBetween_23 _ _ _ _ _ _ (by omega) hy (by omega)]
  have last : ∀ x y : Int, EV 8 qX9_stepBetween 7 [vI (pk s), vI (pk s'), vI x, vI y, vI (-1)] [] g = some (some (vI (-1)), g) := fun x y => by
    rw [bX9_stepBetween_7, if_pos (by omega), bX9_stepBetween_50]
  rw [bX9_stepBetween_0, it _ _ _ h0.2.2.2 h1.2.2.2 (by omega) (by omega), a2, b2, show (2 : Int) + -1 = 1 from rfl, it _ _ _ (by omega) (by omega) (by omega) (by omega), a1, b1, show (1 : Int) + -1 = 0 from rfl, it _ _ _ (by omega) (by omega) (by omega) (by omega), a0, b0, show (0 : Int) + -1 = -1 from rfl, last]
  by_cases x : s.2.2.2 = s'.2.2.2 <;> by_cases y : s.2.2.1 = s'.2.2.1 <;> by_cases z : s.2.1 = s'.2.1 <;> simp [x, y, z]
theorem go_between {κ : Int → Int} {s : St} {i to : Int} (hi : 0 ≤ i ∧ i < 3) (hc : aCan κ s i to) : (if s.2.2.2 = (aGo κ s i to).2.2.2 then (if s.2.2.1 = (aGo κ s i to).2.2.1 then (if s.2.1 = (aGo κ s i to).2.1 then -1 else (aGo κ s i to).2.1) else 10 + (aGo κ s i to).2.2.1) else 20 + (aGo κ s i to).2.2.2) = 10 * i + to := by
  have q0 := qa_go (κ := κ) (s := s) (i := i) (to := to) (j := 0) hi (by omega)
  have q1 := qa_go (κ := κ) (s := s) (i := i) (to := to) (j := 1) hi (by omega)
  have q2 := qa_go (κ := κ) (s := s) (i := i) (to := to) (j := 2) hi (by omega)
  have hne : qa s i ≠ to := by rcases hc with c | c <;> omega
  rw [qa_0, qa_0] at q0
  rw [qa_1, qa_1] at q1
  rw [qa_2, qa_2] at q2
  rw [q0, q1, q2]
  rcases (by omega : i = 0 ∨ i = 1 ∨ i = 2) with rfl | rfl | rfl
  · rw [qa_0] at hne
    simp [hne]
  · rw [qa_1] at hne
    simp [hne]
  · rw [qa_2] at hne
    simp [hne]
def pa (Q : Qu) : Nat → Nat → Nat
  | 0, k => k
  | j + 1, k => pa Q j (qE Q k).2.1
theorem QI_par {κ : Int → Int} (hI : KI κ) {s0 : St} {Q : Qu} (h : QI κ s0 Q) {k : Nat} (hk : k < Q.length) : (qE Q k).2.1 < Q.length ∧ (qE Q k).2.1 < 9000 ∧ (0 < (qE Q k).2.2.1 → 0 < k) ∧ (0 < k → (qE Q k).2.2.1 = (qE Q (qE Q k).2.1).2.2.1 + 1) ∧ (0 ≤ pk (qE Q k).1 ∧ pk (qE Q k).1 < 32000) := by
  have h9 := QI_len hI h
  have hp := Rch_pk hI (h.2.1 _ (mem_qSt.mpr ⟨k, hk, rfl⟩))
  by_cases e : k = 0
  · subst e
    rw [h.2.2.1.2] at hp ⊢
    refine ⟨hk, ?_, fun z => ?_, fun z => absurd z (by omega), hp.1⟩
    · show (0 : Nat) < 9000
      omega
    · exact absurd z (by show ¬ 0 < 0; omega)
  · have q := h.2.2.2 k (by omega) hk
    exact ⟨by omega, by omega, fun _ => by omega, fun _ => q.2.1, hp.1⟩
theorem c_stepOfWay {κ : Int → Int} (hI : KI κ) {s0 : St} {Q : Qu} (h : QI κ s0 Q) {g : Hp} (hC : ClsQ g Q) {k : Nat} (hk : k < Q.length) (h4 : g 83 4 = (k : Int)) {i : Nat} (hi : i < (qE Q k).2.2.1) : EV 9 qX9_stepOfWay 0 [vR 83, vI (i : Int), vI ((qE Q k).2.2.1 : Int), vU, vU] [] g = some (some (vI (qE Q (pa Q ((qE Q k).2.2.1 - 1 - i) k)).2.2.2), g) := by
  have h9 := QI_len hI h
  have i29 := hI.2.2.2.2.2.1
  have hd9 := QI_dep h k hk
  have loop : ∀ (j k' : Nat) (c : Int), k' < Q.length → (qE Q k').2.2.1 = i + 1 + j → j < 9000 → EV 9 qX9_stepOfWay 10 [vR 83, vI (i : Int), vI c, vI (k' : Int), vI ((i : Int) + (j : Int))] [] g = some (some (vI (qE Q (pa Q j k')).2.2.2), g) := by
    intro j
    induction j with
    | zero =>
      intro k' c hk' hd _
      obtain ⟨p1, p2, p3, p4, p5⟩ := QI_par hI h hk'
      obtain ⟨r1, r2, r3, r4, r5⟩ := QI_par hI h p1
      have kpos := p3 (by omega)
      obtain ⟨_, _, i', to', e1, e2, e3, e4, e5⟩ := h.2.2.2 k' kpos hk'
      have Rk := Rch_pk hI (h.2.1 _ (mem_qSt.mpr ⟨k', hk', rfl⟩))
      have Rp := Rch_pk hI (h.2.1 _ (mem_qSt.mpr ⟨_, p1, rfl⟩))
      rw [bX9_stepOfWay_10, if_pos (by omega), bX9_stepOfWay_28, c_before hC hk' h9 p2 p5, bnd_some]
      show EV 9 qX9_stepOfWay 34 _ [vI _, vR 83] _ = _
      rw [bX9_stepOfWay_34, c_stateAt hC p1 h9 r2 r5, bnd_some]
      show EV 9 qX9_stepOfWay 37 _ [vI _] _ = _
      rw [bX9_stepOfWay_37, c_stateAt hC hk' h9 p2 p5, bnd_some]
      show EV 9 qX9_stepOfWay 42 _ [vI _, vI _] _ = _
      rw [bX9_stepOfWay_42, c_between g ⟨Rp.2.2.1, Rp.2.2.2.1, Rp.2.2.2.2, Rp.1.1⟩ ⟨Rk.2.2.1, Rk.2.2.2.1, Rk.2.2.2.2, Rk.1.1⟩, bnd_some]
      show EV 9 qX9_stepOfWay 45 _ [vI _] _ = _
      rw [bX9_stepOfWay_45]
      refine ans_eq ?_
      rw [e5, go_between (by omega) e4]
      exact e3.symm
    | succ j ih =>
      intro k' c hk' hd hj
      obtain ⟨p1, p2, p3, p4, p5⟩ := QI_par hI h hk'
      have kpos := p3 (by omega)
      have := p4 kpos
      rw [bX9_stepOfWay_10, if_neg (by omega), bX9_stepOfWay_16, c_before hC hk' h9 p2 p5, bnd_some]
      show EV 9 qX9_stepOfWay 21 _ [vI _] _ = _
      rw [bX9_stepOfWay_21 _ _ _ _ _ _ (by omega), show (i : Int) + ((j + 1 : Nat) : Int) + -1 = (i : Int) + (j : Int) by omega]
      exact ih _ c p1 (by omega) (by omega)
  rw [bX9_stepOfWay_0 _ _ _ (by omega), h4]
  have := loop ((qE Q k).2.2.1 - 1 - i) k ((qE Q k).2.2.1 : Int) hk (by omega) (by omega)
  rw [show (i : Int) + (((qE Q k).2.2.1 - 1 - i : Nat) : Int) = ((qE Q k).2.2.1 : Int) - 1 by omega] at this
  exact this
theorem pa_pre {κ : Int → Int} (hI : KI κ) {s0 : St} {Q Q' : Qu} (h : QI κ s0 Q) (hp : Q <+: Q') : ∀ (j k : Nat), k < Q.length → qE Q' (pa Q' j k) = qE Q (pa Q j k) ∧ pa Q j k < Q.length := by
  intro j
  induction j with
  | zero => intro k hk; exact ⟨pre_lt hp hk, hk⟩
  | succ j ih =>
    intro k hk
    show qE Q' (pa Q' j (qE Q' k).2.1) = qE Q (pa Q j (qE Q k).2.1) ∧ pa Q j (qE Q k).2.1 < Q.length
    rw [pre_lt hp hk]
    exact ih _ (QI_par hI h hk).1
theorem m_wayLoop {κ : Int → Int} (hI : KI κ) {s0 : St} {t : Int} (hf : fullT t) {Q : Qu} (h : QI κ s0 Q) {g : Hp} (hM : ModQ g t Q) (sm room : Int) (i : Nat) (c : Int) : ∀ (j k : Nat), k < Q.length → (qE Q k).2.2.1 = i + 1 + j → j < 9000 → EV 13 qX12_way 90 [vR 86, vI sm, vI room, vI (i : Int), vI (mco t (qE Q k).1), vI c, vI ((i : Int) + (j : Int))] [] g = some (some (vI (qE Q (pa Q j k)).2.2.2), g) := by
  have k0 := hI.1
  intro j
  induction j with
  | zero =>
    intro k hk hd _
    obtain ⟨p1, p2, p3, p4, p5⟩ := QI_par hI h hk
    have kpos := p3 (by omega)
    obtain ⟨st, s1, s2, s3⟩ := hM.2.2.2.1 k kpos hk
    have hm := mco_le (t := t) k0 (h.2.1 _ (mem_qSt.mpr ⟨k, hk, rfl⟩)).1
    have hmp := mco_le (t := t) k0 (h.2.1 _ (mem_qSt.mpr ⟨_, p1, rfl⟩)).1
    rw [bX12_way_90, if_pos (by omega), bX12_way_114 _ _ _ _ _ _ _ hm (by omega), s2]
    refine ans_eq ?_
    have := s3 hf
    show _ = (qE Q k).2.2.2
    omega
  | succ j ih =>
    intro k hk hd hj
    obtain ⟨p1, p2, p3, p4, p5⟩ := QI_par hI h hk
    have kpos := p3 (by omega)
    have := p4 kpos
    have hdk := QI_dep h k hk
    have h9 := QI_len hI h
    obtain ⟨st, s1, s2, s3⟩ := hM.2.2.2.1 k kpos hk
    have hm := mco_le (t := t) k0 (h.2.1 _ (mem_qSt.mpr ⟨k, hk, rfl⟩)).1
    have hmp := mco_le (t := t) k0 (h.2.1 _ (mem_qSt.mpr ⟨_, p1, rfl⟩)).1
    rw [bX12_way_90, if_neg (by omega), bX12_way_96 _ _ _ _ _ _ _ hm (by omega) (by omega), s2, show (32 * mco t (qE Q (qE Q k).2.1).1 + st) / 32 = mco t (qE Q (qE Q k).2.1).1 by omega, show (i : Int) + ((j + 1 : Nat) : Int) + -1 = (i : Int) + (j : Int) by omega]
    exact ih _ p1 (by omega) (by omega)
theorem SmR_full {g : Hp} {w : Int} (hw : 0 ≤ w ∧ w ≤ 3) (h29 : g 87 29 = w) (sm : Int) : SmR g (tF w) sm sm := by
  intro p p0 p1
  have d := tF_dn hw ⟨p0, p1⟩
  rw [h29]
  constructor
  · rintro ⟨a, b⟩
    rw [tF_rk hw ⟨p0, p1⟩ a]
    exact ⟨d.mpr a, b⟩
  · rintro ⟨a, b⟩
    have a' := d.mp a
    rw [tF_rk hw ⟨p0, p1⟩ a'] at b
    exact ⟨a', b⟩
theorem m_areSome (g : Hp) (x : Int) (h : 0 ≤ g 87 29 ∧ g 87 29 ≤ 3) : EV 9 qX12_areSome 0 [vR 86, vI x] [] g = some (some (vI (b01 (0 ≤ x ∧ x ≤ pw2 (g 87 29) - 1))), g) := by
  have := pw2_le (n := g 87 29) (by omega)
  have := pw2_pos (n := g 87 29)
  rw [bX12_areSome_0 _ _ (by rw [shl1I (by omega)]; omega), e_in, bnd_some, shl1I (by omega)]
  exact bX12_areSome_18 _ _ _ (b01_or _)
theorem o_way {g : Hp} {n : Int} (hR : Rel g n) (hn : n < 1000) (sm room i : Int) : Opk g n (EV 15 qX11_way 0 [vR 0, vI sm, vI room, vI i, vU] []) (EV 13 qX12_way 0 [vR 86, vI sm, vI room, vI i, vU, vU, vU] []) := by
  have c7 := hR.c7 (by omega)
  obtain ⟨p1, p2, p3⟩ := hR.p29
  have hI := hR.1.1
  have kI := KI_F hI
  have sV := SVd_F hI
  by_cases ok : (0 ≤ sm ∧ sm ≤ pw2 (g 87 29) - 1) ∧ (0 ≤ room ∧ room ≤ 4) ∧ -1 ≤ i
  · obtain ⟨r, g1, a1, a2, a3, a4⟩ := c_stepsNow hI hR.1.2 sm room (by omega)
    have e87 : g1 87 = g 87 := a2 87 (by omega) (by omega)
    have erg : rg g1 0 = rg g 0 := by unfold rg; rw [e87]
    obtain ⟨g3, l1, l2⟩ := m_layNow g1 (by rw [e87]; exact hR.h22.1) (by rw [e87]; exact p1)
    have mC := l2.modC (by rw [erg]; exact hI)
    have mN := l2.modN (by rw [erg]; exact hI)
    rw [erg, e87] at mC mN
    have e29 : g3 87 29 = g 87 29 := by rw [l2.S.1 87 (by omega) (by omega), e87]
    obtain ⟨rm, g4, f1, f2, f3, f4, f5⟩ := m_findWay kI sV mC mN (SmR_full p1 e29 sm) room
    have hDS := DS_le kI (SVd_ly kI.1 sV) sV sm room
    have hQF := QI_F kI sV
    have h9 := QI_len kI hQF
    have cST : EV 15 qX11_way 0 [vR 0, vI sm, vI room, vI i, vU] [] g = EV 15 qX11_way 39 [vR 0, vI sm, vI room, vI i, vU] [vI r] g1 := by
      rw [bX11_way_0, c_areSome hF1 _ _ (by omega), bnd_some, p2]
      show EV 15 qX11_way 8 _ [vI _] _ = _
      rw [bX11_way_8, if_neg (b01_pos ok.1), bX11_way_11, c_isRoom, bnd_some]
      show EV 15 qX11_way 15 _ [vI _] _ = _
      rw [bX11_way_15, if_neg (b01_pos ok.2.1), bX11_way_18, if_pos ok.2.2, bX11_way_33, a1, bnd_some]
      rfl
    have mST : EV 13 qX12_way 0 [vR 86, vI sm, vI room, vI i, vU, vU, vU] [] g1 = EV 13 qX12_way 43 [vR 86, vI sm, vI room, vI i, vU, vU, vU] [vI rm] g4 := by
      rw [bX12_way_0, m_areSome _ _ (by rw [e87]; exact p1), bnd_some, e87]
      show EV 13 qX12_way 5 _ [vI _] _ = _
      rw [bX12_way_5, if_neg (b01_pos ok.1), bX12_way_8, e_isRoom, bnd_some]
      show EV 13 qX12_way 12 _ [vI _] _ = _
      rw [bX12_way_12, if_neg (b01_pos ok.2.1), bX12_way_15, if_pos ok.2.2, bX12_way_33, l1, bnd_some]
      show EV 13 qX12_way 37 _ [] _ = _
      rw [bX12_way_37, f1, bnd_some]
      rfl
    rcases f5 with ⟨k, k1, k2, k3, k4⟩ | ⟨k1, k2⟩
    · have d : DS (rg g 0) (stF (rg g 0)) sm room = ((qE (qF (rg g 0) (stF (rg g 0))) k).2.2.1 : Int) := dsL_first _ k k1 k2 k3
      have hd9 := QI_dep hQF k k1
      generalize hD : (qE (qF (rg g 0) (stF (rg g 0))) k).2.2.1 = D at *
      have hD9 : D < 9000 := by omega
      have er : r = (D : Int) := by
        rw [a3, d, if_pos (by omega)]
      have hm := mco_le (t := tF (g 87 29)) kI.1 (hQF.2.1 _ (mem_qSt.mpr ⟨k, k1, rfl⟩)).1
      have hst := m_stepsTo kI f2.2.2.2.2.2.2.1 hQF f3 (mco (tF (g 87 29)) (qE (qF (rg g 0) (stF (rg g 0))) k).1) k 0 k1 (by omega) (by omega)
      rw [hD, Int.zero_add] at hst
      have mST2 : EV 13 qX12_way 0 [vR 86, vI sm, vI room, vI i, vU, vU, vU] [] g1 = EV 13 qX12_way 58 [vR 86, vI sm, vI room, vI i, vI (mco (tF (g 87 29)) (qE (qF (rg g 0) (stF (rg g 0))) k).1), vU, vU] [vI (D : Int)] g4 := by
        rw [mST, bX12_way_43, if_pos (by omega), bX12_way_52, k4, bX12_stepsTo_0, hst, bnd_some]
        rfl
      by_cases i1 : i = -1
      · refine Opk.ro hR (vI (D : Int)) ?_ ?_ a2 (l2.S.trans f4.S)
        · rw [cST, bX11_way_39, if_neg (by omega), bX11_way_47, if_pos i1, bX11_way_52, er]
        · rw [mST2, bX12_way_58, if_pos i1, bX12_way_71, if_pos i1, bX12_way_76, bX12_way_83]
      · by_cases i2 : (D : Int) ≤ i
        · refine Opk.ro hR (vI (-5)) ?_ ?_ a2 (l2.S.trans f4.S)
          · rw [cST, bX11_way_39, if_neg (by omega), bX11_way_47, if_neg i1, bX11_way_55, if_pos (by omega), bX11_way_74, bX11_way_76]
          · rw [mST2, bX12_way_58, if_neg i1, bX12_way_65, if_neg (by omega), bX12_way_71, if_neg i1, bX12_way_81, bX12_way_83]
        · obtain ⟨k', Q', q1, q2, q3, q4, q5, q6, q7, q8⟩ := a4 (by omega)
          have ek : k' = k := by
            rcases Nat.lt_trichotomy k' k with z | z | z
            · exact absurd q6 (k3 k' z)
            · exact z
            · exact absurd k2 (q7 k z)
          subst ek
          obtain ⟨iN, hiN⟩ := Int.eq_ofNat_of_zero_le (show 0 ≤ i by omega)
          subst hiN
          have hEq := pre_lt q4 q5
          rw [hEq] at hD
          have sw := c_stepOfWay kI q3 q2 q5 q1 (i := iN) (by omega)
          rw [hD] at sw
          have pp := (pa_pre kI q3 q4 (D - 1 - iN) k' q5).1
          have mw := m_wayLoop kI (tF_full p1) hQF f3 sm room iN (D : Int) (D - 1 - iN) k' k1 (by rw [hEq, hD]; omega) (by omega)
          rw [pp, show (iN : Int) + ((D - 1 - iN : Nat) : Int) = (D : Int) - 1 by omega] at mw
          refine Opk.ro hR (vI (qE Q' (pa Q' (D - 1 - iN) k')).2.2.2) ?_ ?_ a2 (l2.S.trans f4.S)
          · rw [cST, bX11_way_39, if_neg (by omega), bX11_way_47, if_neg i1, bX11_way_55, if_neg (by omega), bX11_way_61, er, sw, bnd_some]
            show EV 15 qX11_way 71 _ [vI _] _ = _
            rw [bX11_way_71, bX11_way_76]
          · rw [mST2, bX12_way_58, if_neg i1, bX12_way_65, if_pos (by omega), bX12_way_84 _ _ _ _ _ _ (by omega), mw]
    · have d : DS (rg g 0) (stF (rg g 0)) sm room = 100000 := dsL_none _ k2
      have er : r = -1 := by rw [a3, d, if_neg (by omega)]
      refine Opk.ro hR (vI (-1)) ?_ ?_ a2 (l2.S.trans f4.S)
      · rw [cST, bX11_way_39, if_pos er, bX11_way_52, er]
      · rw [mST, bX12_way_43, if_neg (by omega), bX12_way_50]
  · refine Opk.no hR (-2) (by omega) (vI (-10)) ?_ ?_
    · have fin : EV 15 qX11_way 23 [vR 0, vI sm, vI room, vI i, vU] [] g = some (some (vI (-10)), ctH g (-2)) := by
        rw [bX11_way_23, c_counted _ _ c7, bnd_some]
        exact bX11_way_29 _ _ _ _ _
      rw [bX11_way_0, c_areSome hF1 _ _ (by omega), bnd_some, p2]
      show EV 15 qX11_way 8 _ [vI _] _ = _
      rw [bX11_way_8]
      by_cases o1 : 0 ≤ sm ∧ sm ≤ pw2 (g 87 29) - 1
      · rw [if_neg (b01_pos o1), bX11_way_11, c_isRoom, bnd_some]
        show EV 15 qX11_way 15 _ [vI _] _ = _
        rw [bX11_way_15]
        by_cases o2 : 0 ≤ room ∧ room ≤ 4
        · rw [if_neg (b01_pos o2), bX11_way_18, if_neg (fun z => ok ⟨o1, o2, z⟩), fin]
        · rw [if_pos (b01_neg o2), fin]
      · rw [if_pos (b01_neg o1), fin]
    · have k87 : ctH g (-2) 87 = g 87 := ctH_86 (by omega)
      have q := hR.m9 (by omega) (-2) 0 (by omega) (by omega)
      have fin : EV 13 qX12_way 20 [vR 86, vI sm, vI room, vI i, vU, vU, vU] [] (ctH g (-2)) = some (some (vI (-10)), metH (ctH g (-2)) (-2)) := by
        rw [bX12_way_20 _ _ _ _ (by omega)]
        rfl
      rw [bX12_way_0, m_areSome _ _ (by rw [k87]; exact p1), bnd_some, k87]
      show EV 13 qX12_way 5 _ [vI _] _ = _
      rw [bX12_way_5]
      by_cases o1 : 0 ≤ sm ∧ sm ≤ pw2 (g 87 29) - 1
      · rw [if_neg (b01_pos o1), bX12_way_8, e_isRoom, bnd_some]
        show EV 13 qX12_way 12 _ [vI _] _ = _
        rw [bX12_way_12]
        by_cases o2 : 0 ≤ room ∧ room ≤ 4
        · rw [if_neg (b01_pos o2), bX12_way_15, if_neg (fun z => ok ⟨o1, o2, z⟩), fin]
        · rw [if_pos (b01_neg o2), fin]
      · rw [if_pos (b01_neg o1), fin]
