/-! the reference: going through all, to the end; the fewest steps -/
theorem m_go_end (g : Hp) (k x : Int) (s : Int) (u4 : SV) (hw : 0 ≤ g 87 29 ∧ g 87 29 ≤ 3) (h : 10 * g 87 29 ≤ s) (hk : 0 ≤ k ∧ k < 32000) : EV 11 qX12_goAll 72 [vR 86, vI k, vI x, vI s, u4] [] g = EV 11 qX12_goAll 55 [vR 86, vI (k + 1), vI x, vI s, u4] [] g := by
  rw [bX12_goAll_72 _ _ _ _ _ (by omega), if_pos h, bX12_goAll_179 _ _ _ _ _ (by omega)]
theorem m_go_k {κ : Int → Int} (hI : KI κ) {s0 : St} (hx : 0 ≤ s0.1 ∧ s0.1 < 32) {t : Int} {k : Nat} {Q : Qu} {g : Hp} (hQ : QI κ s0 Q) (hk : k < Q.length) (hC : ModC g κ t) (hM : ModQ g t Q) (u2 u3 u4 : SV) : ∃ g' v2 v3 v4, EV 11 qX12_goAll 55 [vR 86, vI (k : Int), u2, u3, u4] [] g = EV 11 qX12_goAll 55 [vR 86, vI ((k + 1 : Nat) : Int), v2, v3, v4] [] g' ∧ ModC g' κ t ∧ ModQ g' t (qExp κ Q k) ∧ frH g g' := by
  have h9 := QI_len hI hQ
  have h29 := hC.2.2.2.2.1
  have h10 := hC.2.2.2.2.2.1
  have hcn := hC.2.2.2.2.2.2.1
  have hpp := hC.2.2.2.2.2.2.2
  have hfr : ∀ g' : Hp, frH g g' → g' 87 29 = g 87 29 := fun g' f => by rw [f.1 87 (by omega) (by omega) (by omega) (by omega)]
  have st : EV 11 qX12_goAll 55 [vR 86, vI (k : Int), u2, u3, u4] [] g = EV 11 qX12_goAll 72 [vR 86, vI (k : Int), vI (mco t (qE Q k).1), vI 0, u4] [] g := by
    rw [bX12_goAll_55, if_neg (by rw [hM.1]; omega), bX12_goAll_63 _ _ _ _ _ (by omega), hM.2.1 k hk]
  rw [st]
  unfold qExp
  rw [if_pos hk, ← candP_all hcn, qAll_app, qAll_app]
  have hnone : ∀ p, 0 ≤ p → p < 3 → g 87 29 ≤ p → candP κ t (qE Q k).1 p 10 = [] := fun p p0 p1 p2 => by
    unfold candP
    rw [if_neg (fun d => by have := (hpp p p0 p1 d).1; omega)]
  have hall : ∀ (p : Int) (Q' : Qu), 0 ≤ p → p < 3 → QI κ s0 Q' → k < Q'.length → qE Q' k = qE Q k → QI κ s0 (qAll k ((qE Q k).2.2.1 + 1) Q' (candP κ t (qE Q k).1 p 10)) ∧ k < (qAll k ((qE Q k).2.2.1 + 1) Q' (candP κ t (qE Q k).1 p 10)).length ∧ qE (qAll k ((qE Q k).2.2.1 + 1) Q' (candP κ t (qE Q k).1 p 10)) k = qE Q k := fun p Q' p0 p1 a b c => by
    have := QI_all hI hx (candP κ t (qE Q k).1 p 10) Q' a b (by
      rw [c]
      unfold candP
      split
      · have r := rk_le (t := t) (p := p)
        have r2 := rk_lt ⟨p0, p1⟩ ‹_›
        exact candI_CI (by omega) 10 (by omega)
      · intro c' hc'
        exact absurd hc' List.not_mem_nil)
    rw [c] at this
    exact ⟨this, Nat.lt_of_lt_of_le b (pre_len (qAll_pre _ _ _ _)), by rw [pre_lt (qAll_pre _ _ _ _) b, c]⟩
  have ec : (k : Int) + 1 = ((k + 1 : Nat) : Int) := by omega
  rcases (by omega : g 87 29 = 0 ∨ g 87 29 = 1 ∨ g 87 29 = 2 ∨ g 87 29 = 3) with e | e | e | e
  · rw [hnone 0 (by omega) (by omega) (by omega), hnone 1 (by omega) (by omega) (by omega), hnone 2 (by omega) (by omega) (by omega)]
    exact ⟨g, _, _, _, by rw [m_go_end _ _ _ _ _ h29 (by omega) (by omega), ec], hC, hM, frH.refl g⟩
  · rw [hnone 1 (by omega) (by omega) (by omega), hnone 2 (by omega) (by omega) (by omega)]
    obtain ⟨g1, v4, a1, a2, a3, a4⟩ := m_go_p hI hx (t := t) (k := k) (s := (qE Q k).1) (p := 0) (by omega) 10 Q g u4 (by omega) hQ hk rfl hC hM (by omega)
    have w1 := hfr g1 a4
    rw [show 10 * (0 : Int) + (10 - ((10 : Nat) : Int)) = 0 from rfl] at a1
    exact ⟨g1, _, _, _, by rw [a1, m_go_end _ _ _ _ _ (by omega) (by omega) (by omega), ec], a2, a3, a4⟩
  · rw [hnone 2 (by omega) (by omega) (by omega)]
    obtain ⟨g1, v4, a1, a2, a3, a4⟩ := m_go_p hI hx (t := t) (k := k) (s := (qE Q k).1) (p := 0) (by omega) 10 Q g u4 (by omega) hQ hk rfl hC hM (by omega)
    have w1 := hfr g1 a4
    obtain ⟨y1, y2, y3⟩ := hall 0 Q (by omega) (by omega) hQ hk rfl
    obtain ⟨g2, x4, b1, b2, b3, b4⟩ := m_go_p hI hx (t := t) (k := k) (s := (qE Q k).1) (p := 1) (by omega) 10 _ g1 v4 (by omega) y1 y2 (by rw [y3]) a2 a3 (by omega)
    have w2 := hfr g2 (a4.trans b4)
    rw [y3] at b3
    rw [show 10 * (0 : Int) + (10 - ((10 : Nat) : Int)) = 0 from rfl] at a1
    rw [show 10 * (1 : Int) + (10 - ((10 : Nat) : Int)) = 10 * (0 + 1) from rfl] at b1
    exact ⟨g2, _, _, _, by rw [a1, b1, m_go_end _ _ _ _ _ (by omega) (by omega) (by omega), ec], b2, b3, a4.trans b4⟩
  · obtain ⟨g1, v4, a1, a2, a3, a4⟩ := m_go_p hI hx (t := t) (k := k) (s := (qE Q k).1) (p := 0) (by omega) 10 Q g u4 (by omega) hQ hk rfl hC hM (by omega)
    have w1 := hfr g1 a4
    obtain ⟨y1, y2, y3⟩ := hall 0 Q (by omega) (by omega) hQ hk rfl
    obtain ⟨g2, x4, b1, b2, b3, b4⟩ := m_go_p hI hx (t := t) (k := k) (s := (qE Q k).1) (p := 1) (by omega) 10 _ g1 v4 (by omega) y1 y2 (by rw [y3]) a2 a3 (by omega)
    have w2 := hfr g2 (a4.trans b4)
    rw [y3] at b3
    obtain ⟨z1, z2, z3⟩ := hall 1 _ (by omega) (by omega) y1 y2 y3
    obtain ⟨g3, q4, c1, c2, c3, c4⟩ := m_go_p hI hx (t := t) (k := k) (s := (qE Q k).1) (p := 2) (by omega) 10 _ g2 x4 (by omega) z1 z2 (by rw [z3]) b2 b3 (by omega)
    have w3 := hfr g3 ((a4.trans b4).trans c4)
    rw [z3] at c3
    rw [show 10 * (0 : Int) + (10 - ((10 : Nat) : Int)) = 0 from rfl] at a1
    rw [show 10 * (1 : Int) + (10 - ((10 : Nat) : Int)) = 10 * (0 + 1) from rfl] at b1
    rw [show 10 * (2 : Int) + (10 - ((10 : Nat) : Int)) = 10 * (1 + 1) from rfl] at c1
    exact ⟨g3, _, _, _, by rw [a1, b1, c1, m_go_end _ _ _ _ _ (by omega) (by omega) (by omega), ec], c2, c3, (a4.trans b4).trans c4⟩
theorem m_go_out {κ : Int → Int} (hI : KI κ) {s0 : St} (hx : 0 ≤ s0.1 ∧ s0.1 < 32) (hV : SVd κ s0) {t : Int} : ∀ (n k : Nat) (g : Hp) (u2 u3 u4 : SV), k + n = 9000 → ModC g κ t → ModQ g t (qRun κ s0 k) → ∃ g', EV 11 qX12_goAll 55 [vR 86, vI (k : Int), u2, u3, u4] [] g = some (none, g') ∧ ModC g' κ t ∧ ModQ g' t (qF κ s0) ∧ frH g g' := by
  intro n
  induction n with
  | zero =>
    intro k g u2 u3 u4 hn hC hM
    have h9 := QI_len hI (QI_run hI hx hV k)
    refine ⟨g, ?_, hC, ?_, frH.refl g⟩
    · rw [bX12_goAll_55, if_pos (by rw [hM.1]; omega), bX12_goAll_185]
    · rw [← qF_stop (κ := κ) (s0 := s0) (k := k) (by omega) (by omega)]
      exact hM
  | succ n ih =>
    intro k g u2 u3 u4 hn hC hM
    by_cases e : k < (qRun κ s0 k).length
    · obtain ⟨g1, v2, v3, v4, a1, a2, a3, a4⟩ := m_go_k hI hx (QI_run hI hx hV k) e hC hM u2 u3 u4
      obtain ⟨g', b1, b2, b3, b4⟩ := ih (k + 1) g1 v2 v3 v4 (by omega) a2 a3
      exact ⟨g', by rw [a1, b1], b2, b3, a4.trans b4⟩
    · refine ⟨g, ?_, hC, ?_, frH.refl g⟩
      · rw [bX12_goAll_55, if_pos (by rw [hM.1]; omega), bX12_goAll_185]
      · rw [← qF_stop (κ := κ) (s0 := s0) (k := k) (by omega) (by omega)]
        exact hM
/-- cameBy is empty -/
def fl98 (g : Hp) (n : Int) : Hp := fun a i => if a = 98 ∧ 0 ≤ i ∧ i < n then -1 else g a i
theorem fl98_succ (g : Hp) (n : Int) (hn : 0 ≤ n) : up (fl98 g n) 98 n (-1) = fl98 g (n + 1) := by
  funext a i
  unfold up fl98
  by_cases ha : a = 98
  · subst ha
    by_cases hi : i = n
    · subst hi
      rw [if_pos ⟨rfl, rfl⟩, if_pos ⟨rfl, hn, by omega⟩]
    · rw [if_neg (fun h => hi h.2)]
      by_cases h2 : 0 ≤ i ∧ i < n
      · rw [if_pos ⟨rfl, h2⟩, if_pos ⟨rfl, by omega⟩]
      · rw [if_neg (fun h => h2 h.2), if_neg (fun h => by omega)]
  · rw [if_neg (fun h => ha h.1), if_neg (fun h => ha h.1), if_neg (fun h => ha h.1)]
theorem m_fl98 (g : Hp) : EV 11 qX12_goAll 0 [vR 86, vU, vU, vU, vU] [] g = EV 11 qX12_goAll 22 [vR 86, vI 32000, vU, vU, vU] [] (fl98 g 32000) := by
  have loop : ∀ (m : Nat) (n : Int), 0 ≤ n → n + m = 32000 → EV 11 qX12_goAll 2 [vR 86, vI n, vU, vU, vU] [] (fl98 g n) = EV 11 qX12_goAll 22 [vR 86, vI 32000, vU, vU, vU] [] (fl98 g 32000) := by
    intro m
    induction m with
    | zero =>
      intro n h0 hn
      rw [bX12_goAll_2, if_pos (by omega), show n = 32000 by omega]
    | succ m ih =>
      intro n h0 hn
      rw [bX12_goAll_2, if_neg (by omega), bX12_goAll_9 _ _ (by omega) (by omega), fl98_succ g n h0]
      exact ih (n + 1) (by omega) (by omega)
  rw [bX12_goAll_0]
  have h0 : g = fl98 g 0 := by
    funext a i
    unfold fl98
    rw [if_neg (by omega)]
  have := loop 32000 0 (by omega) (by omega)
  rw [← h0] at this
  exact this
/-- the state now, as the reference lays it -/
def ModN (g : Hp) (t : Int) (s0 : St) : Prop := g 87 21 = s0.1 ∧ ∀ p, 0 ≤ p → p < 3 → asP g p = mpl t s0 p
theorem m_goAll {κ : Int → Int} (hI : KI κ) {s0 : St} (hV : SVd κ s0) {t : Int} {g : Hp} (hC : ModC g κ t) (hN : ModN g t s0) : ∃ g', EV 11 qX12_goAll 0 [vR 86, vU, vU, vU, vU] [] g = some (none, g') ∧ ModC g' κ t ∧ ModQ g' t (qF κ s0) ∧ frH g g' := by
  have k0 := hI.1
  have hx := SVd_ly k0 hV
  have hm := mco_le (t := t) k0 hV
  have f1 : frH g (fl98 g 32000) := ⟨fun a _ _ a3 _ => by funext i; unfold fl98; rw [if_neg (fun z => a3 z.1)], fun i _ _ => by unfold fl98; rw [if_neg (by omega)]⟩
  have hC1 := hC.keep f1
  have hasP : ∀ p, asP (fl98 g 32000) p = asP g p := fun p => by
    unfold asP fl98
    simp
  have e21 : fl98 g 32000 87 21 = s0.1 := by
    unfold fl98
    rw [if_neg (by omega)]
    exact hN.1
  have eq1 : dcd (fl98 g 32000) (fl98 g 32000 87 21) (asP (fl98 g 32000) 0) (asP (fl98 g 32000) 1) (asP (fl98 g 32000) 2) = dcd (fl98 g 32000) s0.1 (mpl t s0 0) (mpl t s0 1) (mpl t s0 2) := by
    rw [e21, hasP, hasP, hasP, hN.2 0 (by omega) (by omega), hN.2 1 (by omega) (by omega), hN.2 2 (by omega) (by omega)]
  have hC2 := ModC_dcd hC1 s0.1 (mpl t s0 0) (mpl t s0 1) (mpl t s0 2)
  have hS2 := ModS_dcd (fl98 g 32000) t s0
  have hZ2 := ModZ_dcd (fl98 g 32000) t s0
  generalize hg2 : dcd (fl98 g 32000) s0.1 (mpl t s0 0) (mpl t s0 1) (mpl t s0 2) = g2 at *
  have f2 : frH (fl98 g 32000) g2 := by
    subst hg2
    refine ⟨fun a a1 a2 a3 a4 => ?_, fun i i1 i2 => ?_⟩
    · funext i
      unfold dcd
      rw [up_ne a2, up_ne a2, up_ne a2, up_ne a1]
    · unfold dcd
      rw [up_ne (by omega), up_ne (by omega), up_ne (by omega), up_nei i1]
  have h98 : g2 98 = fl98 g 32000 98 := by
    subst hg2
    funext i
    unfold dcd
    rw [up_ne (by omega), up_ne (by omega), up_ne (by omega), up_ne (by omega)]
  have st : EV 11 qX12_goAll 0 [vR 86, vU, vU, vU, vU] [] g = EV 11 qX12_goAll 55 [vR 86, vI 0, vU, vU, vU] [] (up (up (up g2 99 0 (mco t s0)) 98 (mco t s0) 0) 86 20 1) := by
    rw [m_fl98, bX12_goAll_22, m_asNow, bnd_some, eq1]
    show EV 11 qX12_goAll 26 _ [] _ = _
    rw [bX12_goAll_26, m_codeNow k0 hV hS2 hZ2, bnd_some]
    show EV 11 qX12_goAll 35 _ [vI _, vI 0, vR 99] _ = _
    rw [bX12_goAll_35 _ _ _ _ (by omega) (by rw [up_eq]; exact hm), up_eq]
  have f3 : frH g2 (up (up (up g2 99 0 (mco t s0)) 98 (mco t s0) 0) 86 20 1) := ⟨fun a a1 _ a3 a4 => by funext i; rw [up_ne a1, up_ne a3, up_ne a4], fun i _ i2 => by rw [up_nei i2, up_ne (by omega), up_ne (by omega)]⟩
  have hM : ModQ (up (up (up g2 99 0 (mco t s0)) 98 (mco t s0) 0) 86 20 1) t (qRun κ s0 0) := by
    refine ⟨by rw [up_eq]; rfl, fun k hk => ?_, ?_, fun k h0 hk => ?_, fun c c0 c1 hc => ?_⟩
    · have : k = 0 := by simp [qRun] at hk; omega
      subst this
      rw [up_ne (by omega), up_ne (by omega)]
      exact up_eq
    · rw [up_ne (by omega)]
      exact up_eq
    · simp [qRun] at hk
      omega
    · have h1 : mco t s0 ≠ c := hc 0 (by simp [qRun])
      rw [up_ne (by omega), up_nei (fun z => h1 z.symm), up_ne (by omega), h98]
      unfold fl98
      rw [if_pos ⟨rfl, c0, c1⟩]
  obtain ⟨g', a1, a2, a3, a4⟩ := m_go_out hI hx hV 9000 0 _ vU vU vU rfl (hC2.keep f3) hM
  exact ⟨g', by rw [st]; exact a1, a2, a3, ((f1.trans f2).trans f3).trans a4⟩
