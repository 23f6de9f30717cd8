/-! text: the reference reads, and the op -/
def Sto (g : Hp) : List (Int × (Int → Int)) → Int → Prop
  | [], _ => True
  | x :: xs, c => (0 ≤ x.1 ∧ x.1 ≤ 4) ∧ g 96 c = x.1 ∧ (∀ k : Int, 0 ≤ k → k < (cntW x.1 : Int) → g 97 (3 * c + k) = x.2 k) ∧ Sto g xs (c + 1)
theorem Sto.keep {g g' : Hp} (h96 : g' 96 = g 96) (h97 : g' 97 = g 97) : ∀ (l : List (Int × (Int → Int))) (c : Int), Sto g l c → Sto g' l c := by
  intro l
  induction l with
  | nil => intro c _; trivial
  | cons x xs ih =>
    intro c h
    refine ⟨h.1, ?_, ?_, ih (c + 1) h.2.2.2⟩
    · rw [h96]; exact h.2.1
    · rw [h97]; exact h.2.2.1
abbrev frP (g g' : Hp) (c : Int) : Prop := (∀ a : Nat, a ≠ 86 → a ≠ 96 → a ≠ 97 → g' a = g a) ∧ g' 86 3 = g 86 3 ∧ (∀ k, k < c → g' 96 k = g 96 k) ∧ (∀ k, k < 3 * c → g' 97 k = g 97 k)
theorem m_parse {b : Int → Int} {L : Int} (hL : L ≤ 200) (hb : ∀ k, 0 ≤ k → k < L → 0 ≤ b k ∧ b k ≤ 255) : ∀ (m : Nat) (c : Int) (g : Hp), g 89 = b → g 86 3 = L → 0 ≤ g 86 16 ∧ g 86 16 ≤ L → g 86 17 = -1 → g 86 15 = c → 0 ≤ c → 6 * c ≤ g 86 16 → L - sp b L (g 86 16) < m → ∃ g', EV 12 qX12_read 15 [vR 86, vU] [] g = EV 12 qX12_read 37 [vR 86, vU] [] g' ∧ frP g g' c ∧ g' 86 17 = (pA b L m (sp b L (g 86 16))).1 ∧ ((pA b L m (sp b L (g 86 16))).1 = -1 → g' 86 15 = c + (pA b L m (sp b L (g 86 16))).2.length ∧ 6 * (c + (pA b L m (sp b L (g 86 16))).2.length) ≤ L ∧ Sto g' (pA b L m (sp b L (g 86 16))).2 c) ∧ (-1 ≤ (pA b L m (sp b L (g 86 16))).1 ∧ (pA b L m (sp b L (g 86 16))).1 ≤ 200) := by
  intro m
  induction m with
  | zero => intro c g h89 h3 h16 h17 h15 c0 c6 hm; have := (sp_all (b := b) h16.2).2; omega
  | succ m ih =>
    intro c g h89 h3 h16 h17 h15 c0 c6 hm
    obtain ⟨s1, s2⟩ := sp_all (b := b) h16.2
    have hE := m_isEnd (L - g 86 16).toNat g (by omega) (by omega) (by omega)
    rw [h89, h3] at hE
    generalize hj : sp b L (g 86 16) = j at *
    generalize hg1 : up g 86 16 j = g1 at *
    have a3 : g1 86 3 = L := by subst hg1; rw [up_nei (by omega), h3]
    have a16 : g1 86 16 = j := by subst hg1; rw [up_eq]
    have a17 : g1 86 17 = -1 := by subst hg1; rw [up_nei (by omega), h17]
    have a15 : g1 86 15 = c := by subst hg1; rw [up_nei (by omega), h15]
    have ao : ∀ a : Nat, a ≠ 86 → g1 a = g a := fun a ha => by subst hg1; funext k; rw [up_ne ha]
    have st : EV 12 qX12_read 15 [vR 86, vU] [] g = if b01 (j = L) = 0 then EV 12 qX12_read 30 [vR 86, vU] [] g1 else EV 12 qX12_read 37 [vR 86, vU] [] g1 := by
      rw [bX12_read_15, if_pos h17, bX12_read_23, hE, bnd_some]
      exact bX12_read_27 _ _
    by_cases cL : j = L
    · have ep : pA b L (m + 1) j = (-1, []) := if_pos cL
      rw [ep]
      dsimp only
      refine ⟨g1, by rw [st, if_neg (b01_pos cL)], ⟨fun a y1 _ _ => ao a y1, by rw [a3, h3], fun k _ => by rw [ao 96 (by omega)], fun k _ => by rw [ao 97 (by omega)]⟩, a17, fun _ => ⟨?_, ?_, trivial⟩, by omega⟩
      · rw [a15]; exact (Int.add_zero c).symm
      · show 6 * (c + ((0 : Nat) : Int)) ≤ L; omega
    · obtain ⟨g2, t1, t2, t3⟩ := m_takeItem hL hb (by rw [ao 89 (by omega), h89]) a3 a16 (by omega) a17 a15 (by omega)
      have st2 : EV 12 qX12_read 15 [vR 86, vU] [] g = EV 12 qX12_read 15 [vR 86, vU] [] g2 := by
        rw [st, if_pos (b01_neg cL), bX12_read_30, t1, bnd_some]
        show EV 12 qX12_read 34 _ [] _ = _
        rw [bX12_read_34]
      have f2 : frP g g2 c := ⟨fun a y1 y2 y3 => by rw [t2.1 a y1 y2 y3, ao a y1], by rw [t2.2.1 3 (by omega) (by omega) (by omega), a3, h3], fun k hk => by rw [t2.2.2.2.1 k hk, ao 96 (by omega)], fun k hk => by rw [t2.2.2.2.2 k hk, ao 97 (by omega)]⟩
      rcases t3 with ⟨z1, z2, z3, z4, z5⟩ | ⟨z1, z2⟩
      · have ep : pA b L (m + 1) j = ((pA b L m (sp b L (itP b L j).2.1)).1, ((tok b L j).2.1, (itP b L j).2.2) :: (pA b L m (sp b L (itP b L j).2.1)).2) := (if_neg cL).trans (if_pos z1)
        have hi : j + 6 ≤ (itP b L j).2.1 ∧ (itP b L j).2.1 ≤ L ∧ (0 ≤ (tok b L j).2.1 ∧ (tok b L j).2.1 ≤ 4) := by
          rcases itP_le (b := b) (L := L) (j := j) (by omega) s2 with q | q
          · exact ⟨q.2.1, q.2.2.1, q.2.2.2.2⟩
          · omega
        have s' := sp_all (b := b) hi.2.1
        obtain ⟨g3, d1, d2, d3, d4, d5⟩ := ih (c + 1) g2 (by rw [f2.1 89 (by omega) (by omega) (by omega), h89]) (by rw [f2.2.1, h3]) (by rw [z3]; omega) z2 t2.2.2.1 (by omega) (by rw [z3]; omega) (by rw [z3]; omega)
        rw [z3] at d3 d4 d5
        rw [ep]
        dsimp only
        have eL : ∀ l : Nat, c + ((l + 1 : Nat) : Int) = c + 1 + (l : Int) := fun l => by omega
        rw [List.length_cons, eL]
        refine ⟨g3, by rw [st2, d1], ⟨fun a y1 y2 y3 => by rw [d2.1 a y1 y2 y3, f2.1 a y1 y2 y3], by rw [d2.2.1, f2.2.1], fun k hk => by rw [d2.2.2.1 k (by omega), f2.2.2.1 k hk], fun k hk => by rw [d2.2.2.2 k (by omega), f2.2.2.2 k hk]⟩, d3, fun z => ?_, d5⟩
        obtain ⟨q1, q2, q3⟩ := d4 z
        refine ⟨q1, q2, hi.2.2, by rw [d2.2.2.1 c (by omega)]; exact z4, fun k k0 k1 => ?_, q3⟩
        have k1' : k < (cntW (tok b L j).2.1 : Int) := k1
        have : (cntW (tok b L j).2.1 : Int) ≤ 3 := by unfold cntW; split <;> omega
        rw [d2.2.2.2 (3 * c + k) (by omega)]
        exact z5 k k0 k1
      · have ep : pA b L (m + 1) j = ((itP b L j).1, []) := (if_neg cL).trans (if_neg z1)
        have hi : 0 ≤ (itP b L j).1 ∧ (itP b L j).1 ≤ L := by
          rcases itP_le (b := b) (L := L) (j := j) (by omega) s2 with q | q
          · exact absurd q.1 z1
          · exact q
        rw [ep]
        dsimp only
        exact ⟨g2, by rw [st2, bX12_read_15, if_neg (by rw [z2]; exact z1)], f2, z2, fun z => absurd z z1, by omega⟩
theorem m_zero : ∀ (m : Nat) (x : Int) (g : Hp), 0 ≤ x → x + m = 110 → ∃ (g' : Hp) (u : Int), EV 12 qX12_read 55 [vR 86, vI x] [] g = EV 12 qX12_read 78 [vR 86, vI u] [] g' ∧ (∀ k, x ≤ k → k < 110 → g' 87 (330 + k) = 0) ∧ (∀ k, ¬ (330 + x ≤ k ∧ k < 440) → g' 87 k = g 87 k) ∧ ∀ a : Nat, a ≠ 87 → g' a = g a := by
  intro m
  induction m with
  | zero =>
    intro x g x0 x1
    exact ⟨g, x, by rw [bX12_read_55, if_pos (by omega)], fun k _ _ => by omega, fun _ _ => rfl, fun _ _ => rfl⟩
  | succ m ih =>
    intro x g x0 x1
    obtain ⟨g', u, a1, a2, a3, a4⟩ := ih (x + 1) (up g 87 (330 + x) 0) (by omega) (by omega)
    refine ⟨g', u, by rw [bX12_read_55, if_neg (by omega), bX12_read_61 _ _ (by omega) (by omega) (by omega), a1], fun k k0 k1 => ?_, fun k hk => ?_, fun a ha => ?_⟩
    · by_cases e : k = x
      · rw [e, a3 (330 + x) (by omega), up_eq]
      · exact a2 k (by omega) k1
    · rw [a3 k (by omega), up_nei (by omega)]
    · rw [a4 a ha]; funext i; rw [up_ne ha]
theorem tA_neg : ∀ (l : List (Int × (Int → Int))) (φ : Int → Int) (c : Int), 0 ≤ c → -1 ≤ (tA l φ c).1 ∧ (tA l φ c).1 < c + l.length := by
  intro l
  induction l with
  | nil => intro φ c hc; exact ⟨Int.le_refl _, by show (-1 : Int) < c + ((0 : Nat) : Int); omega⟩
  | cons x xs ih =>
    intro φ c hc
    rw [List.length_cons]
    show -1 ≤ (if (tellF φ x.1 x.2).1 < 0 then (c, φ) else tA xs (tellF φ x.1 x.2).2 (c + 1)).1 ∧ (if (tellF φ x.1 x.2).1 < 0 then (c, φ) else tA xs (tellF φ x.1 x.2).2 (c + 1)).1 < _
    by_cases z : (tellF φ x.1 x.2).1 < 0
    · rw [if_pos z]
      show -1 ≤ c ∧ c < _
      omega
    · rw [if_neg z]
      have := ih (tellF φ x.1 x.2).2 (c + 1) (by omega)
      omega
theorem m_tells : ∀ (l : List (Int × (Int → Int))) (φ : Int → Int) (x : Int) (g : Hp), FI φ → rg g 330 = φ → 0 ≤ x → x + l.length = g 86 15 → g 86 15 < 40 → Sto g l x → ∃ g', frR g g' ∧ (((tA l φ x).1 = -1 ∧ EV 12 qX12_read 80 [vR 86, vI x] [] g = EV 12 qX12_read 108 [vR 86, vI (x + l.length)] [] g' ∧ rg g' 330 = (tA l φ x).2) ∨ ((tA l φ x).1 ≠ -1 ∧ EV 12 qX12_read 80 [vR 86, vI x] [] g = some (some (vI (-1000 - (tA l φ x).1)), g'))) := by
  intro l
  induction l with
  | nil =>
    intro φ x g hI hφ x0 hx h40 hS
    have e0 : x + ((([] : List (Int × (Int → Int))).length : Nat) : Int) = x := Int.add_zero x
    rw [e0] at hx ⊢
    exact ⟨g, ⟨fun _ _ => rfl, fun _ _ => rfl⟩, Or.inl ⟨rfl, by rw [bX12_read_80, if_pos (by omega)], hφ⟩⟩
  | cons y ys ih =>
    intro φ x g hI hφ x0 hx h40 hS
    rw [List.length_cons] at hx ⊢
    obtain ⟨g1, a1, a2, a3⟩ := m_tellItem hI hφ hS.1 (x := x) (by omega) hS.2.1 hS.2.2.1
    have et : tA (y :: ys) φ x = if (tellF φ y.1 y.2).1 < 0 then (x, φ) else tA ys (tellF φ y.1 y.2).2 (x + 1) := rfl
    have st : EV 12 qX12_read 80 [vR 86, vI x] [] g = if 0 ≤ (tellF φ y.1 y.2).1 then EV 12 qX12_read 102 [vR 86, vI x] [] g1 else EV 12 qX12_read 96 [vR 86, vI x] [] g1 := by
      rw [bX12_read_80, if_neg (by omega), bX12_read_88, a1, bnd_some]
      exact bX12_read_93 _ _ _
    rw [et, st]
    by_cases z : (tellF φ y.1 y.2).1 < 0
    · rw [if_pos z, if_neg (by omega), bX12_read_96 _ _ (by omega)]
      exact ⟨g1, a3, Or.inr ⟨by show x ≠ -1; omega, rfl⟩⟩
    · rw [if_neg z, if_pos (by omega), bX12_read_102 _ _ (by omega)]
      obtain ⟨g2, d1, d2⟩ := ih (tellF φ y.1 y.2).2 (x + 1) g1 (tellF_FI hI _ _) a2 (by omega) (by rw [a3.1 86 (by omega)]; omega) (by rw [a3.1 86 (by omega)]; exact h40) (Sto.keep (a3.1 96 (by omega)) (a3.1 97 (by omega)) ys (x + 1) hS.2.2.2)
      rw [show x + 1 + (ys.length : Int) = x + ((ys.length + 1 : Nat) : Int) by omega] at d2
      exact ⟨g2, ⟨fun a ha => by rw [d1.1 a ha, a3.1 a ha], fun k hk => by rw [d1.2 k hk, a3.2 k hk]⟩, d2⟩
/-- what the reference's reading leaves as it was -/
abbrev frZ (g g' : Hp) : Prop := (∀ a : Nat, a ≠ 86 → a ≠ 87 → a ≠ 96 → a ≠ 97 → g' a = g a) ∧ g' 86 3 = g 86 3 ∧ ∀ k, 110 ≤ k → k < 330 → g' 87 k = g 87 k
theorem m_read {g : Hp} {b φ : Int → Int} {L : Int} (hL : 0 ≤ L ∧ L ≤ 200) (hb : ∀ k, 0 ≤ k → k < L → 0 ≤ b k ∧ b k ≤ 255) (h89 : g 89 = b) (h3 : g 86 3 = L) (hφ : φ = fun k => if 0 ≤ k ∧ k < 110 then 0 else g 87 (330 + k)) : ∃ g', EV 12 qX12_read 0 [vR 86, vU] [] g = some (some (vI (ansR (rdF b L).1 (tA (rdF b L).2 φ 0).1 (rdF b L).2.length)), g') ∧ frZ g g' ∧ (¬ ((rdF b L).1 = -1 ∧ (tA (rdF b L).2 φ 0).1 = -1) → ∀ k, k < 330 → g' 87 k = g 87 k) ∧ ((rdF b L).1 = -1 → (tA (rdF b L).2 φ 0).1 = -1 → ∀ k, 0 ≤ k → k < 110 → g' 87 k = (tA (rdF b L).2 φ 0).2 k) := by
  generalize hg0 : up (up (up g 86 16 0) 86 15 0) 86 17 (-1) = g0
  have a3 : g0 86 3 = L := by subst hg0; rw [up_nei (by omega), up_nei (by omega), up_nei (by omega), h3]
  have a16 : g0 86 16 = 0 := by subst hg0; rw [up_nei (by omega), up_nei (by omega), up_eq]
  have a15 : g0 86 15 = 0 := by subst hg0; rw [up_nei (by omega), up_eq]
  have a17 : g0 86 17 = -1 := by subst hg0; rw [up_eq]
  have ao : ∀ a : Nat, a ≠ 86 → g0 a = g a := fun a ha => by subst hg0; funext i; rw [up_ne ha, up_ne ha, up_ne ha]
  obtain ⟨s1, s2⟩ := sp_all (b := b) hL.1
  obtain ⟨g1, p1, p2, p3, p4, p5⟩ := m_parse hL.2 hb 201 0 g0 (by rw [ao 89 (by omega), h89]) a3 (by omega) a17 a15 (by omega) (by omega) (by rw [a16]; omega)
  rw [a16] at p3 p4 p5
  have er : pA b L 201 (sp b L 0) = rdF b L := rfl
  rw [er] at p3 p4 p5
  have fP : ∀ a : Nat, a ≠ 86 → a ≠ 96 → a ≠ 97 → g1 a = g a := fun a y1 y2 y3 => by rw [p2.1 a y1 y2 y3, ao a y1]
  have e3 : g1 86 3 = g 86 3 := by rw [p2.2.1, a3, h3]
  generalize hr : rdF b L = r at *
  by_cases f : r.1 = -1
  · obtain ⟨q1, q2, q3⟩ := p4 f
    rw [Int.zero_add] at q1 q2
    obtain ⟨g2, u, z1, z2, z3, z4⟩ := m_zero 110 0 g1 (by omega) (by omega)
    have h87 : g1 87 = g 87 := fP 87 (by omega) (by omega) (by omega)
    have rφ : rg g2 330 = φ := by
      rw [hφ]
      funext k
      rw [rg_at]
      by_cases c : 0 ≤ k ∧ k < 110
      · rw [if_pos c]; exact z2 k c.1 c.2
      · rw [if_neg c, z3 (330 + k) (by omega), h87]
    have hI : FI φ := FI_congr (fun k k0 k1 => by rw [hφ]; show (if 0 ≤ k ∧ k < 110 then 0 else _) = _; rw [if_pos ⟨k0, k1⟩]) FI_zero
    obtain ⟨g3, t1, t2⟩ := m_tells r.2 φ 0 g2 hI rφ (by omega) (by rw [z4 86 (by omega), q1]; omega) (by rw [z4 86 (by omega), q1]; omega) (Sto.keep (z4 96 (by omega)) (z4 97 (by omega)) _ _ q3)
    rw [Int.zero_add] at t2
    have st : EV 12 qX12_read 0 [vR 86, vU] [] g = EV 12 qX12_read 80 [vR 86, vI 0] [] g2 := by
      rw [bX12_read_0, hg0, p1, bX12_read_37, if_pos (by rw [p3]; exact f), bX12_read_53, z1, bX12_read_78]
    have lo : ∀ k, k < 330 → g3 87 k = g 87 k := fun k hk => by rw [t1.2 k hk, z3 k (by omega), h87]
    have fo : ∀ a : Nat, a ≠ 86 → a ≠ 87 → a ≠ 96 → a ≠ 97 → g3 a = g a := fun a y1 y2 y3 y4 => by rw [t1.1 a y2, z4 a y2, fP a y1 y3 y4]
    have e33 : g3 86 3 = g 86 3 := by rw [t1.1 86 (by omega), z4 86 (by omega), e3]
    rw [st, f]
    rcases t2 with ⟨w1, w2, w3⟩ | ⟨w1, w2⟩
    · rw [w1, ans1, w2, bX12_read_108, e_copy _ _ _ (by omega) (by omega) (by omega), bnd_some]
      refine ⟨cpW g3 330 0 110, ?_, ⟨fun a y1 y2 y3 y4 => by rw [cpW_o _ _ _ y2, fo a y1 y2 y3 y4], by rw [cpW_o _ _ _ (by omega), e33], fun k k0 k1 => by rw [cpW_out _ (by omega), lo k k1]⟩, fun z => absurd ⟨rfl, rfl⟩ z, fun _ _ k k0 k1 => ?_⟩
      · show EV 12 qX12_read 116 _ [] _ = _
        rw [bX12_read_116, cpW_o _ _ _ (by omega), t1.1 86 (by omega), z4 86 (by omega), q1]
      · rw [cpW_in _ (by omega), Int.sub_zero, ← w3, rg_at]
    · rw [ans2 w1, w2]
      exact ⟨g3, rfl, ⟨fo, e33, fun k _ k1 => lo k k1⟩, fun _ => lo, fun _ z => absurd z w1⟩
  · rw [ans3 f, bX12_read_0, hg0, p1, bX12_read_37, if_neg (by rw [p3]; exact f), bX12_read_45 _ (by rw [p3]; omega), p3]
    have h87 : g1 87 = g 87 := fP 87 (by omega) (by omega) (by omega)
    exact ⟨g1, rfl, ⟨fun a y1 _ y3 y4 => fP a y1 y3 y4, e3, fun k _ _ => by rw [h87]⟩, fun _ k _ => by rw [h87], fun z => absurd z f⟩
theorem o_read {g : Hp} {n : Int} (hR : Rel g n) (hN : N210 g) : Opk g n (EV 14 qX11_read 0 [vR 0, vU] []) (EV 12 qX12_read 0 [vR 86, vU] []) := by
  obtain ⟨rF, rI, ⟨x1, x2, x3⟩, rS⟩ := hR
  have hbm : ∀ k, 0 ≤ k → k < g 86 3 → 0 ≤ g 89 k ∧ g 89 k ≤ 255 := fun k k0 k1 => (x3 k k0 k1).2
  have hbc : ∀ k, 0 ≤ k → k < g 79 1 → 0 ≤ g 80 k ∧ g 80 k ≤ 255 := fun k k0 k1 => by
    have := x3 k k0 (by omega)
    omega
  obtain ⟨φ, hφ⟩ : ∃ φ : Int → Int, φ = fun k => if 0 ≤ k ∧ k < 110 then 0 else g 87 (330 + k) := ⟨_, rfl⟩
  have hφ0 : ∀ k, 0 ≤ k → k < 110 → φ k = 0 := fun k k0 k1 => by
    rw [hφ]
    show (if 0 ≤ k ∧ k < 110 then 0 else _) = _
    rw [if_pos ⟨k0, k1⟩]
  obtain ⟨g1, a1, a2, a3, a4⟩ := c_readInto (by omega) hbc hN φ hφ0
  have ecg : rdF (g 80) (g 79 1) = rdF (g 89) (g 86 3) := by
    rw [x1]
    exact rdF_cong x2.1 (fun k k0 k1 => (x3 k k0 k1).1)
  rw [ecg] at a1 a2
  have c0 : EV 14 qX11_read 0 [vR 0, vU] [] g = if ansR (rdF (g 89) (g 86 3)).1 (tA (rdF (g 89) (g 86 3)).2 φ 0).1 (rdF (g 89) (g 86 3)).2.length < 0 then EV 14 qX11_read 31 [vR 0, vI (ansR (rdF (g 89) (g 86 3)).1 (tA (rdF (g 89) (g 86 3)).2 φ 0).1 (rdF (g 89) (g 86 3)).2.length)] [] g1 else EV 14 qX11_read 20 [vR 0, vI (ansR (rdF (g 89) (g 86 3)).1 (tA (rdF (g 89) (g 86 3)).2 φ 0).1 (rdF (g 89) (g 86 3)).2.length)] [] g1 := by
    rw [bX11_read_0, a1, bnd_some]
    exact bX11_read_15 _ _
  have hneg := tA_neg (rdF (g 89) (g 86 3)).2 φ 0 (by omega)
  have hf : -1 ≤ (rdF (g 89) (g 86 3)).1 := by
    obtain ⟨s1, s2⟩ := sp_all (b := g 89) x2.1
    have all : ∀ (m : Nat) (j : Int), 0 ≤ j → j ≤ g 86 3 → -1 ≤ (pA (g 89) (g 86 3) m j).1 := by
      intro m
      induction m with
      | zero => intro j _ _; exact Int.le_refl _
      | succ m ih =>
        intro j j0 j1
        show -1 ≤ (if j = g 86 3 then ((-1 : Int), ([] : List (Int × (Int → Int)))) else if (itP (g 89) (g 86 3) j).1 = -1 then ((pA (g 89) (g 86 3) m (sp (g 89) (g 86 3) (itP (g 89) (g 86 3) j).2.1)).1, ((tok (g 89) (g 86 3) j).2.1, (itP (g 89) (g 86 3) j).2.2) :: (pA (g 89) (g 86 3) m (sp (g 89) (g 86 3) (itP (g 89) (g 86 3) j).2.1)).2) else ((itP (g 89) (g 86 3) j).1, [])).1
        have q := itP_le (b := g 89) j0 j1
        by_cases e0 : j = g 86 3
        · rw [if_pos e0]; exact Int.le_refl _
        · rw [if_neg e0]
          by_cases e1 : (itP (g 89) (g 86 3) j).1 = -1
          · rw [if_pos e1]
            have s' := sp_all (b := g 89) (L := g 86 3) (i := (itP (g 89) (g 86 3) j).2.1) (by omega)
            exact ih _ (by omega) s'.2
          · rw [if_neg e1]
            show -1 ≤ (itP (g 89) (g 86 3) j).1
            omega
    exact all 201 _ s1 s2
  generalize hr : rdF (g 89) (g 86 3) = r at *
  generalize ht : tA r.2 φ 0 = t at *
  by_cases ok : r.1 = -1 ∧ t.1 = -1
  · obtain ⟨hI, hC⟩ := a2 ok.1 ok.2
    have eans : ansR r.1 t.1 r.2.length = (r.2.length : Int) := by rw [ok.1, ok.2, ans1]
    obtain ⟨g2, b1, b2, b3⟩ := c_take hF20 hF1 (by omega) g1
    have hC2 := b2.cls hI hC
    have kc : ∀ a : Nat, 19 < a → ¬ (20 ≤ a ∧ a ≤ 38) → a ≠ 79 → a ≠ 81 → a ≠ 82 → g2 a = g a := fun a y1 y2 y3 y4 y5 => by rw [b3 a (by omega), a3 a y2 y3 y4 y5]
    obtain ⟨g3, m1, m2, m3, m4⟩ := m_read (g := g2) (φ := φ) x2 hbm (kc 89 (by omega) (by omega) (by omega) (by omega) (by omega)) (by rw [kc 86 (by omega) (by omega) (by omega) (by omega) (by omega)]) (by rw [hφ, kc 87 (by omega) (by omega) (by omega) (by omega) (by omega)])
    rw [hr, ht] at m1 m3 m4
    rw [eans] at c0 m1
    refine ⟨(r.2.length : Int), g2, g3, ?_, m1, ⟨?_, ?_, ?_, ?_⟩, ?_⟩
    · rw [c0, if_neg (by omega), bX11_read_20, b1, bnd_some]
      exact bX11_read_31 _ _
    · have q : FCl g2 1 t.2 := ⟨hI, hC2⟩
      refine q.keep (fun a y1 y2 => m2.1 a (by omega) (by omega) (by omega) (by omega)) (fun k k0 k1 => ?_)
      rw [rg0]
      exact m4 ok.1 ok.2 k k0 k1
    · refine rI.keep (fun a y1 y2 => by rw [m2.1 a (by omega) (by omega) (by omega) (by omega), kc a (by omega) (by omega) (by omega) (by omega) (by omega)]) ?_ (fun k k0 k1 => ?_)
      · rw [m2.1 88 (by omega) (by omega) (by omega) (by omega), kc 88 (by omega) (by omega) (by omega) (by omega) (by omega)]
      · rw [m2.2.2 k k0 k1, kc 87 (by omega) (by omega) (by omega) (by omega) (by omega)]
    · refine TxR.keep ⟨x1, x2, x3⟩ ?_ ?_ ?_ ?_
      · rw [m2.1 79 (by omega) (by omega) (by omega) (by omega), b3 79 (by omega), a4]
      · rw [m2.1 80 (by omega) (by omega) (by omega) (by omega), kc 80 (by omega) (by omega) (by omega) (by omega) (by omega)]
      · rw [m2.2.1, kc 86 (by omega) (by omega) (by omega) (by omega) (by omega)]
      · rw [m2.1 89 (by omega) (by omega) (by omega) (by omega), kc 89 (by omega) (by omega) (by omega) (by omega) (by omega)]
    · refine rS.keep (by omega) (fun k k0 k1 => ?_) ?_
      · rw [m2.1 0 (by omega) (by omega) (by omega) (by omega), b3 0 (by omega), a3 0 (by omega) (by omega) (by omega) (by omega)]
      · rw [m2.1 90 (by omega) (by omega) (by omega) (by omega), kc 90 (by omega) (by omega) (by omega) (by omega) (by omega)]
    · rw [m2.1 220 (by omega) (by omega) (by omega) (by omega), kc 220 (by omega) (by omega) (by omega) (by omega) (by omega)]
  · have neg : ansR r.1 t.1 r.2.length < 0 := by
      unfold ansR
      by_cases f1 : r.1 = -1
      · rw [if_pos f1]
        by_cases f2 : t.1 = -1
        · exact absurd ⟨f1, f2⟩ ok
        · rw [if_neg f2]; omega
      · rw [if_neg f1]; omega
    obtain ⟨g3, m1, m2, m3, m4⟩ := m_read (g := g1) (φ := φ) x2 hbm (a3 89 (by omega) (by omega) (by omega) (by omega)) (by rw [a3 86 (by omega) (by omega) (by omega) (by omega)]) (by rw [hφ, a3 87 (by omega) (by omega) (by omega) (by omega)])
    rw [hr, ht] at m1 m3 m4
    have lo := m3 ok
    refine ⟨ansR r.1 t.1 r.2.length, g1, g3, ?_, m1, ⟨?_, ?_, ?_, ?_⟩, ?_⟩
    · rw [c0, if_pos neg, bX11_read_31]
    · refine rF.keep (fun a y1 y2 => by rw [m2.1 a (by omega) (by omega) (by omega) (by omega), a3 a (by omega) (by omega) (by omega) (by omega)]) (fun k k0 k1 => ?_)
      rw [rg0, rg0, lo k (by omega), a3 87 (by omega) (by omega) (by omega) (by omega)]
    · refine rI.keep (fun a y1 y2 => by rw [m2.1 a (by omega) (by omega) (by omega) (by omega), a3 a (by omega) (by omega) (by omega) (by omega)]) ?_ (fun k k0 k1 => ?_)
      · rw [m2.1 88 (by omega) (by omega) (by omega) (by omega), a3 88 (by omega) (by omega) (by omega) (by omega)]
      · rw [m2.2.2 k k0 k1, a3 87 (by omega) (by omega) (by omega) (by omega)]
    · refine TxR.keep ⟨x1, x2, x3⟩ ?_ ?_ ?_ ?_
      · rw [m2.1 79 (by omega) (by omega) (by omega) (by omega), a4]
      · rw [m2.1 80 (by omega) (by omega) (by omega) (by omega), a3 80 (by omega) (by omega) (by omega) (by omega)]
      · rw [m2.2.1, a3 86 (by omega) (by omega) (by omega) (by omega)]
      · rw [m2.1 89 (by omega) (by omega) (by omega) (by omega), a3 89 (by omega) (by omega) (by omega) (by omega)]
    · refine rS.keep (by omega) (fun k k0 k1 => ?_) ?_
      · rw [m2.1 0 (by omega) (by omega) (by omega) (by omega), a3 0 (by omega) (by omega) (by omega) (by omega)]
      · rw [m2.1 90 (by omega) (by omega) (by omega) (by omega), a3 90 (by omega) (by omega) (by omega) (by omega)]
    · rw [m2.1 220 (by omega) (by omega) (by omega) (by omega), a3 220 (by omega) (by omega) (by omega) (by omega)]
