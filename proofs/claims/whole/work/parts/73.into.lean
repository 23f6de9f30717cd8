/-! text: all items, class -/
noncomputable def pA (b : Int → Int) (L : Int) : Nat → Int → Int × List (Int × (Int → Int))
  | 0, _ => (-1, [])
  | m + 1, j => if j = L then (-1, []) else if (itP b L j).1 = -1 then ((pA b L m (sp b L (itP b L j).2.1)).1, ((tok b L j).2.1, (itP b L j).2.2) :: (pA b L m (sp b L (itP b L j).2.1)).2) else ((itP b L j).1, [])
noncomputable def tA : List (Int × (Int → Int)) → (Int → Int) → Int → Int × (Int → Int)
  | [], φ, _ => (-1, φ)
  | x :: xs, φ, c => if (tellF φ x.1 x.2).1 < 0 then (c, φ) else tA xs (tellF φ x.1 x.2).2 (c + 1)
def ansR (f r n : Int) : Int := if f = -1 then (if r = -1 then n else -1000 - r) else -10 - f
theorem ans1 (n : Int) : ansR (-1) (-1) n = n := by unfold ansR; rw [if_pos rfl, if_pos rfl]
theorem ans2 {r n : Int} (h : r ≠ -1) : ansR (-1) r n = -1000 - r := by unfold ansR; rw [if_pos rfl, if_neg h]
theorem ans3 {f r n : Int} (h : f ≠ -1) : ansR f r n = -10 - f := by unfold ansR; rw [if_neg h]
abbrev frC (g g' : Hp) : Prop := ∀ a : Nat, ¬ (20 ≤ a ∧ a ≤ 38) → a ≠ 79 → a ≠ 81 → a ≠ 82 → g' a = g a
theorem N210.keep {g g' : Hp} (h : N210 g) (e : g' 210 = g 210) : N210 g' := by
  unfold N210
  rw [e]
  exact h
theorem c_into {b : Int → Int} {L : Int} (hL : L ≤ 200) (hb : ∀ k, 0 ≤ k → k < L → 0 ≤ b k ∧ b k ≤ 255) : ∀ (m : Nat) (j c r : Int) (φ : Int → Int) (g : Hp), 0 ≤ j → j ≤ L → L - j < m → 0 ≤ c → 6 * c ≤ j → (r = -1 ∧ FI φ ∧ ClsF g 20 φ) ∨ (0 ≤ r ∧ r < 40) → g 80 = b → TkS g b L j → N210 g → ∃ g', EV 13 qX8_readInto 13 [vR 81, vR 20, vR 79, vI c, vI r] [] g = some (some (vI (ansR (pA b L m j).1 (if r = -1 then (tA (pA b L m j).2 φ c).1 else r) (c + (pA b L m j).2.length))), g') ∧ (r = -1 → (pA b L m j).1 = -1 → (tA (pA b L m j).2 φ c).1 = -1 → FI (tA (pA b L m j).2 φ c).2 ∧ ClsF g' 20 (tA (pA b L m j).2 φ c).2) ∧ frC g g' ∧ g' 79 1 = L := by
  intro m
  induction m with
  | zero => intro j c r φ g j0 j1 hm; omega
  | succ m ih =>
    intro j c r φ g j0 j1 hm c0 c1 hr h80 hT hN
    have tl := tok_le (b := b) j1
    by_cases e : j = L
    · have ep : pA b L (m + 1) j = (-1, []) := if_pos e
      have et : tA [] φ c = (-1, φ) := rfl
      have e0 : c + ((([] : List (Int × (Int → Int))).length : Nat) : Int) = c := Int.add_zero c
      rw [ep]
      dsimp only
      rw [et, e0]
      dsimp only
      refine ⟨g, ?_, ?_, fun _ _ _ _ _ => rfl, hT.1⟩
      · rw [bX8_readInto_13, if_pos (by rw [hT.2.1]; exact tl.2.2.2.2.mpr e), bX8_readInto_66]
        by_cases r1 : r = -1
        · rw [if_pos r1, if_pos r1, ans1, bX8_readInto_72, bX8_readInto_82]
        · rw [if_neg r1, if_neg r1, ans2 r1, bX8_readInto_76 _ _ _ (by omega), bX8_readInto_82]
      · intro hr1 _ _
        rcases hr with z | z
        · exact z.2
        · omega
    · have nt : ¬ g 79 2 = 0 := by
        rw [hT.2.1]
        exact fun z => e (tl.2.2.2.2.mp z)
      obtain ⟨g1, a1, a2⟩ := c_readItem hL hb ⟨j0, j1⟩ h80 hT hN
      have fT : frC g g1 := fun a _ x2 x3 x4 => a1 a x2 x3 x4
      rcases a2 with ⟨z1, z2, z3, z4, z5⟩ | ⟨z1, z2, z3, z4⟩
      · have ep : pA b L (m + 1) j = ((pA b L m (sp b L (itP b L j).2.1)).1, ((tok b L j).2.1, (itP b L j).2.2) :: (pA b L m (sp b L (itP b L j).2.1)).2) := (if_neg e).trans (if_pos z1)
        have hi : j + 6 ≤ (itP b L j).2.1 ∧ (itP b L j).2.1 ≤ L ∧ (0 ≤ (tok b L j).2.1 ∧ (tok b L j).2.1 ≤ 4) := by
          rcases itP_le (b := b) j0 j1 with q | q
          · exact ⟨q.2.1, q.2.2.1, q.2.2.2.2⟩
          · omega
        obtain ⟨s1, s2⟩ := sp_all (b := b) hi.2.1
        have st : EV 13 qX8_readInto 13 [vR 81, vR 20, vR 79, vI c, vI r] [] g = EV 13 qX8_readInto 43 [vR 81, vR 20, vR 79, vI c, vI r] [] g1 := by
          rw [bX8_readInto_13, if_neg nt, bX8_readInto_20, if_neg (by omega), bX8_readInto_27, z2, bnd_some]
          show EV 13 qX8_readInto 32 _ [vI _] _ = _
          rw [bX8_readInto_32, if_neg (by omega)]
        have eL : ∀ l : Nat, c + ((l + 1 : Nat) : Int) = c + 1 + (l : Int) := fun l => by omega
        rw [ep]
        dsimp only
        rw [List.length_cons, eL]
        by_cases r1 : r = -1
        · obtain ⟨hI, hC⟩ : FI φ ∧ ClsF g 20 φ := by
            rcases hr with z | z
            · exact z.2
            · omega
          obtain ⟨g2, b1, b2, b3⟩ := c_tell hI (hC.keep (fun a x1 x2 => a1 a (by omega) (by omega) (by omega))) hi.2.2 z4 z5
          have hT2 : TkS g2 b L (sp b L (itP b L j).2.1) := by
            unfold TkS
            rw [b3 79 (by omega)]
            exact z3
          have et : tA (((tok b L j).2.1, (itP b L j).2.2) :: (pA b L m (sp b L (itP b L j).2.1)).2) φ c = if (tellF φ (tok b L j).2.1 (itP b L j).2.2).1 < 0 then (c, φ) else tA (pA b L m (sp b L (itP b L j).2.1)).2 (tellF φ (tok b L j).2.1 (itP b L j).2.2).2 (c + 1) := rfl
          have st2 : EV 13 qX8_readInto 13 [vR 81, vR 20, vR 79, vI c, vI r] [] g = if 0 ≤ (tellF φ (tok b L j).2.1 (itP b L j).2.2).1 then EV 13 qX8_readInto 60 [vR 81, vR 20, vR 79, vI c, vI r] [] g2 else EV 13 qX8_readInto 57 [vR 81, vR 20, vR 79, vI c, vI r] [] g2 := by
            rw [st, bX8_readInto_43, if_pos r1, bX8_readInto_49, b1, bnd_some]
            exact bX8_readInto_54 _ _ _ _
          have f2 : frC g g2 := fun a x1 x2 x3 x4 => by rw [b3 a x1, a1 a x2 x3 x4]
          have h802 : g2 80 = b := by rw [f2 80 (by omega) (by omega) (by omega) (by omega), h80]
          have hN2 : N210 g2 := hN.keep (f2 210 (by omega) (by omega) (by omega) (by omega))
          rw [et, if_pos r1, st2]
          by_cases neg : (tellF φ (tok b L j).2.1 (itP b L j).2.2).1 < 0
          · rw [if_pos neg, if_neg (by omega), bX8_readInto_57, bX8_readInto_60 _ _ _ (by omega)]
            obtain ⟨g3, d1, d2, d3, d4⟩ := ih (sp b L (itP b L j).2.1) (c + 1) c φ g2 (by omega) s2 (by omega) (by omega) (by omega) (Or.inr (by omega)) h802 hT2 hN2
            rw [if_neg (by omega)] at d1
            exact ⟨g3, d1, fun _ _ z => by have z' : c = -1 := z; omega, fun a x1 x2 x3 x4 => by rw [d3 a x1 x2 x3 x4, f2 a x1 x2 x3 x4], d4⟩
          · rw [if_neg neg, if_pos (by omega), bX8_readInto_60 _ _ _ (by omega)]
            obtain ⟨g3, d1, d2, d3, d4⟩ := ih (sp b L (itP b L j).2.1) (c + 1) r (tellF φ (tok b L j).2.1 (itP b L j).2.2).2 g2 (by omega) s2 (by omega) (by omega) (by omega) (Or.inl ⟨r1, tellF_FI hI _ _, b2⟩) h802 hT2 hN2
            rw [if_pos r1] at d1
            exact ⟨g3, d1, d2, fun a x1 x2 x3 x4 => by rw [d3 a x1 x2 x3 x4, f2 a x1 x2 x3 x4], d4⟩
        · obtain ⟨g3, d1, d2, d3, d4⟩ := ih (sp b L (itP b L j).2.1) (c + 1) r φ g1 (by omega) s2 (by omega) (by omega) (by omega) (Or.inr (by omega)) (by rw [a1 80 (by omega) (by omega) (by omega), h80]) z3 (hN.keep (a1 210 (by omega) (by omega) (by omega)))
          rw [if_neg r1] at d1
          refine ⟨g3, ?_, fun z => absurd z r1, fun a x1 x2 x3 x4 => by rw [d3 a x1 x2 x3 x4, a1 a x2 x3 x4], d4⟩
          rw [st, bX8_readInto_43, if_neg r1, bX8_readInto_60 _ _ _ (by omega), d1, if_neg r1]
      · have ep : pA b L (m + 1) j = ((itP b L j).1, []) := (if_neg e).trans (if_neg z1)
        have hi : 0 ≤ (itP b L j).1 ∧ (itP b L j).1 ≤ L := by
          rcases itP_le (b := b) j0 j1 with q | q
          · exact absurd q.1 z1
          · exact q
        rw [ep]
        dsimp only
        refine ⟨g1, ?_, fun _ z => absurd z z1, fT, z3⟩
        rw [ans3 z1, bX8_readInto_13, if_neg nt, bX8_readInto_20, if_neg (by omega), bX8_readInto_27, z2, bnd_some]
        show EV 13 qX8_readInto 32 _ [vI _] _ = _
        rw [bX8_readInto_32, if_pos rfl, bX8_readInto_35 _ _ _ (by omega), z4]
theorem FI_zero : FI (fun _ => 0) := by
  unfold FI
  refine ⟨by decide, fun k k0 k1 => absurd (show k < (0 : Int) from k1) (by omega), by decide, by decide, fun c c0 c1 => absurd (show c < (0 : Int) from c1) (by omega), fun z => absurd (show (0 : Int) = 2 from z) (by omega), by decide, fun p p0 p1 => absurd (show p < (0 : Int) from p1) (by omega), by decide, fun s s0 s1 => absurd (show s < (0 : Int) from s1) (by omega)⟩
theorem c_empty (g : Hp) : ∃ g', EV 9 qX2_empty 0 [vR 20] [] g = some (none, g') ∧ ClsF g' 20 (fun _ => 0) ∧ ∀ x : Nat, ¬ (20 ≤ x ∧ x ≤ 38) → g' x = g x := by
  refine ⟨up (up (up (up (up g 20 1 0) 20 6 0) 20 7 0) 20 11 0) 37 1 0, ?_, ⟨?_, fun k k0 k1 => absurd (show k < (0 : Int) from k1) (by omega), ?_, ?_, fun k k0 k1 => absurd (show k < (0 : Int) from k1) (by omega), ?_, fun k k0 k1 => absurd (show k < (0 : Int) from k1) (by omega), ?_, fun k k0 k1 => absurd (show k < (0 : Int) from k1) (by omega)⟩, fun x hx => ?_⟩
  · rw [bX2_empty_0 hF20, bX6_forget_0 hF20, bnd_some]
    exact bX2_empty_27 hF20 _
  all_goals (try funext i)
  all_goals simp (disch := omega) only [up_ne, up_nei, up_eq]
/-- what a text says: a fault or -1, one refused or -1, how many, the fort -/
noncomputable def rdF (b : Int → Int) (L : Int) : Int × List (Int × (Int → Int)) := pA b L 201 (sp b L 0)
theorem c_readInto {g : Hp} (hL : 0 ≤ g 79 1 ∧ g 79 1 ≤ 200) (hb : ∀ k, 0 ≤ k → k < g 79 1 → 0 ≤ g 80 k ∧ g 80 k ≤ 255) (hN : N210 g) (φ : Int → Int) (hφ : ∀ k, 0 ≤ k → k < 110 → φ k = 0) : ∃ g', EV 13 qX8_readInto 0 [vR 81, vR 20, vR 79, vU, vU] [] g = some (some (vI (ansR (rdF (g 80) (g 79 1)).1 (tA (rdF (g 80) (g 79 1)).2 φ 0).1 (rdF (g 80) (g 79 1)).2.length)), g') ∧ ((rdF (g 80) (g 79 1)).1 = -1 → (tA (rdF (g 80) (g 79 1)).2 φ 0).1 = -1 → FI (tA (rdF (g 80) (g 79 1)).2 φ 0).2 ∧ ClsF g' 20 (tA (rdF (g 80) (g 79 1)).2 φ 0).2) ∧ frC g g' ∧ g' 79 1 = g 79 1 := by
  obtain ⟨g1, a1, a2, a3⟩ := c_empty g
  have u79 : g1 79 = g 79 := a3 79 (by omega)
  have u80 : g1 80 = g 80 := a3 80 (by omega)
  have v1 : up g1 79 4 0 79 1 = g 79 1 := by rw [up_nei (by omega), u79]
  have v80 : up g1 79 4 0 80 = g 80 := by funext i; rw [up_ne (by omega), u80]
  obtain ⟨g2, b1, b2, b3⟩ := c_next (g := up g1 79 4 0) (by omega) (by rw [up_eq]; omega) (by rw [v1, v80]; exact hb)
  rw [v1, v80, up_eq] at b2
  have f2 : ∀ a : Nat, a ≠ 79 → g2 a = g1 a := fun a ha => by rw [b3 a ha]; funext i; rw [up_ne ha]
  obtain ⟨s1, s2⟩ := sp_all (b := g 80) hL.1
  obtain ⟨g3, d1, d2, d3, d4⟩ := c_into hL.2 hb 201 (sp (g 80) (g 79 1) 0) 0 (-1) φ g2 s1 s2 (by omega) (by omega) (by omega) (Or.inl ⟨rfl, FI_congr hφ FI_zero, ClsF_congr hφ FI_zero (a2.keep (fun x x1 x2 => f2 x (by omega)))⟩) (by rw [f2 80 (by omega), u80]) b2 (hN.keep (by rw [f2 210 (by omega), a3 210 (by omega)]))
  rw [if_pos rfl, Int.zero_add] at d1
  refine ⟨g3, ?_, d2 rfl, fun a x1 x2 x3 x4 => by rw [d3 a x1 x2 x3 x4, f2 a x2, a3 a x1], d4⟩
  rw [bX8_readInto_0, a1, bnd_some]
  show EV 13 qX8_readInto 9 _ [] _ = _
  have lk : EV 12 qX10_lookAtFirst 0 [vR 79] [] g1 = some (none, g2) := by
    rw [bX10_lookAtFirst_0, b1, bnd_some]
    exact bX10_lookAtFirst_9 _
  rw [bX8_readInto_9, lk, bnd_some]
  exact d1
