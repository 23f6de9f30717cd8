/-! the class's Search: the fewest steps -/
abbrev gl (κ : Int → Int) (sm room : Int) (e : El) : Prop := room ≠ -1 ∧ aIn κ e.1 sm room
theorem qRun_loc (κ : Int → Int) (s0 : St) {f j : Nat} (h1 : (qRun κ s0 f).length ≤ j) : ∀ K, f ≤ K → j < (qRun κ s0 K).length → ∃ a, f ≤ a ∧ a < K ∧ a < (qRun κ s0 a).length ∧ (qRun κ s0 a).length ≤ j ∧ j < (qRun κ s0 (a + 1)).length := by
  intro K hK
  induction hK with
  | refl => intro h; exact absurd h1 (by omega)
  | step hm ih =>
    rename_i m
    intro h
    by_cases e : j < (qRun κ s0 m).length
    · obtain ⟨a, a1, a2, a3⟩ := ih e
      exact ⟨a, a1, by omega, a3⟩
    · refine ⟨m, hm, Nat.lt_succ_self m, ?_, by omega, h⟩
      rcases Nat.lt_or_ge m (qRun κ s0 m).length with z | z
      · exact z
      · exfalso
        have : qRun κ s0 (m + 1) = qRun κ s0 m := by
          rw [qRun]
          unfold qExp
          rw [if_neg (by omega)]
        rw [this] at h
        exact e h
theorem qF_ge {κ : Int → Int} {s0 : St} {f j : Nat} (hf : f ≤ 9000) (h0 : f < (qRun κ s0 f).length) (h1 : (qRun κ s0 f).length ≤ j) (h2 : j < (qF κ s0).length) : (qE (qRun κ s0 f) f).2.2.1 + 1 ≤ (qE (qF κ s0) j).2.2.1 := by
  have h2' : j < (qRun κ s0 9000).length := by rw [← qF_eq]; exact h2
  obtain ⟨a, a1, a2, a3, a4, a5⟩ := qRun_loc κ s0 h1 9000 hf h2'
  have d := qRun_dep κ s0 a3 a4 a5
  rw [pre_lt (qF_pre κ s0 (show a + 1 ≤ 9000 by omega)) a5, d]
  have s := (qRun_sort κ s0 a).1 f a a1 a3
  rw [pre_lt (qRun_pre κ s0 a1) h0] at s
  omega
theorem c_sh_in {κ : Int → Int} (hI : KI κ) {s0 : St} (hx : 0 ≤ s0.1 ∧ s0.1 < 32) (sm room than L first steps : Int) (cur : Nat → Qu) (f0 en : Nat) (hcur : ∀ j, f0 ≤ j → j ≤ en → QI κ s0 (cur j) ∧ cur j <+: qF κ s0 ∧ en ≤ (cur j).length) (hst : (steps < L ∧ ∀ j, f0 ≤ j → j < en → cur (j + 1) = qExp κ (cur j) j) ∨ (L ≤ steps ∧ ∀ j, f0 ≤ j → j < en → cur (j + 1) = cur j)) : ∀ (m j : Nat) (g : Hp) (s : St), f0 ≤ j → j + m = en → ClsQ g (cur j) → ClsK g 20 κ s →
    (∃ k g', (j ≤ k ∧ k < en) ∧ gl κ sm room (qE (qF κ s0) k) ∧ (∀ i, j ≤ i → i < k → ¬ gl κ sm room (qE (qF κ s0) i)) ∧ EV 13 qX9_shorter 58 [vR 83, vR 20, vI sm, vI room, vI than, vI L, vI first, vI steps, vI (en : Int), vI (j : Int)] [] g = some (some (vI steps), g') ∧ g' 83 4 = (k : Int) ∧ ClsQ g' (cur k) ∧ frG g g') ∨
    ((∀ i, j ≤ i → i < en → ¬ gl κ sm room (qE (qF κ s0) i)) ∧ ∃ g' s', EV 13 qX9_shorter 58 [vR 83, vR 20, vI sm, vI room, vI than, vI L, vI first, vI steps, vI (en : Int), vI (j : Int)] [] g = EV 13 qX9_shorter 118 [vR 83, vR 20, vI sm, vI room, vI than, vI L, vI first, vI steps, vI (en : Int), vI (en : Int)] [] g' ∧ ClsQ g' (cur en) ∧ ClsK g' 20 κ s' ∧ frG g g') := by
  intro m
  induction m with
  | zero =>
    intro j g s hf0 hj hQ hK
    have e : j = en := by omega
    subst e
    right
    refine ⟨fun i i1 i2 => by omega, g, s, ?_, hQ, hK, frG.refl g⟩
    rw [bX9_shorter_58, if_pos (by omega)]
  | succ m ih =>
    intro j g s hf0 hj hQ hK
    have i29 := hI.2.2.2.2.2.1
    obtain ⟨c1, c2, c3⟩ := hcur j hf0 (by omega)
    have h9 := QI_len hI c1
    have hjl : j < (cur j).length := by omega
    have hR : Rch κ s0.1 (qE (cur j) j).1 := c1.2.1 _ (mem_qSt.mpr ⟨j, hjl, rfl⟩)
    have hp := Rch_pk hI hR
    have hpar : (qE (cur j) j).2.1 < 9000 := by
      by_cases e : j = 0
      · subst e
        rw [c1.2.2.1.2]
        show (0 : Nat) < 9000
        omega
      · have := (c1.2.2.2 j (by omega) hjl).1
        omega
    have hF := pre_lt c2 hjl
    have hK1 := ClsK_unp hK i29.2 (pk (qE (cur j) j).1)
    rw [pk_dig hp.2.2.1 hp.2.2.2.1 hp.2.2.2.2] at hK1
    have k83 : ∀ a : Nat, a ≠ 20 → a ≠ 36 → unp g 20 (pk (qE (cur j) j).1) a = g a := fun a a1 a2 => by
      funext i
      unfold unp
      rw [up_ne a1, up_ne a2, up_ne a2, up_ne a2]
    have hQ1 : ClsQ (unp g 20 (pk (qE (cur j) j).1)) (cur j) := hQ.keep (k83 83 (by omega) (by omega)) (k83 84 (by omega) (by omega)) (k83 85 (by omega) (by omega))
    have fr1 : frG g (unp g 20 (pk (qE (cur j) j).1)) := fun a a1 a2 a3 a4 a5 => k83 a a1 a2
    have st : EV 13 qX9_shorter 58 [vR 83, vR 20, vI sm, vI room, vI than, vI L, vI first, vI steps, vI (en : Int), vI (j : Int)] [] g = EV 13 qX9_shorter 75 [vR 83, vR 20, vI sm, vI room, vI than, vI L, vI first, vI steps, vI (en : Int), vI (j : Int)] [] (unp g 20 (pk (qE (cur j) j).1)) := by
      rw [bX9_shorter_58, if_neg (by omega), bX9_shorter_65, c_stateAt hQ hjl h9 hpar hp.1, bnd_some]
      show EV 13 qX9_shorter 72 _ [vI _, vR 20] _ = _
      rw [bX9_shorter_72, c_unpack hF20 _ _ hp.1.1, bnd_some]
      rfl
    have go : ¬ gl κ sm room (qE (qF κ s0) j) → ∃ g2 s2, EV 13 qX9_shorter 75 [vR 83, vR 20, vI sm, vI room, vI than, vI L, vI first, vI steps, vI (en : Int), vI (j : Int)] [] (unp g 20 (pk (qE (cur j) j).1)) = EV 13 qX9_shorter 58 [vR 83, vR 20, vI sm, vI room, vI than, vI L, vI first, vI steps, vI (en : Int), vI ((j + 1 : Nat) : Int)] [] g2 ∧ ClsQ g2 (cur (j + 1)) ∧ ClsK g2 20 κ s2 ∧ frG (unp g 20 (pk (qE (cur j) j).1)) g2 := by
      intro hng
      have to98 : EV 13 qX9_shorter 75 [vR 83, vR 20, vI sm, vI room, vI than, vI L, vI first, vI steps, vI (en : Int), vI (j : Int)] [] (unp g 20 (pk (qE (cur j) j).1)) = EV 13 qX9_shorter 98 [vR 83, vR 20, vI sm, vI room, vI than, vI L, vI first, vI steps, vI (en : Int), vI (j : Int)] [] (unp g 20 (pk (qE (cur j) j).1)) := by
        rw [bX9_shorter_75]
        by_cases er : room = -1
        · rw [if_pos er]
        · rw [if_neg er, bX9_shorter_80, c_areIn hF20 hK1 hI, bnd_some]
          show EV 13 qX9_shorter 86 _ [vI _] _ = _
          rw [bX9_shorter_86, if_pos (b01_neg (fun z => hng ⟨er, by rw [hF]; exact z⟩))]
      rw [to98, bX9_shorter_98]
      rcases hst with ⟨l1, l2⟩ | ⟨l1, l2⟩
      · obtain ⟨g2, a1, a2, a3, a4⟩ := c_goOn hI hx (cur j) _ c1 hjl rfl hK1 hQ1
        refine ⟨g2, _, ?_, by rw [l2 j hf0 (by omega)]; exact a3, a2, a4⟩
        rw [if_neg (by omega), bX9_shorter_105, a1, bnd_some]
        show EV 13 qX9_shorter 112 _ [] _ = _
        rw [bX9_shorter_112 _ _ _ _ _ _ _ _ _ (by omega)]
        rfl
      · refine ⟨_, _, ?_, by rw [l2 j hf0 (by omega)]; exact hQ1, hK1, frG.refl _⟩
        rw [if_pos l1, bX9_shorter_112 _ _ _ _ _ _ _ _ _ (by omega)]
        rfl
    by_cases hg : gl κ sm room (qE (qF κ s0) j)
    · left
      refine ⟨j, up (unp g 20 (pk (qE (cur j) j).1)) 83 4 (j : Int), ⟨by omega, by omega⟩, hg, fun i i1 i2 => by omega, ?_, up_eq, ?_, ?_⟩
      · rw [st, bX9_shorter_75, if_neg hg.1, bX9_shorter_80, c_areIn hF20 hK1 hI, bnd_some]
        show EV 13 qX9_shorter 86 _ [vI _] _ = _
        rw [bX9_shorter_86, if_neg (b01_pos (by have := hg.2; rw [hF] at this; exact this)), bX9_shorter_89]
      · obtain ⟨q1, q2, q3, q4⟩ := hQ1
        refine ⟨by rw [up_nei (by omega)]; exact q1, fun k hk => by rw [up_ne (by omega)]; exact q2 k hk, by rw [up_nei (by omega)]; exact q3, fun c hc => by rw [up_ne (by omega)]; exact q4 c hc⟩
      · exact fr1.trans (fun a a1 a2 a3 a4 a5 => by funext i; rw [up_ne a3])
    · obtain ⟨g2, s2, b1, b2, b3, b4⟩ := go hg
      rcases ih (j + 1) g2 s2 (by omega) (by omega) b2 b3 with ⟨k, g', d1, d2, d3, d4, d5, d6, d7⟩ | ⟨d1, g', s', d2, d3, d4, d5⟩
      · left
        refine ⟨k, g', ⟨by omega, d1.2⟩, d2, fun i i1 i2 => ?_, by rw [st, b1, d4], d5, d6, (fr1.trans b4).trans d7⟩
        by_cases e : i = j
        · rw [e]; exact hg
        · exact d3 i (by omega) i2
      · right
        refine ⟨fun i i1 i2 => ?_, g', s', by rw [st, b1, d2], d3, d4, (fr1.trans b4).trans d5⟩
        by_cases e : i = j
        · rw [e]; exact hg
        · exact d1 i (by omega) i2
theorem c_sh_out {κ : Int → Int} (hI : KI κ) {s0 : St} (hx : 0 ≤ s0.1 ∧ s0.1 < 32) (hV : SVd κ s0) (sm room than L : Int) : ∀ (n f : Nat) (g : Hp) (s : St) (steps : Nat) (u8 u9 : SV), 9001 - f = n → ClsQ g (qRun κ s0 f) → ClsK g 20 κ s → f ≤ (qRun κ s0 f).length → (∀ j, f ≤ j → j < (qRun κ s0 f).length → (qE (qRun κ s0 f) j).2.2.1 = steps) → (∀ i, i < f → ¬ gl κ sm room (qE (qF κ s0) i)) → steps ≤ f → ∃ r g', EV 13 qX9_shorter 32 [vR 83, vR 20, vI sm, vI room, vI than, vI L, vI (f : Int), vI (steps : Int), u8, u9] [] g = some (some (vI r), g') ∧ frG g g' ∧
    ((∃ k, k < (qF κ s0).length ∧ gl κ sm room (qE (qF κ s0) k) ∧ (∀ i, i < k → ¬ gl κ sm room (qE (qF κ s0) i)) ∧ r = ((qE (qF κ s0) k).2.2.1 : Int) ∧ ((qE (qF κ s0) k).2.2.1 : Int) ≤ L ∧ g' 83 4 = (k : Int) ∧ ∃ Q', ClsQ g' Q' ∧ QI κ s0 Q' ∧ Q' <+: qF κ s0 ∧ k < Q'.length) ∨
    (r = -1 ∧ (∀ k, k < (qF κ s0).length → gl κ sm room (qE (qF κ s0) k) → L < ((qE (qF κ s0) k).2.2.1 : Int)) ∧ (9000 ≤ L → ClsQ g' (qF κ s0)))) := by
  intro n
  induction n using Nat.strongRecOn with
  | ind n ih =>
    intro f g s steps u8 u9 hn hQ hK hfl hd hng hsf
    have hQI := QI_run hI hx hV
    have h9 := QI_len hI (hQI f)
    have hf9 : f ≤ 9000 := by omega
    rw [bX9_shorter_32]
    by_cases cL : L < (steps : Int)
    · refine ⟨-1, g, by rw [if_pos cL, bX9_shorter_128], frG.refl g, Or.inr ⟨rfl, fun k hk hg => ?_, fun z => by omega⟩⟩
      have kf : f ≤ k := by
        rcases Nat.lt_or_ge k f with z | z
        · exact absurd hg (hng k z)
        · exact z
      by_cases e : f < (qRun κ s0 f).length
      · have d := hd f (Nat.le_refl f) e
        have so := qF_sort κ s0 kf hk
        rw [pre_lt (qF_pre κ s0 hf9) e, d] at so
        omega
      · rw [← qF_stop hf9 (by omega)] at hk
        omega
    · rw [if_neg cL, bX9_shorter_39, hQ.1]
      by_cases cF : ((qRun κ s0 f).length : Int) ≤ (f : Int)
      · have eF := qF_stop (κ := κ) (s0 := s0) hf9 (by omega)
        refine ⟨-1, g, by rw [if_pos cF, bX9_shorter_128], frG.refl g, Or.inr ⟨rfl, fun k hk hg => ?_, fun _ => by rw [← eF]; exact hQ⟩⟩
        rw [← eF] at hk
        exact absurd hg (hng k (by omega))
      · rw [if_neg cF, bX9_shorter_48, hQ.1]
        by_cases cS : (steps : Int) < L
        · rcases c_sh_in hI hx sm room than L (f : Int) (steps : Int) (qRun κ s0) f (qRun κ s0 f).length (fun j j0 hj => ⟨hQI _, qF_pre κ s0 (by omega), pre_len (qRun_pre κ s0 j0)⟩) (Or.inl ⟨cS, fun j j0 hj => rfl⟩) ((qRun κ s0 f).length - f) f g s (Nat.le_refl f) (by omega) hQ hK with ⟨k, g', d1, d2, d3, d4, d5, d6, d7⟩ | ⟨d1, g', s', d2, d3, d4, d5⟩
          · have dk := hd k d1.1 d1.2
            have hp : qE (qF κ s0) k = qE (qRun κ s0 f) k := pre_lt (qF_pre κ s0 hf9) d1.2
            have kl : k < (qF κ s0).length := Nat.lt_of_lt_of_le d1.2 (pre_len (qF_pre κ s0 hf9))
            refine ⟨(steps : Int), g', d4, d7, Or.inl ⟨k, kl, d2, fun i hi => ?_, by rw [hp, dk], by rw [hp, dk]; omega, d5, qRun κ s0 k, d6, hQI k, qF_pre κ s0 (by omega), Nat.lt_of_lt_of_le d1.2 (pre_len (qRun_pre κ s0 d1.1))⟩⟩
            rcases Nat.lt_or_ge i f with z | z
            · exact hng i z
            · exact d3 i z hi
          · have hA : ∀ j, (qRun κ s0 f).length ≤ j → j < (qRun κ s0 (qRun κ s0 f).length).length → (qE (qRun κ s0 (qRun κ s0 f).length) j).2.2.1 = steps + 1 := fun j j1 j2 => by
              obtain ⟨a, b1, b2, b3, b4, b5⟩ := qRun_loc κ s0 j1 _ (show f ≤ (qRun κ s0 f).length by omega) j2
              have dd := qRun_dep κ s0 b3 b4 b5
              rw [pre_lt (qRun_pre κ s0 (show a + 1 ≤ (qRun κ s0 f).length by omega)) b5, dd]
              have da := hd a b1 (by omega)
              rw [pre_lt (qRun_pre κ s0 b1) (by omega), da]
            have hB : ∀ i, i < (qRun κ s0 f).length → ¬ gl κ sm room (qE (qF κ s0) i) := fun i hi => by
              rcases Nat.lt_or_ge i f with z | z
              · exact hng i z
              · exact d1 i z hi
            obtain ⟨r, g2, a1, a2, a3⟩ := ih (9001 - (qRun κ s0 f).length) (by omega) (qRun κ s0 f).length g' s' (steps + 1) (vI ((qRun κ s0 f).length : Int)) (vI ((qRun κ s0 f).length : Int)) rfl d3 d4 (pre_len (qRun_pre κ s0 (by omega))) hA hB (by omega)
            refine ⟨r, g2, ?_, d5.trans a2, a3⟩
            rw [d2, bX9_shorter_118 _ _ _ _ _ _ _ _ _ (by omega)]
            exact a1
        · rcases c_sh_in hI hx sm room than L (f : Int) (steps : Int) (fun _ => qRun κ s0 f) f (qRun κ s0 f).length (fun j j0 hj => ⟨hQI _, qF_pre κ s0 hf9, Nat.le_refl _⟩) (Or.inr ⟨by omega, fun j j0 hj => rfl⟩) ((qRun κ s0 f).length - f) f g s (Nat.le_refl f) (by omega) hQ hK with ⟨k, g', d1, d2, d3, d4, d5, d6, d7⟩ | ⟨d1, g', s', d2, d3, d4, d5⟩
          · have dk := hd k d1.1 d1.2
            have hp : qE (qF κ s0) k = qE (qRun κ s0 f) k := pre_lt (qF_pre κ s0 hf9) d1.2
            have kl : k < (qF κ s0).length := Nat.lt_of_lt_of_le d1.2 (pre_len (qF_pre κ s0 hf9))
            refine ⟨(steps : Int), g', d4, d7, Or.inl ⟨k, kl, d2, fun i hi => ?_, by rw [hp, dk], by rw [hp, dk]; omega, d5, qRun κ s0 f, d6, hQI f, qF_pre κ s0 hf9, d1.2⟩⟩
            rcases Nat.lt_or_ge i f with z | z
            · exact hng i z
            · exact d3 i z hi
          · refine ⟨-1, g', ?_, d5, Or.inr ⟨rfl, fun k hk hg => ?_, fun z => by omega⟩⟩
            · rw [d2, bX9_shorter_118 _ _ _ _ _ _ _ _ _ (by omega), bX9_shorter_32, if_pos (by omega), bX9_shorter_128]
            · have kf : (qRun κ s0 f).length ≤ k := by
                rcases Nat.lt_or_ge k (qRun κ s0 f).length with z | z
                · rcases Nat.lt_or_ge k f with y | y
                  · exact absurd hg (hng k y)
                  · exact absurd hg (d1 k y z)
                · exact z
              have := qF_ge hf9 (by omega) kf hk
              have := hd f (Nat.le_refl f) (by omega)
              omega
theorem dsL_or (κ : Int → Int) (sm room : Int) : ∀ Q : Qu, (dsL κ sm room Q = 100000 ∧ ∀ k, k < Q.length → ¬ aIn κ (qE Q k).1 sm room) ∨ ∃ k, k < Q.length ∧ aIn κ (qE Q k).1 sm room ∧ (∀ j, j < k → ¬ aIn κ (qE Q j).1 sm room) ∧ dsL κ sm room Q = ((qE Q k).2.2.1 : Int) := by
  intro Q
  induction Q with
  | nil => exact Or.inl ⟨rfl, fun k hk => absurd hk (by simp)⟩
  | cons e Q ih =>
    by_cases h : aIn κ e.1 sm room
    · refine Or.inr ⟨0, by simp, h, fun j hj => absurd hj (by omega), ?_⟩
      rw [dsL, if_pos h]
      rfl
    · rcases ih with ⟨a, b⟩ | ⟨k, k1, k2, k3, k4⟩
      · refine Or.inl ⟨by rw [dsL, if_neg h, a], fun k hk => ?_⟩
        cases k with
        | zero => exact h
        | succ k => exact b k (by simpa using hk)
      · refine Or.inr ⟨k + 1, by simpa using k1, k2, fun j hj => ?_, by rw [dsL, if_neg h, k4]; rfl⟩
        cases j with
        | zero => exact h
        | succ j => exact k3 j (by omega)
theorem DS_le {κ : Int → Int} (hI : KI κ) {s0 : St} (hx : 0 ≤ s0.1 ∧ s0.1 < 32) (hV : SVd κ s0) (sm room : Int) : DS κ s0 sm room = 100000 ∨ (0 ≤ DS κ s0 sm room ∧ DS κ s0 sm room < 9000) := by
  rcases dsL_or κ sm room (qF κ s0) with ⟨a, b⟩ | ⟨k, k1, k2, k3, k4⟩
  · exact Or.inl a
  · right
    unfold DS
    rw [k4]
    have q : QI κ s0 (qF κ s0) := by rw [qF_eq]; exact QI_run hI hx hV 9000
    have := QI_dep q k k1
    have := QI_len hI q
    omega
theorem sh_fin {D than L : Int} (h1 : D ≤ L) (h2 : D = 100000 ∨ (0 ≤ D ∧ D < 9000)) (h3 : (than = -1 ∧ L = 9000) ∨ (than ≠ -1 ∧ L = than - 1)) : D < if than = -1 then 100000 else than := by
  split <;> omega
theorem c_shorter {κ : Int → Int} (hI : KI κ) {s0 : St} (hx : 0 ≤ s0.1 ∧ s0.1 < 32) (hV : SVd κ s0) {g : Hp} (hK : ClsK g 20 κ s0) (sm room than : Int) (ht : than = -1 ∨ (0 ≤ than ∧ than ≤ 9000)) : ∃ r g', EV 13 qX9_shorter 0 [vR 83, vR 20, vI sm, vI room, vI than, vU, vU, vU, vU, vU] [] g = some (some (vI r), g') ∧ frG g g' ∧ (room = -1 → than = -1 → ClsQ g' (qF κ s0)) ∧ (room ≠ -1 → r = if DS κ s0 sm room < (if than = -1 then 100000 else than) then DS κ s0 sm room else -1) ∧ (room ≠ -1 → r ≠ -1 → ∃ (k : Nat) (Q' : Qu), g' 83 4 = (k : Int) ∧ ClsQ g' Q' ∧ QI κ s0 Q' ∧ Q' <+: qF κ s0 ∧ k < Q'.length ∧ aIn κ (qE (qF κ s0) k).1 sm room ∧ (∀ i, i < k → ¬ aIn κ (qE (qF κ s0) i).1 sm room) ∧ r = ((qE (qF κ s0) k).2.2.1 : Int)) := by
  have hR : Rch κ s0.1 s0 := ⟨hV, nine_self _ _⟩
  have hp := Rch_pk hI hR
  have k0 := hI.1
  obtain ⟨g1, b1, b2, b3⟩ := c_begin hI hR g
  have hK1 : ClsK g1 20 κ s0 := hK.keep (fun a a1 a2 => b3 a (by omega) (by omega) (by omega))
  have fr1 : frG g g1 := fun a _ _ a3 a4 a5 => b3 a a3 a4 a5
  obtain ⟨L, hL, hL2⟩ : ∃ L : Int, EV 13 qX9_shorter 0 [vR 83, vR 20, vI sm, vI room, vI than, vU, vU, vU, vU, vU] [] g = EV 13 qX9_shorter 16 [vR 83, vR 20, vI sm, vI room, vI than, vU, vU, vU, vU, vU] [vI L] g ∧ ((than = -1 ∧ L = 9000) ∨ (than ≠ -1 ∧ L = than - 1)) := by
    rw [bX9_shorter_0]
    by_cases e : than = -1
    · exact ⟨9000, by rw [if_pos e, bX9_shorter_6], Or.inl ⟨e, rfl⟩⟩
    · exact ⟨than - 1, by rw [if_neg e, bX9_shorter_12 _ _ _ _ (by omega)], Or.inr ⟨e, rfl⟩⟩
  have st : EV 13 qX9_shorter 0 [vR 83, vR 20, vI sm, vI room, vI than, vU, vU, vU, vU, vU] [] g = EV 13 qX9_shorter 32 [vR 83, vR 20, vI sm, vI room, vI than, vI L, vI 0, vI 0, vU, vU] [] g1 := by
    rw [hL, bX9_shorter_16, c_packed hF20 hK hI hp.2.1 (fun j j0 j1 => by have := hV.2 j j0 (by have := hI.2.2.2.2.2.1; omega); omega), bnd_some, pk3_pk hV]
    show EV 13 qX9_shorter 23 _ [vI _, vR 83] _ = _
    rw [bX9_shorter_23, b1, bnd_some]
    show EV 13 qX9_shorter 26 _ [] _ = _
    rw [bX9_shorter_26]
  obtain ⟨r, g', a1, a2, a3⟩ := c_sh_out hI hx hV sm room than L 9001 0 g1 s0 0 vU vU rfl b2 hK1 (Nat.zero_le _) (fun j j1 j2 => by
    have : j = 0 := by simp [qRun] at j2; omega
    subst this
    rfl) (fun i hi => absurd hi (by omega)) (Nat.le_refl 0)
  have hDS := DS_le hI hx hV sm room
  refine ⟨r, g', by rw [st]; exact a1, fr1.trans a2, fun e1 e2 => ?_, fun e1 => ?_, fun e1 e2 => ?_⟩
  · rcases a3 with ⟨k, c1, c2, _⟩ | ⟨c1, c2, c3⟩
    · exact absurd e1 c2.1
    · exact c3 (by omega)
  · rcases a3 with ⟨k, c1, c2, c3, c4, c5, _⟩ | ⟨c1, c2, c3⟩
    · have d : DS κ s0 sm room = ((qE (qF κ s0) k).2.2.1 : Int) := dsL_first _ k c1 c2.2 (fun j hj z => c3 j hj ⟨e1, z⟩)
      rw [d] at hDS
      rw [c4, d, if_pos]
      exact sh_fin c5 hDS hL2
    · rw [c1, if_neg]
      rcases dsL_or κ sm room (qF κ s0) with ⟨z1, z2⟩ | ⟨k, k1, k2, k3, k4⟩
      · have : DS κ s0 sm room = 100000 := z1
        rw [this]
        split <;> omega
      · have d : DS κ s0 sm room = ((qE (qF κ s0) k).2.2.1 : Int) := k4
        have := c2 k k1 ⟨e1, k2⟩
        rw [← d] at this
        generalize DS κ s0 sm room = D at hDS this ⊢
        split <;> omega
  · rcases a3 with ⟨k, c1, c2, c3, c4, c5, c6, Q', c7, c8, c9, c10⟩ | ⟨c1, c2, c3⟩
    · exact ⟨k, Q', c6, c7, c8, c9, c10, c2.2, fun i hi z => c3 i hi ⟨e1, z⟩, c4⟩
    · exact absurd c1 e2
