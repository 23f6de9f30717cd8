/-! the class's Search: all steps from a state -/
def frG (g g' : Hp) : Prop := ∀ a : Nat, a ≠ 20 → a ≠ 36 → a ≠ 83 → a ≠ 84 → a ≠ 85 → g' a = g a
theorem frG.refl (g : Hp) : frG g g := fun _ _ _ _ _ _ => rfl
theorem frG.trans {g g' g'' : Hp} (h : frG g g') (h' : frG g' g'') : frG g g'' := fun a a1 a2 a3 a4 a5 => (h' a a1 a2 a3 a4 a5).trans (h a a1 a2 a3 a4 a5)
theorem ClsK.keep {g g' : Hp} {f : Nat} {κ : Int → Int} {s : St} (h : ClsK g f κ s) (hk : ∀ a : Nat, f ≤ a → a ≤ f + 18 → g' a = g a) : ClsK g' f κ s := by
  unfold ClsK at *
  rw [hk f (by omega) (by omega), hk (f + 8) (by omega) (by omega), hk (f + 9) (by omega) (by omega), hk (f + 10) (by omega) (by omega), hk (f + 11) (by omega) (by omega), hk (f + 12) (by omega) (by omega), hk (f + 13) (by omega) (by omega), hk (f + 14) (by omega) (by omega), hk (f + 15) (by omega) (by omega), hk (f + 16) (by omega) (by omega)]
  exact h
theorem ClsQ.keep {g g' : Hp} {Q : Qu} (h : ClsQ g Q) (h1 : g' 83 = g 83) (h2 : g' 84 = g 84) (h3 : g' 85 = g 85) : ClsQ g' Q := by
  unfold ClsQ at *
  rw [h1, h2, h3]
  exact h
theorem pk3_pk {κ : Int → Int} {s : St} (h : SVd κ s) : pk3 (κ 29) s.1 s.2.1 s.2.2.1 s.2.2.2 = pk s := by
  have a0 := (h.2 0 (by omega) (by omega)).2
  have a1 := (h.2 1 (by omega) (by omega)).2
  have a2 := (h.2 2 (by omega) (by omega)).2
  rw [qa_0] at a0
  rw [qa_1] at a1
  rw [qa_2] at a2
  unfold pk3 pk
  have b0 : (if 0 < κ 29 then s.2.1 else 0) = s.2.1 := by split <;> omega
  have b1 : (if 1 < κ 29 then s.2.2.1 else 0) = s.2.2.1 := by split <;> omega
  have b2 : (if 2 < κ 29 then s.2.2.2 else 0) = s.2.2.2 := by split <;> omega
  rw [b0, b1, b2]
theorem candI_nil {κ : Int → Int} {s : St} {i : Int} : ∀ n : Nat, (∀ to : Int, 10 - (n : Int) ≤ to → ¬ aCan κ s i to) → candI κ s i n = [] := by
  intro n
  induction n with
  | zero => intro _; rfl
  | succ n ih =>
    intro h
    rw [candI, if_neg (h _ (by omega)), ih (fun to ht => h to (by omega))]
    rfl
theorem candI_skip {κ : Int → Int} {s : St} {i : Int} (h : ∀ to : Int, to < 5 → ¬ aCan κ s i to) : candI κ s i 10 = candI κ s i 5 := by
  rw [candI, if_neg (h _ (by omega)), candI, if_neg (h _ (by omega)), candI, if_neg (h _ (by omega)), candI, if_neg (h _ (by omega)), candI, if_neg (h _ (by omega))]
  rfl
theorem qAll_app (k d : Nat) (Q : Qu) (l m : List (St × Int)) : qAll k d Q (l ++ m) = qAll k d (qAll k d Q l) m := by
  unfold qAll
  rw [List.foldl_append]
theorem hF20 : isFort 20 := Or.inr (Or.inl rfl)
/-- one step tried: gone, noted, back -/
theorem c_try {κ : Int → Int} (hI : KI κ) {s0 : St} (hx : 0 ≤ s0.1 ∧ s0.1 < 32) {Q : Qu} (hQ : QI κ s0 Q) {k : Nat} (hk : k < Q.length) {s : St} (hs : (qE Q k).1 = s) {g : Hp} (hK : ClsK g 20 κ s) (hC : ClsQ g Q) {i to : Int} (hi : 0 ≤ i ∧ i < κ 29) (ht : 0 ≤ to ∧ to ≤ 9) (hc : aCan κ s i to) (x2 x5 x6 : Int) (hx2 : x2 = (k : Int)) : ∃ g', EV 12 qX9_goOn 83 [vR 83, vR 20, vI x2, vI (pk s), vI i, vI x5, vI x6, vI to] [] g = EV 12 qX9_goOn 105 [vR 83, vR 20, vI x2, vI (pk s), vI i, vI x5, vI x6, vI to] [] g' ∧ ClsK g' 20 κ s ∧ ClsQ g' (qNote k ((qE Q k).2.2.1 + 1) Q (aGo κ s i to, 10 * i + to)) ∧ frG g g' := by
  subst hx2
  have i29 := hI.2.2.2.2.2.1
  have hR : Rch κ s0.1 s := hQ.2.1 s (mem_qSt.mpr ⟨k, hk, hs⟩)
  have hR' := Rch_go hI hx hR hi ht.1 hc
  have p1 := Rch_pk hI hR
  have p2 := Rch_pk hI hR'
  have h9 := QI_len hI hQ
  have hK1 : ClsK (up (up g (20 + 16) i to) 20 6 (aGo κ s i to).1) 20 κ (aGo κ s i to) := ClsK_ly (ClsK_pl hK i29.2 (by omega) (v := to)) _
  have hC1 : ClsQ (up (up g (20 + 16) i to) 20 6 (aGo κ s i to).1) Q := hC.keep (by funext j; rw [up_ne (by omega), up_ne (by omega)]) (by funext j; rw [up_ne (by omega), up_ne (by omega)]) (by funext j; rw [up_ne (by omega), up_ne (by omega)])
  obtain ⟨g2, n1, n2, n3⟩ := c_note hI hQ.1 hQ.2.1 hC1 hR' k ((qE Q k).2.2.1 + 1) (by omega) (10 * i + to)
  have hK2 : ClsK g2 20 κ (aGo κ s i to) := hK1.keep (fun a a1 a2 => n3.1 a (by omega) (by omega) (by omega))
  have hK3 := ClsK_unp hK2 i29.2 (pk s)
  rw [pk_dig p1.2.2.1 p1.2.2.2.1 p1.2.2.2.2] at hK3
  refine ⟨unp g2 20 (pk s), ?_, hK3, n2.keep ?_ ?_ ?_, fun a a1 a2 a3 a4 a5 => ?_⟩
  · rw [bX9_goOn_83, c_go hF20 hK hI (by omega), bnd_some]
    show EV 12 qX9_goOn 91 _ [] _ = _
    rw [bX9_goOn_91, c_packed hF20 hK1 hI (by omega) (fun j j0 j1 => by have := hR'.1.2 j j0 (by omega); have := hI.1; omega), bnd_some, pk3_pk hR'.1]
    show EV 12 qX9_goOn 96 _ [vI _, vR 83] _ = _
    rw [bX9_goOn_96, n1, bnd_some]
    show EV 12 qX9_goOn 100 _ [] _ = _
    rw [bX9_goOn_100, c_unpack hF20 _ _ (by omega), bnd_some]
    rfl
  · funext j; unfold unp; rw [up_ne (by omega), up_ne (by omega), up_ne (by omega), up_ne (by omega)]
  · funext j; unfold unp; rw [up_ne (by omega), up_ne (by omega), up_ne (by omega), up_ne (by omega)]
  · funext j; unfold unp; rw [up_ne (by omega), up_ne (by omega), up_ne (by omega), up_ne (by omega)]
  · funext j
    unfold unp
    rw [up_ne a1, up_ne a2, up_ne a2, up_ne a2, n3.1 a a3 a4 a5, up_ne a1, up_ne a2]
theorem c_goOn_in {κ : Int → Int} (hI : KI κ) {s0 : St} (hx : 0 ≤ s0.1 ∧ s0.1 < 32) {k : Nat} {s : St} {i x5 x6 : Int} (hi : 0 ≤ i ∧ i < κ 29) (hend : ∀ to : Int, x6 ≤ to → ¬ aCan κ s i to) (h6 : x6 ≤ 5 + κ 0) : ∀ (n : Nat) (Q : Qu) (g : Hp), n ≤ 10 → QI κ s0 Q → k < Q.length → (qE Q k).1 = s → ClsK g 20 κ s → ClsQ g Q → ∃ g' x7, EV 12 qX9_goOn 65 [vR 83, vR 20, vI (k : Int), vI (pk s), vI i, vI x5, vI x6, vI (10 - (n : Int))] [] g = EV 12 qX9_goOn 111 [vR 83, vR 20, vI (k : Int), vI (pk s), vI i, vI x5, vI x6, vI x7] [] g' ∧ ClsK g' 20 κ s ∧ ClsQ g' (qAll k ((qE Q k).2.2.1 + 1) Q (candI κ s i n)) ∧ frG g g' := by
  intro n
  induction n with
  | zero =>
    intro Q g _ hQ hk hs hK hC
    refine ⟨g, 10, ?_, hK, hC, frG.refl g⟩
    have := hI.1
    rw [bX9_goOn_65, if_pos (by omega)]
    rfl
  | succ n ih =>
    intro Q g hn hQ hk hs hK hC
    have i0 := hI.1
    have i29 := hI.2.2.2.2.2.1
    have ec : (10 : Int) - ((n + 1 : Nat) : Int) = 9 - (n : Int) := by omega
    rw [ec, bX9_goOn_65]
    by_cases e : x6 ≤ 9 - (n : Int)
    · rw [if_pos e, candI_nil (n + 1) (fun to ht => hend to (by omega))]
      exact ⟨g, _, rfl, hK, hC, frG.refl g⟩
    · have hR : Rch κ s0.1 s := hQ.2.1 s (mem_qSt.mpr ⟨k, hk, hs⟩)
      have hv := hR.1.2 i hi.1 (by omega)
      rw [if_neg e, bX9_goOn_72, c_canGo hF20 hK hI hi (by omega) hv.1, bnd_some]
      have e9 : (10 : Int) - (n : Int) = 9 - (n : Int) + 1 := by omega
      by_cases c : aCan κ s i (9 - (n : Int))
      · obtain ⟨g1, t1, t2, t3, t4⟩ := c_try hI hx hQ hk hs hK hC hi (to := 9 - (n : Int)) (by omega) c (k : Int) x5 x6 rfl
        have q1 := QI_note hI hx hQ hk (c := (aGo κ s i (9 - (n : Int)), 10 * i + (9 - (n : Int)))) ⟨i, 9 - (n : Int), hi, by omega, rfl, by rw [hs]; exact c, by rw [hs]⟩
        have q2 := qNote_lt (k := k) (d := (qE Q k).2.2.1 + 1) (c := (aGo κ s i (9 - (n : Int)), 10 * i + (9 - (n : Int)))) hk
        obtain ⟨g', x7, r1, r2, r3, r4⟩ := ih _ g1 (by omega) q1 (Nat.lt_of_lt_of_le hk (pre_len (qNote_pre _ _ _ _))) (by rw [q2]; exact hs) t2 t3
        refine ⟨g', x7, ?_, r2, ?_, t4.trans r4⟩
        · have z : ∀ y, EV 12 qX9_goOn 80 [vR 83, vR 20, vI (k : Int), vI (pk s), vI i, vI x5, vI x6, vI (9 - (n : Int))] ((some (vI y)).toList ++ []) g = if y = 0 then EV 12 qX9_goOn 105 [vR 83, vR 20, vI (k : Int), vI (pk s), vI i, vI x5, vI x6, vI (9 - (n : Int))] [] g else EV 12 qX9_goOn 83 [vR 83, vR 20, vI (k : Int), vI (pk s), vI i, vI x5, vI x6, vI (9 - (n : Int))] [] g := fun y => bX9_goOn_80 _ _ _ _ _ _ _ _
          rw [z, if_neg (b01_pos c), t1, bX9_goOn_105 _ _ _ _ _ _ _ (by omega), ← e9, r1]
        · rw [q2] at r3
          rw [candI, if_pos c]
          exact r3
      · obtain ⟨g', x7, r1, r2, r3, r4⟩ := ih Q g (by omega) hQ hk hs hK hC
        refine ⟨g', x7, ?_, r2, ?_, r4⟩
        · have z : ∀ y, EV 12 qX9_goOn 80 [vR 83, vR 20, vI (k : Int), vI (pk s), vI i, vI x5, vI x6, vI (9 - (n : Int))] ((some (vI y)).toList ++ []) g = if y = 0 then EV 12 qX9_goOn 105 [vR 83, vR 20, vI (k : Int), vI (pk s), vI i, vI x5, vI x6, vI (9 - (n : Int))] [] g else EV 12 qX9_goOn 83 [vR 83, vR 20, vI (k : Int), vI (pk s), vI i, vI x5, vI x6, vI (9 - (n : Int))] [] g := fun y => bX9_goOn_80 _ _ _ _ _ _ _ _
          rw [z, if_pos (b01_neg c), bX9_goOn_105 _ _ _ _ _ _ _ (by omega), ← e9, r1]
        · rw [candI, if_neg c]
          exact r3
theorem c_goOn_p {κ : Int → Int} (hI : KI κ) {s0 : St} (hx : 0 ≤ s0.1 ∧ s0.1 < 32) {k : Nat} {s : St} {i : Int} (hi : 0 ≤ i ∧ i < κ 29) (Q : Qu) (g : Hp) (hQ : QI κ s0 Q) (hk : k < Q.length) (hs : (qE Q k).1 = s) (hK : ClsK g 20 κ s) (hC : ClsQ g Q) (u5 u6 u7 : SV) : ∃ g' v5 v6 v7, EV 12 qX9_goOn 9 [vR 83, vR 20, vI (k : Int), vI (pk s), vI i, u5, u6, u7] [] g = EV 12 qX9_goOn 9 [vR 83, vR 20, vI (k : Int), vI (pk s), vI (i + 1), v5, v6, v7] [] g' ∧ ClsK g' 20 κ s ∧ ClsQ g' (qAll k ((qE Q k).2.2.1 + 1) Q (candI κ s i 10)) ∧ frG g g' := by
  have i0 := hI.1
  have i29 := hI.2.2.2.2.2.1
  have h11 : g 20 11 = κ 29 := hK.2.2.2.2.2.1
  have h1 : g 20 1 = κ 0 := hK.1
  have hpl : g 36 i = qa s i := (hK.2.2.2.2.2.2 i hi.1 hi.2).2
  rw [bX9_goOn_9, if_neg (by omega), bX9_goOn_18 _ _ _ _ _ _ _ (by omega), hpl]
  by_cases c : 5 ≤ qa s i
  · obtain ⟨g', x7, r1, r2, r3, r4⟩ := c_goOn_in hI hx (s := s) (x5 := 0) (x6 := 5) hi (fun to ht hc => by rcases hc with hc | hc <;> omega) (by omega) 10 Q g (by omega) hQ hk hs hK hC
    refine ⟨g', vI 0, vI 5, vI x7, ?_, r2, r3, r4⟩
    · rw [if_pos c, bX9_goOn_33, bX9_goOn_34, if_pos rfl, bX9_goOn_50, bX9_goOn_51, if_pos rfl, bX9_goOn_62, bX9_goOn_63]
      rw [show (10 : Int) - ((10 : Nat) : Int) = 0 from rfl] at r1
      rw [r1, bX9_goOn_111 _ _ _ _ _ _ _ (by omega)]
  · obtain ⟨g', x7, r1, r2, r3, r4⟩ := c_goOn_in hI hx (s := s) (x5 := 1) (x6 := 5 + κ 0) hi (fun to ht hc => by rcases hc with hc | hc <;> omega) (by omega) 5 Q g (by omega) hQ hk hs hK hC
    refine ⟨g', vI 1, vI (5 + κ 0), vI x7, ?_, r2, ?_, r4⟩
    · rw [if_neg c, bX9_goOn_29, bX9_goOn_34, if_neg (by omega), bX9_goOn_41 _ _ _ _ _ _ _ (by omega), bX9_goOn_51, if_neg (by omega), bX9_goOn_58, bX9_goOn_63, h1]
      rw [show (10 : Int) - ((5 : Nat) : Int) = 5 from rfl] at r1
      rw [r1, bX9_goOn_111 _ _ _ _ _ _ _ (by omega)]
    · rw [candI_skip (fun to ht hc => by rcases hc with hc | hc <;> omega)]
      exact r3
theorem c_goOn_end (g : Hp) (k st i : Int) (u5 u6 u7 : SV) (h : g 20 11 ≤ i) : EV 12 qX9_goOn 9 [vR 83, vR 20, vI k, vI st, vI i, u5, u6, u7] [] g = some (none, g) := by
  rw [bX9_goOn_9, if_pos h, bX9_goOn_117]
theorem c_goOn {κ : Int → Int} (hI : KI κ) {s0 : St} (hx : 0 ≤ s0.1 ∧ s0.1 < 32) {k : Nat} {s : St} (Q : Qu) (g : Hp) (hQ : QI κ s0 Q) (hk : k < Q.length) (hs : (qE Q k).1 = s) (hK : ClsK g 20 κ s) (hC : ClsQ g Q) : ∃ g', EV 12 qX9_goOn 0 [vR 83, vR 20, vI (k : Int), vU, vU, vU, vU, vU] [] g = some (none, g') ∧ ClsK g' 20 κ s ∧ ClsQ g' (qExp κ Q k) ∧ frG g g' := by
  have i29 := hI.2.2.2.2.2.1
  have h9 := QI_len hI hQ
  have hpar : (qE Q k).2.1 < 9000 := by
    by_cases e : k = 0
    · subst e
      rw [hQ.2.2.1.2]
      show (0 : Nat) < 9000
      omega
    · have := (hQ.2.2.2 k (by omega) hk).1
      omega
  have hR : Rch κ s0.1 s := hQ.2.1 s (mem_qSt.mpr ⟨k, hk, hs⟩)
  have hp := Rch_pk hI hR
  rw [bX9_goOn_0, c_stateAt hC hk h9 hpar (by rw [hs]; exact hp.1), bnd_some, hs]
  have z : EV 12 qX9_goOn 5 [vR 83, vR 20, vI (k : Int), vU, vU, vU, vU, vU] ((some (vI (pk s))).toList ++ []) g = EV 12 qX9_goOn 9 [vR 83, vR 20, vI (k : Int), vI (pk s), vI 0, vU, vU, vU] [] g := bX9_goOn_5 _ _ _
  rw [z]
  unfold qExp cands
  rw [if_pos hk, hs, qAll_app, qAll_app]
  have hall : ∀ (l : List (St × Int)) (Q' : Qu), QI κ s0 Q' → k < Q'.length → qE Q' k = qE Q k → (∀ c ∈ l, CI κ s c) → QI κ s0 (qAll k ((qE Q k).2.2.1 + 1) Q' l) ∧ k < (qAll k ((qE Q k).2.2.1 + 1) Q' l).length ∧ qE (qAll k ((qE Q k).2.2.1 + 1) Q' l) k = qE Q k := fun l Q' a b c d => by
    have := QI_all hI hx l Q' a b (by rw [c, hs]; exact d)
    rw [c] at this
    exact ⟨this, Nat.lt_of_lt_of_le b (pre_len (qAll_pre _ _ _ _)), by rw [pre_lt (qAll_pre _ _ _ _) b, c]⟩
  rcases (by omega : κ 29 = 0 ∨ κ 29 = 1 ∨ κ 29 = 2 ∨ κ 29 = 3) with e | e | e | e
  · rw [if_neg (by omega), if_neg (by omega), if_neg (by omega)]
    have h11 : g 20 11 = κ 29 := hK.2.2.2.2.2.1
    exact ⟨g, c_goOn_end _ _ _ _ _ _ _ (by omega), hK, hC, frG.refl g⟩
  · rw [if_pos (by omega), if_neg (by omega), if_neg (by omega)]
    obtain ⟨g1, v5, v6, v7, a1, a2, a3, a4⟩ := c_goOn_p hI hx (i := 0) (by omega) Q g hQ hk hs hK hC vU vU vU
    have h11 : g1 20 11 = κ 29 := a2.2.2.2.2.2.1
    exact ⟨g1, by rw [a1, c_goOn_end _ _ _ _ _ _ _ (by omega)], a2, a3, a4⟩
  · rw [if_pos (by omega), if_pos (by omega), if_neg (by omega)]
    obtain ⟨g1, v5, v6, v7, a1, a2, a3, a4⟩ := c_goOn_p hI hx (i := 0) (by omega) Q g hQ hk hs hK hC vU vU vU
    obtain ⟨w1, w2, w3⟩ := hall _ Q hQ hk rfl (candI_CI (i := 0) (by omega) 10 (by omega))
    obtain ⟨g2, x5, x6, x7, b1, b2, b3, b4⟩ := c_goOn_p hI hx (i := 1) (by omega) _ g1 w1 w2 (by rw [w3]; exact hs) a2 a3 v5 v6 v7
    have h11 : g2 20 11 = κ 29 := b2.2.2.2.2.2.1
    rw [w3] at b3
    exact ⟨g2, by rw [a1, show (0 : Int) + 1 = 1 from rfl, b1, c_goOn_end _ _ _ _ _ _ _ (by omega)], b2, b3, a4.trans b4⟩
  · rw [if_pos (by omega), if_pos (by omega), if_pos (by omega)]
    obtain ⟨g1, v5, v6, v7, a1, a2, a3, a4⟩ := c_goOn_p hI hx (i := 0) (by omega) Q g hQ hk hs hK hC vU vU vU
    obtain ⟨w1, w2, w3⟩ := hall _ Q hQ hk rfl (candI_CI (i := 0) (by omega) 10 (by omega))
    obtain ⟨g2, x5, x6, x7, b1, b2, b3, b4⟩ := c_goOn_p hI hx (i := 1) (by omega) _ g1 w1 w2 (by rw [w3]; exact hs) a2 a3 v5 v6 v7
    rw [w3] at b3
    obtain ⟨y1, y2, y3⟩ := hall _ _ w1 w2 w3 (candI_CI (i := 1) (by omega) 10 (by omega))
    obtain ⟨g3, z5, z6, z7, d1, d2, d3, d4⟩ := c_goOn_p hI hx (i := 2) (by omega) _ g2 y1 y2 (by rw [y3]; exact hs) b2 b3 x5 x6 x7
    rw [y3] at d3
    have h11 : g3 20 11 = κ 29 := d2.2.2.2.2.2.1
    exact ⟨g3, by rw [a1, show (0 : Int) + 1 = 1 from rfl, b1, show (1 : Int) + 1 = 2 from rfl, d1, c_goOn_end _ _ _ _ _ _ _ (by omega)], d2, d3, (a4.trans b4).trans d4⟩
