/-! wet: the rows counted one after another, and in a table -/
def sumF (f : Int → Int) : Nat → Int → Int
  | 0, _ => 0
  | m + 1, i => f i + sumF f m (i + 1)
def wb (q : Int) : Int := if 5 ≤ q then bShl 1 (q - 5) else 0
def uc (κ : Int → Int) (pl wt : Int) : Nat → St → Int → Int
  | 0, s, w => if s.2.1 = pl ∧ w = wt then 1 else 0
  | n + 1, s, w => sumF (fun to => if aCan κ s 0 to then uc κ pl wt n (aGo κ s 0 to) (bOr w (wb to)) else 0) 10 0
def p10 : Nat → Int
  | 0 => 1
  | n + 1 => 10 * p10 n
theorem p10_le {n : Nat} (h : n ≤ 6) : 1 ≤ p10 n ∧ p10 n ≤ 1000000 ∧ (n ≤ 5 → p10 n ≤ 100000) := by
  rcases (by omega : n = 0 ∨ n = 1 ∨ n = 2 ∨ n = 3 ∨ n = 4 ∨ n = 5 ∨ n = 6) with rfl | rfl | rfl | rfl | rfl | rfl | rfl <;> decide
theorem p10_nn : ∀ n : Nat, 0 ≤ p10 n := by
  intro n
  induction n with
  | zero => decide
  | succ n ih => show 0 ≤ 10 * p10 n; omega
theorem sumF_zero {f : Int → Int} : ∀ (m : Nat) (i : Int), (∀ j, i ≤ j → j < i + m → f j = 0) → sumF f m i = 0 := by
  intro m
  induction m with
  | zero => intro i _; rfl
  | succ m ih =>
    intro i h
    show f i + sumF f m (i + 1) = 0
    rw [h i (by omega) (by omega), ih (i + 1) (fun j j0 j1 => h j (by omega) (by omega))]
    rfl
theorem sumF_eq {f k : Int → Int} : ∀ (m : Nat) (i : Int), (∀ j, i ≤ j → j < i + m → f j = k j) → sumF f m i = sumF k m i := by
  intro m
  induction m with
  | zero => intro i _; rfl
  | succ m ih =>
    intro i h
    show f i + sumF f m (i + 1) = k i + sumF k m (i + 1)
    rw [h i (by omega) (by omega), ih (i + 1) (fun j j0 j1 => h j (by omega) (by omega))]
theorem sumF_le {f : Int → Int} {B : Int} : ∀ (m : Nat) (i : Int), (∀ j, i ≤ j → j < i + m → 0 ≤ f j ∧ f j ≤ B) → 0 ≤ sumF f m i ∧ sumF f m i ≤ m * B := by
  intro m
  induction m with
  | zero => intro i _; exact ⟨Int.le_refl _, by show (0 : Int) ≤ ((0 : Nat) : Int) * B; omega⟩
  | succ m ih =>
    intro i h
    have a := h i (by omega) (by omega)
    have b := ih (i + 1) (fun j j0 j1 => h j (by omega) (by omega))
    have e : ((m + 1 : Nat) : Int) * B = (m : Int) * B + B := by
      rw [show ((m + 1 : Nat) : Int) = (m : Int) + 1 by omega, Int.add_mul, Int.one_mul]
    rw [e]
    show 0 ≤ f i + sumF f m (i + 1) ∧ f i + sumF f m (i + 1) ≤ _
    generalize (m : Int) * B = z at *
    omega
theorem w_lt0 : ∀ w : Nat, w < 32 → ∀ q : Nat, q < 10 → (0 ≤ bOr (w : Int) (wb (q : Int)) ∧ bOr (w : Int) (wb (q : Int)) < 32) ∧ bOr (w : Int) 0 = (w : Int) ∧ bAnd (w : Int) (bXor (w : Int) (-1)) = 0 := by decide +kernel
theorem w_sub0 : ∀ w : Nat, w < 32 → ∀ q : Nat, q < 10 → ∀ t : Nat, t < 32 → bAnd (w : Int) (bXor (t : Int) (-1)) ≠ 0 → bAnd (bOr (w : Int) (wb (q : Int))) (bXor (t : Int) (-1)) ≠ 0 := by decide +kernel
theorem w_lt {w q : Int} (hw : 0 ≤ w ∧ w < 32) (hq : 0 ≤ q ∧ q < 10) : (0 ≤ bOr w (wb q) ∧ bOr w (wb q) < 32) ∧ bOr w 0 = w ∧ bAnd w (bXor w (-1)) = 0 := by
  obtain ⟨a, rfl⟩ := Int.eq_ofNat_of_zero_le hw.1
  obtain ⟨b, rfl⟩ := Int.eq_ofNat_of_zero_le hq.1
  exact w_lt0 a (by omega) b (by omega)
theorem w_sub {w q t : Int} (hw : 0 ≤ w ∧ w < 32) (hq : 0 ≤ q ∧ q < 10) (ht : 0 ≤ t ∧ t < 32) (h : bAnd w (bXor t (-1)) ≠ 0) : bAnd (bOr w (wb q)) (bXor t (-1)) ≠ 0 := by
  obtain ⟨a, rfl⟩ := Int.eq_ofNat_of_zero_le hw.1
  obtain ⟨b, rfl⟩ := Int.eq_ofNat_of_zero_le hq.1
  obtain ⟨c, rfl⟩ := Int.eq_ofNat_of_zero_le ht.1
  exact w_sub0 a (by omega) b (by omega) c (by omega) h
theorem uc_le (κ : Int → Int) (pl wt : Int) : ∀ (n : Nat) (s : St) (w : Int), 0 ≤ uc κ pl wt n s w ∧ uc κ pl wt n s w ≤ p10 n := by
  intro n
  induction n with
  | zero =>
    intro s w
    show 0 ≤ (if s.2.1 = pl ∧ w = wt then 1 else 0) ∧ (if s.2.1 = pl ∧ w = wt then 1 else 0) ≤ (1 : Int)
    split <;> omega
  | succ n ih =>
    intro s w
    refine sumF_le 10 0 (fun j _ _ => ?_)
    have := p10_nn n
    have := ih (aGo κ s 0 j) (bOr w (wb j))
    split <;> omega
theorem uc_zero (κ : Int → Int) (pl : Int) {wt : Int} (ht : 0 ≤ wt ∧ wt < 32) : ∀ (n : Nat) (s : St) (w : Int), 0 ≤ w ∧ w < 32 → bAnd w (bXor wt (-1)) ≠ 0 → uc κ pl wt n s w = 0 := by
  intro n
  induction n with
  | zero =>
    intro s w hw h
    refine if_neg (fun z => h ?_)
    rw [z.2]
    exact (w_lt ht (q := 0) (by omega)).2.2
  | succ n ih =>
    intro s w hw h
    refine sumF_zero 10 0 (fun j j0 j1 => ?_)
    split
    · exact ih _ _ (w_lt hw (by omega)).1 (w_sub hw (by omega) ht h)
    · rfl
theorem c_rows {κ : Int → Int} (hI : KI κ) (h29 : κ 29 = 1) {pl wt : Int} (ht : 0 ≤ wt ∧ wt < 32) : ∀ (n d : Nat) (x : Int) (g : Hp) (s : St) (w : Int), x = n → n ≤ 6 → 20 + n ≤ d → SVd κ s → ClsK g 20 κ s → 0 ≤ w ∧ w < 32 → ∃ g' s', EV d qX11_rowsOf 0 [vR 20, vI x, vI pl, vI wt, vI w, vU, vU, vU, vU, vU] [] g = some (some (vI (uc κ pl wt n s (bOr w (wb s.2.1)))), g') ∧ ClsK g' 20 κ s' ∧ frT g g' := by
  have h0 := hI.1
  intro n
  induction n with
  | zero =>
    intro d x g s w hx hn hd hV hK hw
    have hq := (hV.2 0 (by omega) (by omega)).1
    rw [qa_0] at hq
    have e36 : g 36 0 = s.2.1 := (hK.2.2.2.2.2.2 0 (by omega) (by omega)).2
    refine ⟨g, s, ?_, hK, frT.refl g⟩
    have st : EV d qX11_rowsOf 0 [vR 20, vI x, vI pl, vI wt, vI w, vU, vU, vU, vU, vU] [] g = EV d qX11_rowsOf 28 [vR 20, vI x, vI pl, vI wt, vI w, vI s.2.1, vU, vU, vU, vU] [vI (bOr w (wb s.2.1))] g := by
      rw [bX11_rowsOf_0 (by omega), e36]
      by_cases c : 5 ≤ s.2.1
      · rw [if_pos c, bX11_rowsOf_19 (by omega) _ _ _ _ _ _ (by omega), show wb s.2.1 = bShl 1 (s.2.1 - 5) from if_pos c]
      · rw [if_neg c, bX11_rowsOf_14 (by omega), show wb s.2.1 = 0 from if_neg c, (w_lt hw (q := 0) (by omega)).2.1]
    have hW := (w_lt hw (q := s.2.1) (by omega)).1
    generalize bOr w (wb s.2.1) = W at *
    rw [st, bX11_rowsOf_28 (by omega)]
    by_cases c : bAnd W (bXor wt (-1)) = 0
    · rw [if_pos c, bX11_rowsOf_41 (by omega), if_neg (by omega), bX11_rowsOf_45 (by omega)]
      show _ = some (some (vI (if s.2.1 = pl ∧ W = wt then 1 else 0)), g)
      by_cases c1 : s.2.1 = pl
      · rw [if_pos c1, bX11_rowsOf_51 (by omega)]
        by_cases c2 : W = wt
        · rw [if_pos c2, if_pos ⟨c1, c2⟩, bX11_rowsOf_57 (by omega), bX11_rowsOf_62 (by omega)]
        · rw [if_neg c2, if_neg (fun z => c2 z.2), bX11_rowsOf_61 (by omega), bX11_rowsOf_62 (by omega)]
      · rw [if_neg c1, if_neg (fun z => c1 z.1), bX11_rowsOf_61 (by omega), bX11_rowsOf_62 (by omega)]
    · rw [if_neg c, bX11_rowsOf_39 (by omega), uc_zero κ pl ht 0 s W hW c]
  | succ n ih =>
    intro d x g s w hx hn hd hV hK hw
    have hq := (hV.2 0 (by omega) (by omega)).1
    rw [qa_0] at hq
    have e36 : g 36 0 = s.2.1 := (hK.2.2.2.2.2.2 0 (by omega) (by omega)).2
    have st : EV d qX11_rowsOf 0 [vR 20, vI x, vI pl, vI wt, vI w, vU, vU, vU, vU, vU] [] g = EV d qX11_rowsOf 28 [vR 20, vI x, vI pl, vI wt, vI w, vI s.2.1, vU, vU, vU, vU] [vI (bOr w (wb s.2.1))] g := by
      rw [bX11_rowsOf_0 (by omega), e36]
      by_cases c : 5 ≤ s.2.1
      · rw [if_pos c, bX11_rowsOf_19 (by omega) _ _ _ _ _ _ (by omega), show wb s.2.1 = bShl 1 (s.2.1 - 5) from if_pos c]
      · rw [if_neg c, bX11_rowsOf_14 (by omega), show wb s.2.1 = 0 from if_neg c, (w_lt hw (q := 0) (by omega)).2.1]
    have hW := (w_lt hw (q := s.2.1) (by omega)).1
    generalize bOr w (wb s.2.1) = W at *
    rw [st, bX11_rowsOf_28 (by omega)]
    by_cases c : bAnd W (bXor wt (-1)) = 0
    · rw [if_pos c, bX11_rowsOf_41 (by omega), if_pos (by omega), bX11_rowsOf_63 (by omega), c_packed hF20 hK hI (SVd_ly h0 hV) (fun j j0 j1 => by have := hV.2 j j0 (by omega); omega), bnd_some, pk3_pk hV]
      have hdig := pk_dig (s := s) (by omega) (by have := hV.2 1 (by omega) (by omega); rw [qa_1] at this; omega) (by have := hV.2 2 (by omega) (by omega); rw [qa_2] at this; omega)
      have hpk : 0 ≤ pk s := by
        have a := hV.1.1
        have b := (hV.2 1 (by omega) (by omega)).1.1
        have c := (hV.2 2 (by omega) (by omega)).1.1
        rw [qa_1] at b
        rw [qa_2] at c
        unfold pk
        omega
      have loop : ∀ (m : Nat) (i acc : Int) (g : Hp), 0 ≤ i → i + m = 10 → 0 ≤ acc → acc + m * 100000 ≤ 1000000 → ClsK g 20 κ s → ∃ g' s', EV d qX11_rowsOf 75 [vR 20, vI x, vI pl, vI wt, vI w, vI s.2.1, vI W, vI (pk s), vI acc, vI i] [] g = some (some (vI (acc + sumF (fun to => if aCan κ s 0 to then uc κ pl wt n (aGo κ s 0 to) (bOr W (wb to)) else 0) m i)), g') ∧ ClsK g' 20 κ s' ∧ frT g g' := by
        intro m
        induction m with
        | zero =>
          intro i acc g i0 i1 a0 a1 hK
          have e201 : g 20 1 = κ 0 := hK.1
          exact ⟨g, s, by rw [bX11_rowsOf_75 (by omega) _ _ _ _ _ _ _ _ _ _ (by omega), if_pos (by omega), bX11_rowsOf_131 (by omega)]; show _ = some (some (vI (acc + 0)), g); rw [Int.add_zero], hK, frT.refl g⟩
        | succ m ihm =>
          intro i acc g i0 i1 a0 a1 hK
          have e201 : g 20 1 = κ 0 := hK.1
          have a2 : acc + m * 100000 + 100000 ≤ 1000000 := by omega
          by_cases lt : i < 5 + κ 0
          · have s1 : EV d qX11_rowsOf 75 [vR 20, vI x, vI pl, vI wt, vI w, vI s.2.1, vI W, vI (pk s), vI acc, vI i] [] g = EV d qX11_rowsOf 93 [vR 20, vI x, vI pl, vI wt, vI w, vI s.2.1, vI W, vI (pk s), vI acc, vI i] [vI (b01 (aCan κ s 0 i))] g := by
              rw [bX11_rowsOf_75 (by omega) _ _ _ _ _ _ _ _ _ _ (by omega), if_neg (by omega), bX11_rowsOf_86 (by omega), c_canGo hF20 hK hI (p := 0) (by omega) (by omega) (by rw [qa_0]; omega), bnd_some]
              rfl
            rw [s1, bX11_rowsOf_93 (by omega)]
            show ∃ g' s', _ = some (some (vI (acc + ((if aCan κ s 0 i then uc κ pl wt n (aGo κ s 0 i) (bOr W (wb i)) else 0) + sumF _ m (i + 1)))), g') ∧ _
            by_cases can : aCan κ s 0 i
            · have hU := uc_le κ pl wt n (aGo κ s 0 i) (bOr W (wb i))
              have hp := (p10_le (n := n) (by omega)).2.2 (by omega)
              have hV1 : SVd κ (aGo κ s 0 i) := (Rch_go hI (SVd_ly h0 hV) ⟨hV, nine_self κ s.1⟩ (by omega) i0 can).1
              have hK1 : ClsK (up (up g 36 0 i) 20 6 (aGo κ s 0 i).1) 20 κ (aGo κ s 0 i) := ClsK_ly (ClsK_pl hK (by omega) (i := 0) (v := i) (by omega)) _
              have e1 : (aGo κ s 0 i).2.1 = i := by simp [aGo, qs]
              obtain ⟨g2, s2, b1, b2, b3⟩ := ih (20 + (x - 1).toNat) (x - 1) _ _ W (by omega) (by omega) (by omega) hV1 hK1 hW
              rw [e1] at b1
              have hK3 := ClsK_unp b2 (by omega) (pk s)
              rw [hdig] at hK3
              obtain ⟨g4, s4, c1, c2, c3⟩ := ihm (i + 1) (acc + uc κ pl wt n (aGo κ s 0 i) (bOr W (wb i))) (unp g2 20 (pk s)) (by omega) (by omega) (by omega) (by omega) hK3
              refine ⟨g4, s4, ?_, c2, ?_⟩
              · rw [if_neg (b01_pos can), if_pos can, bX11_rowsOf_96 (by omega), c_go hF20 hK hI (p := 0) (by omega), bnd_some]
                show EV d qX11_rowsOf 103 _ [] _ = _
                rw [bX11_rowsOf_103 (by omega) _ _ _ _ _ _ _ _ _ _ (by omega) (by omega), b1, bnd_some]
                show EV d qX11_rowsOf 116 _ [vI _, vI _] _ = _
                rw [bX11_rowsOf_116 (by omega) _ _ _ _ _ _ _ _ _ _ _ _ (by omega), c_unpack hF20 _ _ hpk, bnd_some]
                show EV d qX11_rowsOf 125 _ [] _ = _
                rw [bX11_rowsOf_125 (by omega) _ _ _ _ _ _ _ _ _ _ (by omega), c1, Int.add_assoc]
              · refine ((frT.trans (fun a a1 a2 => ?_) b3).trans (fun a a1 a2 => ?_)).trans c3
                · funext j
                  rw [up_ne (by omega), up_ne (by omega)]
                · unfold unp
                  funext j
                  rw [up_ne (by omega), up_ne (by omega), up_ne (by omega), up_ne (by omega)]
            · obtain ⟨g4, s4, c1, c2, c3⟩ := ihm (i + 1) acc g (by omega) (by omega) (by omega) (by omega) hK
              refine ⟨g4, s4, ?_, c2, c3⟩
              rw [if_pos (b01_neg can), if_neg can, Int.zero_add, bX11_rowsOf_125 (by omega) _ _ _ _ _ _ _ _ _ _ (by omega), c1]
          · refine ⟨g, s, ?_, hK, frT.refl g⟩
            rw [bX11_rowsOf_75 (by omega) _ _ _ _ _ _ _ _ _ _ (by omega), if_pos (by omega), bX11_rowsOf_131 (by omega), sumF_zero, Int.add_zero]
            intro j j0 j1
            refine if_neg (fun z => ?_)
            rcases z with z | z <;> omega
      obtain ⟨g', s', l1, l2, l3⟩ := loop 10 0 0 g (by omega) (by omega) (by omega) (by omega) hK
      refine ⟨g', s', ?_, l2, l3⟩
      show EV d qX11_rowsOf 67 _ [vI _] _ = _
      rw [bX11_rowsOf_67 (by omega), l1, Int.zero_add]
      rfl
    · exact ⟨g, s, by rw [if_neg c, bX11_rowsOf_39 (by omega), uc_zero κ pl ht (n + 1) s W hW c], hK, frT.refl g⟩
