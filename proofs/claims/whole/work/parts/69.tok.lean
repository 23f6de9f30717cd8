/-! text: what the next token is -/
abbrev isS (b : Int → Int) (L i : Int) : Prop := i < L ∧ b i = 32
abbrev isC (b : Int → Int) (L i : Int) : Prop := i < L ∧ 97 ≤ b i ∧ b i ≤ 122
abbrev isD (b : Int → Int) (L i : Int) : Prop := i < L ∧ 48 ≤ b i ∧ b i ≤ 57
def rn (P : Int → Prop) [DecidablePred P] : Nat → Int → Int
  | 0, i => i
  | m + 1, i => if P i then rn P m (i + 1) else i
def fE (P : Int → Prop) [DecidablePred P] (L i : Int) : Int := rn P (L - i).toNat i
theorem fE_yes {P : Int → Prop} [DecidablePred P] {L i : Int} (h : i < L) (hp : P i) : fE P L i = fE P L (i + 1) := by
  unfold fE
  rw [show (L - i).toNat = (L - (i + 1)).toNat + 1 by omega]
  show (if P i then _ else _) = _
  rw [if_pos hp]
theorem fE_no {P : Int → Prop} [DecidablePred P] {L i : Int} (hp : ¬ P i) : fE P L i = i := by
  unfold fE
  cases (L - i).toNat with
  | zero => rfl
  | succ m =>
    show (if P i then _ else _) = _
    rw [if_neg hp]
theorem rn_all {P : Int → Prop} [DecidablePred P] : ∀ (m : Nat) (i : Int), i ≤ rn P m i ∧ rn P m i ≤ i + m ∧ ∀ j, i ≤ j → j < rn P m i → P j := by
  intro m
  induction m with
  | zero => intro i; exact ⟨Int.le_refl _, by show i ≤ i + ((0 : Nat) : Int); omega, fun j j0 j1 => by have : rn P 0 i = i := rfl; omega⟩
  | succ m ih =>
    intro i
    by_cases h : P i
    · have e : rn P (m + 1) i = rn P m (i + 1) := if_pos h
      obtain ⟨a, b, c⟩ := ih (i + 1)
      rw [e]
      refine ⟨by omega, by omega, fun j j0 j1 => ?_⟩
      by_cases ej : j = i
      · rw [ej]; exact h
      · exact c j (by omega) j1
    · have e : rn P (m + 1) i = i := if_neg h
      rw [e]
      exact ⟨Int.le_refl _, by omega, fun j j0 j1 => by omega⟩
theorem fE_all {P : Int → Prop} [DecidablePred P] {L i : Int} (h : i ≤ L) : i ≤ fE P L i ∧ fE P L i ≤ L ∧ ∀ j, i ≤ j → j < fE P L i → P j := by
  have := rn_all (P := P) (L - i).toNat i
  unfold fE
  refine ⟨this.1, by omega, this.2.2⟩
abbrev wEq (s : List Int) (b : Int → Int) (j e : Int) : Prop := (s.length : Int) = e - j ∧ ∀ i : Nat, i < s.length → s.getD i 0 = b (j + i)
def wdI (b : Int → Int) (j e : Int) : Int := if wEq (sTxt 200) b j e then 0 else if wEq (sTxt 201) b j e then 1 else if wEq (sTxt 202) b j e then 2 else if wEq (sTxt 203) b j e then 3 else if wEq (sTxt 204) b j e then 4 else -1
theorem wdI_le (b : Int → Int) (j e : Int) : -1 ≤ wdI b j e ∧ wdI b j e ≤ 4 := by
  unfold wdI
  repeat' split
  all_goals omega
def sp (b : Int → Int) (L i : Int) : Int := fE (isS b L) L i
def we (b : Int → Int) (L i : Int) : Int := fE (isC b L) L i
theorem sp_no {b : Int → Int} {L i : Int} (h : ¬ isS b L i) : sp b L i = i := fE_no (P := isS b L) h
theorem sp_yes {b : Int → Int} {L i : Int} (h : isS b L i) : sp b L i = sp b L (i + 1) := fE_yes (P := isS b L) h.1 h
theorem sp_all {b : Int → Int} {L i : Int} (h : i ≤ L) : i ≤ sp b L i ∧ sp b L i ≤ L := ⟨(fE_all (P := isS b L) h).1, (fE_all (P := isS b L) h).2.1⟩
theorem we_no {b : Int → Int} {L i : Int} (h : ¬ isC b L i) : we b L i = i := fE_no (P := isC b L) h
theorem we_yes {b : Int → Int} {L i : Int} (h : isC b L i) : we b L i = we b L (i + 1) := fE_yes (P := isC b L) h.1 h
theorem we_all {b : Int → Int} {L i : Int} (h : i ≤ L) : i ≤ we b L i ∧ we b L i ≤ L ∧ ∀ j, i ≤ j → j < we b L i → isC b L j := fE_all (P := isC b L) h
def tok (b : Int → Int) (L j : Int) : Int × Int × Int :=
  if j = L then (0, 0, j) else if isC b L j then (if wdI b j (we b L j) = -1 then 4 else 1, wdI b j (we b L j), we b L j) else if isD b L j then (if isD b L (j + 1) then (if isD b L (j + 2) then (4, 0, j + 3) else (2, 10 * (b j - 48) + b (j + 1) - 48, j + 2)) else (2, b j - 48, j + 1)) else (if b j = 59 then 3 else 4, 0, j + 1)
theorem b01_yes {c : Prop} [Decidable c] (h : c) : b01 c = 1 := b01_1.mpr h
theorem b01_no {c : Prop} [Decidable c] (h : ¬ c) : b01 c = 0 := b01_neg h
theorem c_isLetter (g : Hp) (x : Int) : EV 8 qX10_isLetter 0 [vI x] [] g = some (some (vI (b01 (97 ≤ x ∧ x ≤ 122))), g) := by
  by_cases h1 : x < 97
  · rw [bX10_isLetter_0, if_pos h1, bX10_isLetter_16, bX10_isLetter_17 _ _ _ (by omega), b01_no (by omega)]
  · by_cases h2 : 122 < x
    · rw [bX10_isLetter_0, if_neg h1, bX10_isLetter_6, if_pos h2, bX10_isLetter_16, bX10_isLetter_17 _ _ _ (by omega), b01_no (by omega)]
    · rw [bX10_isLetter_0, if_neg h1, bX10_isLetter_6, if_neg h2, bX10_isLetter_12, bX10_isLetter_17 _ _ _ (by omega), b01_yes (by omega)]
theorem c_isFigure (g : Hp) (x : Int) : EV 8 qX10_isFigure 0 [vI x] [] g = some (some (vI (b01 (48 ≤ x ∧ x ≤ 57))), g) := by
  by_cases h1 : x < 48
  · rw [bX10_isFigure_0, if_pos h1, bX10_isFigure_16, bX10_isFigure_17 _ _ _ (by omega), b01_no (by omega)]
  · by_cases h2 : 57 < x
    · rw [bX10_isFigure_0, if_neg h1, bX10_isFigure_6, if_pos h2, bX10_isFigure_16, bX10_isFigure_17 _ _ _ (by omega), b01_no (by omega)]
    · rw [bX10_isFigure_0, if_neg h1, bX10_isFigure_6, if_neg h2, bX10_isFigure_12, bX10_isFigure_17 _ _ _ (by omega), b01_yes (by omega)]
theorem c_isWord0 (g : Hp) (h3 : 0 ≤ g 79 3 ∧ g 79 3 ≤ g 79 4 ∧ g 79 4 ≤ 200) : EV 8 qX10_isWord 0 [vR 79, vR 200, vU] [] g = some (some (vI (b01 (wEq (sTxt 200) (g 80) (g 79 3) (g 79 4)))), g) := by
  have hl : (sTxt 200).length = 6 := rfl
  rw [bX10_isWords0_0 _ (by omega)]
  by_cases hn : (6 : Int) = g 79 4 - g 79 3
  · rw [if_pos hn, bX10_isWords0_18]
    have loop : ∀ (m : Nat) (i : Int), 0 ≤ i → i + m = 6 → (∀ j : Nat, (j : Int) < i → (sTxt 200).getD j 0 = g 80 (g 79 3 + j)) → EV 8 qX10_isWord 20 [vR 79, vR 200, vI i] [] g = some (some (vI (b01 (wEq (sTxt 200) (g 80) (g 79 3) (g 79 4)))), g) := by
      intro m
      induction m with
      | zero =>
        intro i i0 i1 hh
        rw [bX10_isWords0_20, if_pos (by omega), bX10_isWords0_55, b01_yes]
        exact ⟨by rw [hl]; exact hn, fun j hj => hh j (by omega)⟩
      | succ m ih =>
        intro i i0 i1 hh
        rw [bX10_isWords0_20, if_neg (by omega), bX10_isWords0_28, ev_sat (q := qX10_isWord) (pc := 30) (a := 200) (i := i) dX10_isWord_30 ct_10_73 ⟨by omega, by omega, i0, by omega, Nat.zero_le _⟩]
        show EV 8 qX10_isWord 33 _ [vI _] _ = _
        rw [bX10_isWords0_33 _ _ _ (by omega) (by omega)]
        by_cases c : (sTxt 200).getD i.toNat 0 = g 80 (g 79 3 + i)
        · rw [if_pos c, bX10_isWords0_49 _ _ (by omega)]
          exact ih (i + 1) (by omega) (by omega) (fun j hj => by
            by_cases e : (j : Int) = i
            · have : i.toNat = j := by omega
              rw [this, ← e] at c
              exact c
            · exact hh j (by omega))
        · rw [if_neg c, bX10_isWords0_47, b01_no]
          intro z
          refine c ?_
          have := z.2 i.toNat (by omega)
          rw [this, Int.toNat_of_nonneg i0]
    exact loop 6 0 (by omega) (by omega) (fun j hj => by omega)
  · rw [if_neg hn, bX10_isWords0_16, b01_no]
    intro z
    have := z.1
    rw [hl] at this
    exact hn this
theorem c_isWord1 (g : Hp) (h3 : 0 ≤ g 79 3 ∧ g 79 3 ≤ g 79 4 ∧ g 79 4 ≤ 200) : EV 8 qX10_isWord 0 [vR 79, vR 201, vU] [] g = some (some (vI (b01 (wEq (sTxt 201) (g 80) (g 79 3) (g 79 4)))), g) := by
  have hl : (sTxt 201).length = 4 := rfl
  rw [bX10_isWords1_0 _ (by omega)]
  by_cases hn : (4 : Int) = g 79 4 - g 79 3
  · rw [if_pos hn, bX10_isWords1_18]
    have loop : ∀ (m : Nat) (i : Int), 0 ≤ i → i + m = 4 → (∀ j : Nat, (j : Int) < i → (sTxt 201).getD j 0 = g 80 (g 79 3 + j)) → EV 8 qX10_isWord 20 [vR 79, vR 201, vI i] [] g = some (some (vI (b01 (wEq (sTxt 201) (g 80) (g 79 3) (g 79 4)))), g) := by
      intro m
      induction m with
      | zero =>
        intro i i0 i1 hh
        rw [bX10_isWords1_20, if_pos (by omega), bX10_isWords1_55, b01_yes]
        exact ⟨by rw [hl]; exact hn, fun j hj => hh j (by omega)⟩
      | succ m ih =>
        intro i i0 i1 hh
        rw [bX10_isWords1_20, if_neg (by omega), bX10_isWords1_28, ev_sat (q := qX10_isWord) (pc := 30) (a := 201) (i := i) dX10_isWord_30 ct_10_73 ⟨by omega, by omega, i0, by omega, Nat.zero_le _⟩]
        show EV 8 qX10_isWord 33 _ [vI _] _ = _
        rw [bX10_isWords1_33 _ _ _ (by omega) (by omega)]
        by_cases c : (sTxt 201).getD i.toNat 0 = g 80 (g 79 3 + i)
        · rw [if_pos c, bX10_isWords1_49 _ _ (by omega)]
          exact ih (i + 1) (by omega) (by omega) (fun j hj => by
            by_cases e : (j : Int) = i
            · have : i.toNat = j := by omega
              rw [this, ← e] at c
              exact c
            · exact hh j (by omega))
        · rw [if_neg c, bX10_isWords1_47, b01_no]
          intro z
          refine c ?_
          have := z.2 i.toNat (by omega)
          rw [this, Int.toNat_of_nonneg i0]
    exact loop 4 0 (by omega) (by omega) (fun j hj => by omega)
  · rw [if_neg hn, bX10_isWords1_16, b01_no]
    intro z
    have := z.1
    rw [hl] at this
    exact hn this
theorem c_isWord2 (g : Hp) (h3 : 0 ≤ g 79 3 ∧ g 79 3 ≤ g 79 4 ∧ g 79 4 ≤ 200) : EV 8 qX10_isWord 0 [vR 79, vR 202, vU] [] g = some (some (vI (b01 (wEq (sTxt 202) (g 80) (g 79 3) (g 79 4)))), g) := by
  have hl : (sTxt 202).length = 5 := rfl
  rw [bX10_isWords2_0 _ (by omega)]
  by_cases hn : (5 : Int) = g 79 4 - g 79 3
  · rw [if_pos hn, bX10_isWords2_18]
    have loop : ∀ (m : Nat) (i : Int), 0 ≤ i → i + m = 5 → (∀ j : Nat, (j : Int) < i → (sTxt 202).getD j 0 = g 80 (g 79 3 + j)) → EV 8 qX10_isWord 20 [vR 79, vR 202, vI i] [] g = some (some (vI (b01 (wEq (sTxt 202) (g 80) (g 79 3) (g 79 4)))), g) := by
      intro m
      induction m with
      | zero =>
        intro i i0 i1 hh
        rw [bX10_isWords2_20, if_pos (by omega), bX10_isWords2_55, b01_yes]
        exact ⟨by rw [hl]; exact hn, fun j hj => hh j (by omega)⟩
      | succ m ih =>
        intro i i0 i1 hh
        rw [bX10_isWords2_20, if_neg (by omega), bX10_isWords2_28, ev_sat (q := qX10_isWord) (pc := 30) (a := 202) (i := i) dX10_isWord_30 ct_10_73 ⟨by omega, by omega, i0, by omega, Nat.zero_le _⟩]
        show EV 8 qX10_isWord 33 _ [vI _] _ = _
        rw [bX10_isWords2_33 _ _ _ (by omega) (by omega)]
        by_cases c : (sTxt 202).getD i.toNat 0 = g 80 (g 79 3 + i)
        · rw [if_pos c, bX10_isWords2_49 _ _ (by omega)]
          exact ih (i + 1) (by omega) (by omega) (fun j hj => by
            by_cases e : (j : Int) = i
            · have : i.toNat = j := by omega
              rw [this, ← e] at c
              exact c
            · exact hh j (by omega))
        · rw [if_neg c, bX10_isWords2_47, b01_no]
          intro z
          refine c ?_
          have := z.2 i.toNat (by omega)
          rw [this, Int.toNat_of_nonneg i0]
    exact loop 5 0 (by omega) (by omega) (fun j hj => by omega)
  · rw [if_neg hn, bX10_isWords2_16, b01_no]
    intro z
    have := z.1
    rw [hl] at this
    exact hn this
theorem c_isWord3 (g : Hp) (h3 : 0 ≤ g 79 3 ∧ g 79 3 ≤ g 79 4 ∧ g 79 4 ≤ 200) : EV 8 qX10_isWord 0 [vR 79, vR 203, vU] [] g = some (some (vI (b01 (wEq (sTxt 203) (g 80) (g 79 3) (g 79 4)))), g) := by
  have hl : (sTxt 203).length = 3 := rfl
  rw [bX10_isWords3_0 _ (by omega)]
  by_cases hn : (3 : Int) = g 79 4 - g 79 3
  · rw [if_pos hn, bX10_isWords3_18]
    have loop : ∀ (m : Nat) (i : Int), 0 ≤ i → i + m = 3 → (∀ j : Nat, (j : Int) < i → (sTxt 203).getD j 0 = g 80 (g 79 3 + j)) → EV 8 qX10_isWord 20 [vR 79, vR 203, vI i] [] g = some (some (vI (b01 (wEq (sTxt 203) (g 80) (g 79 3) (g 79 4)))), g) := by
      intro m
      induction m with
      | zero =>
        intro i i0 i1 hh
        rw [bX10_isWords3_20, if_pos (by omega), bX10_isWords3_55, b01_yes]
        exact ⟨by rw [hl]; exact hn, fun j hj => hh j (by omega)⟩
      | succ m ih =>
        intro i i0 i1 hh
        rw [bX10_isWords3_20, if_neg (by omega), bX10_isWords3_28, ev_sat (q := qX10_isWord) (pc := 30) (a := 203) (i := i) dX10_isWord_30 ct_10_73 ⟨by omega, by omega, i0, by omega, Nat.zero_le _⟩]
        show EV 8 qX10_isWord 33 _ [vI _] _ = _
        rw [bX10_isWords3_33 _ _ _ (by omega) (by omega)]
        by_cases c : (sTxt 203).getD i.toNat 0 = g 80 (g 79 3 + i)
        · rw [if_pos c, bX10_isWords3_49 _ _ (by omega)]
          exact ih (i + 1) (by omega) (by omega) (fun j hj => by
            by_cases e : (j : Int) = i
            · have : i.toNat = j := by omega
              rw [this, ← e] at c
              exact c
            · exact hh j (by omega))
        · rw [if_neg c, bX10_isWords3_47, b01_no]
          intro z
          refine c ?_
          have := z.2 i.toNat (by omega)
          rw [this, Int.toNat_of_nonneg i0]
    exact loop 3 0 (by omega) (by omega) (fun j hj => by omega)
  · rw [if_neg hn, bX10_isWords3_16, b01_no]
    intro z
    have := z.1
    rw [hl] at this
    exact hn this
theorem c_isWord4 (g : Hp) (h3 : 0 ≤ g 79 3 ∧ g 79 3 ≤ g 79 4 ∧ g 79 4 ≤ 200) : EV 8 qX10_isWord 0 [vR 79, vR 204, vU] [] g = some (some (vI (b01 (wEq (sTxt 204) (g 80) (g 79 3) (g 79 4)))), g) := by
  have hl : (sTxt 204).length = 4 := rfl
  rw [bX10_isWords4_0 _ (by omega)]
  by_cases hn : (4 : Int) = g 79 4 - g 79 3
  · rw [if_pos hn, bX10_isWords4_18]
    have loop : ∀ (m : Nat) (i : Int), 0 ≤ i → i + m = 4 → (∀ j : Nat, (j : Int) < i → (sTxt 204).getD j 0 = g 80 (g 79 3 + j)) → EV 8 qX10_isWord 20 [vR 79, vR 204, vI i] [] g = some (some (vI (b01 (wEq (sTxt 204) (g 80) (g 79 3) (g 79 4)))), g) := by
      intro m
      induction m with
      | zero =>
        intro i i0 i1 hh
        rw [bX10_isWords4_20, if_pos (by omega), bX10_isWords4_55, b01_yes]
        exact ⟨by rw [hl]; exact hn, fun j hj => hh j (by omega)⟩
      | succ m ih =>
        intro i i0 i1 hh
        rw [bX10_isWords4_20, if_neg (by omega), bX10_isWords4_28, ev_sat (q := qX10_isWord) (pc := 30) (a := 204) (i := i) dX10_isWord_30 ct_10_73 ⟨by omega, by omega, i0, by omega, Nat.zero_le _⟩]
        show EV 8 qX10_isWord 33 _ [vI _] _ = _
        rw [bX10_isWords4_33 _ _ _ (by omega) (by omega)]
        by_cases c : (sTxt 204).getD i.toNat 0 = g 80 (g 79 3 + i)
        · rw [if_pos c, bX10_isWords4_49 _ _ (by omega)]
          exact ih (i + 1) (by omega) (by omega) (fun j hj => by
            by_cases e : (j : Int) = i
            · have : i.toNat = j := by omega
              rw [this, ← e] at c
              exact c
            · exact hh j (by omega))
        · rw [if_neg c, bX10_isWords4_47, b01_no]
          intro z
          refine c ?_
          have := z.2 i.toNat (by omega)
          rw [this, Int.toNat_of_nonneg i0]
    exact loop 4 0 (by omega) (by omega) (fun j hj => by omega)
  · rw [if_neg hn, bX10_isWords4_16, b01_no]
    intro z
    have := z.1
    rw [hl] at this
    exact hn this
