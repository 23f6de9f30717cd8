/-! text: only the bytes told count -/
abbrev sameB (b b' : Int → Int) (L : Int) : Prop := ∀ k, 0 ≤ k → k < L → b k = b' k
theorem rn_cong {P Q : Int → Prop} [DecidablePred P] [DecidablePred Q] (h : ∀ i, 0 ≤ i → (P i ↔ Q i)) : ∀ (m : Nat) (i : Int), 0 ≤ i → rn P m i = rn Q m i := by
  intro m
  induction m with
  | zero => intro i _; rfl
  | succ m ih =>
    intro i hi
    show (if P i then _ else _) = (if Q i then _ else _)
    by_cases c : P i
    · rw [if_pos c, if_pos ((h i hi).mp c), ih (i + 1) (by omega)]
    · rw [if_neg c, if_neg (fun z => c ((h i hi).mpr z))]
theorem isS_cong {b b' : Int → Int} {L : Int} (h : sameB b b' L) {i : Int} (hi : 0 ≤ i) : isS b L i ↔ isS b' L i := by
  constructor
  · rintro ⟨x, y⟩; exact ⟨x, by rw [← h i hi x]; exact y⟩
  · rintro ⟨x, y⟩; exact ⟨x, by rw [h i hi x]; exact y⟩
theorem isC_cong {b b' : Int → Int} {L : Int} (h : sameB b b' L) {i : Int} (hi : 0 ≤ i) : isC b L i ↔ isC b' L i := by
  constructor
  · rintro ⟨x, y⟩; exact ⟨x, by rw [← h i hi x]; exact y⟩
  · rintro ⟨x, y⟩; exact ⟨x, by rw [h i hi x]; exact y⟩
theorem isD_cong {b b' : Int → Int} {L : Int} (h : sameB b b' L) {i : Int} (hi : 0 ≤ i) : isD b L i ↔ isD b' L i := by
  constructor
  · rintro ⟨x, y⟩; exact ⟨x, by rw [← h i hi x]; exact y⟩
  · rintro ⟨x, y⟩; exact ⟨x, by rw [h i hi x]; exact y⟩
theorem sp_cong {b b' : Int → Int} {L : Int} (h : sameB b b' L) {i : Int} (hi : 0 ≤ i) : sp b L i = sp b' L i := rn_cong (P := isS b L) (Q := isS b' L) (fun _ hj => isS_cong h hj) _ _ hi
theorem we_cong {b b' : Int → Int} {L : Int} (h : sameB b b' L) {i : Int} (hi : 0 ≤ i) : we b L i = we b' L i := rn_cong (P := isC b L) (Q := isC b' L) (fun _ hj => isC_cong h hj) _ _ hi
theorem wEq_cong {b b' : Int → Int} {L : Int} (h : sameB b b' L) (s : List Int) {j e : Int} (hj : 0 ≤ j) (he : e ≤ L) : wEq s b j e ↔ wEq s b' j e := by
  constructor
  · rintro ⟨x, y⟩; exact ⟨x, fun i hi => by rw [← h (j + i) (by omega) (by omega)]; exact y i hi⟩
  · rintro ⟨x, y⟩; exact ⟨x, fun i hi => by rw [h (j + i) (by omega) (by omega)]; exact y i hi⟩
theorem ite_cong {P Q : Prop} [Decidable P] [Decidable Q] {α : Type} {a b c : α} (h : P ↔ Q) (e : b = c) : (if P then a else b) = if Q then a else c := by
  by_cases p : P
  · rw [if_pos p, if_pos (h.mp p)]
  · rw [if_neg p, if_neg (fun z => p (h.mpr z)), e]
theorem wdI_cong {b b' : Int → Int} {L : Int} (h : sameB b b' L) {j e : Int} (hj : 0 ≤ j) (he : e ≤ L) : wdI b j e = wdI b' j e := by
  unfold wdI
  exact ite_cong (wEq_cong h _ hj he) (ite_cong (wEq_cong h _ hj he) (ite_cong (wEq_cong h _ hj he) (ite_cong (wEq_cong h _ hj he) (ite_cong (wEq_cong h _ hj he) rfl))))
theorem tok_cong {b b' : Int → Int} {L : Int} (h : sameB b b' L) {j : Int} (hj : 0 ≤ j) (hL : j ≤ L) : tok b L j = tok b' L j := by
  unfold tok
  by_cases c0 : j = L
  · rw [if_pos c0, if_pos c0]
  rw [if_neg c0, if_neg c0]
  by_cases c1 : isC b L j
  · have w := we_all (b := b) (L := L) (i := j) hL
    rw [if_pos c1, if_pos ((isC_cong h hj).mp c1), ← we_cong h hj, ← wdI_cong h hj w.2.1]
  rw [if_neg c1, if_neg (fun z => c1 ((isC_cong h hj).mpr z))]
  by_cases c2 : isD b L j
  · rw [if_pos c2, if_pos ((isD_cong h hj).mp c2)]
    by_cases c3 : isD b L (j + 1)
    · rw [if_pos c3, if_pos ((isD_cong h (by omega)).mp c3), h j hj (by omega), h (j + 1) (by omega) c3.1]
      exact ite_cong (isD_cong h (by omega)) rfl
    · rw [if_neg c3, if_neg (fun z => c3 ((isD_cong h (by omega)).mpr z)), h j hj (by omega)]
  · rw [if_neg c2, if_neg (fun z => c2 ((isD_cong h hj).mpr z)), h j hj (by omega)]
theorem nP_cong {b b' : Int → Int} {L : Int} (h : sameB b b' L) : ∀ (m : Nat) (i : Int) (n : Int → Int) (e : Int), 0 ≤ e → e ≤ L → nP b L m i n e = nP b' L m i n e := by
  intro m
  induction m with
  | zero =>
    intro i n e e0 e1
    have s := sp_all (b := b) e1
    show (if (tok b L (sp b L e)).1 = 3 then (-1, (tok b L (sp b L e)).2.2, n) else (sp b L e, 0, n)) = (if (tok b' L (sp b' L e)).1 = 3 then (-1, (tok b' L (sp b' L e)).2.2, n) else (sp b' L e, 0, n))
    rw [← sp_cong h e0, ← tok_cong h (by omega) s.2]
  | succ m ih =>
    intro i n e e0 e1
    have s := sp_all (b := b) e1
    have t := tok_le (b := b) s.2
    show (if (tok b L (sp b L e)).1 = 2 then nP b L m (i + 1) (fu n i (tok b L (sp b L e)).2.1) (tok b L (sp b L e)).2.2 else (sp b L e, 0, n)) = (if (tok b' L (sp b' L e)).1 = 2 then nP b' L m (i + 1) (fu n i (tok b' L (sp b' L e)).2.1) (tok b' L (sp b' L e)).2.2 else (sp b' L e, 0, n))
    rw [← sp_cong h e0, ← tok_cong h (by omega) s.2, ih _ _ _ (by omega) t.2.1.2]
theorem itP_cong {b b' : Int → Int} {L : Int} (h : sameB b b' L) {j : Int} (hj : 0 ≤ j) (hL : j ≤ L) : itP b L j = itP b' L j := by
  have t := tok_le (b := b) hL
  unfold itP
  rw [← tok_cong h hj hL, nP_cong h _ _ _ _ (by omega) t.2.1.2]
theorem pA_cong {b b' : Int → Int} {L : Int} (h : sameB b b' L) : ∀ (m : Nat) (j : Int), 0 ≤ j → j ≤ L → pA b L m j = pA b' L m j := by
  intro m
  induction m with
  | zero => intro j _ _; rfl
  | succ m ih =>
    intro j j0 j1
    show (if j = L then (-1, []) else if (itP b L j).1 = -1 then ((pA b L m (sp b L (itP b L j).2.1)).1, ((tok b L j).2.1, (itP b L j).2.2) :: (pA b L m (sp b L (itP b L j).2.1)).2) else ((itP b L j).1, [])) = (if j = L then (-1, []) else if (itP b' L j).1 = -1 then ((pA b' L m (sp b' L (itP b' L j).2.1)).1, ((tok b' L j).2.1, (itP b' L j).2.2) :: (pA b' L m (sp b' L (itP b' L j).2.1)).2) else ((itP b' L j).1, []))
    rw [← itP_cong h j0 j1, ← tok_cong h j0 j1]
    by_cases c0 : j = L
    · rw [if_pos c0, if_pos c0]
    · rw [if_neg c0, if_neg c0]
      by_cases c : (itP b L j).1 = -1
      · have hi : 0 ≤ (itP b L j).2.1 ∧ (itP b L j).2.1 ≤ L := by
          rcases itP_le (b := b) j0 j1 with q | q
          · omega
          · omega
        have s := sp_all (b := b) hi.2
        rw [if_pos c, if_pos c, ← sp_cong h hi.1, ih _ (by omega) s.2]
      · rw [if_neg c, if_neg c]
theorem rdF_cong {b b' : Int → Int} {L : Int} (hL : 0 ≤ L) (h : sameB b b' L) : rdF b L = rdF b' L := by
  have s := sp_all (b := b) hL
  unfold rdF
  rw [← sp_cong h (by omega), pA_cong h _ _ s.1 s.2]
