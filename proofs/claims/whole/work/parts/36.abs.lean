/-! how all is, in plain words: κ a fort (in the layout of φ, part 34), s a state: the lying, three places -/
abbrev St : Type := Int × Int × Int × Int
def qa (s : St) (i : Int) : Int := if i = 0 then s.2.1 else if i = 1 then s.2.2.1 else s.2.2.2
def qs (s : St) (i v : Int) : St := if i = 0 then (s.1, v, s.2.2.1, s.2.2.2) else if i = 1 then (s.1, s.2.1, v, s.2.2.2) else (s.1, s.2.1, s.2.2.1, v)
abbrev dnB (ly b : Int) : Prop := bAnd (bShr ly b) 1 = 1
def tpB (ly h l : Int) : Int := bAnd (bOr ly (bShl 1 h)) (bXor (bShl 1 l) (-1))
def aPd (κ : Int → Int) (s : St) (b : Int) : Int := κ (16 + b) + (if 0 < κ 29 ∧ s.2.1 = 5 + b then κ 30 else 0) + (if 1 < κ 29 ∧ s.2.2.1 = 5 + b then κ 31 else 0) + (if 2 < κ 29 ∧ s.2.2.2 = 5 + b then κ 32 else 0)
def aKd (k x : Int) : Int := if k = 1 ∨ k = 4 then x / 2 else if k = 2 then 2 * x else if k = 5 then (if 0 < x then 2 * x + 1 else 0) else x
def aLd (κ : Int → Int) (s : St) (b : Int) : Int := aKd (κ (11 + b)) (aPd κ s b)
def aTip (κ : Int → Int) (ly h l : Int) : Int := if (dnB ly h ∨ κ (11 + h) ≠ 4) ∧ (¬ dnB ly l ∨ κ (11 + l) ≠ 3) then tpB ly h l else ly
def aT1 (κ : Int → Int) (s : St) (c ly : Int) : Int := if κ (27 + c) < aLd κ s (κ (23 + c)) - aLd κ s (κ (25 + c)) then aTip κ ly (κ (23 + c)) (κ (25 + c)) else if κ (27 + c) < -(aLd κ s (κ (23 + c)) - aLd κ s (κ (25 + c))) then aTip κ ly (κ (25 + c)) (κ (23 + c)) else ly
def aTA (κ : Int → Int) (s : St) : Int := if 1 < κ 22 then aT1 κ s 1 (aT1 κ s 0 s.1) else if 0 < κ 22 then aT1 κ s 0 s.1 else s.1
def aGo (κ : Int → Int) (s : St) (i to : Int) : St := (aTA κ (qs s i to), (qs s i to).2)
abbrev jn (κ : Int → Int) (b room : Int) : Prop := κ (1 + b) = room ∨ κ (6 + b) = room
abbrev aCan (κ : Int → Int) (s : St) (i to : Int) : Prop := (qa s i < 5 ∧ 5 ≤ to ∧ to < 5 + κ 0 ∧ dnB s.1 (to - 5) ∧ jn κ (to - 5) (qa s i)) ∨ (5 ≤ qa s i ∧ to < 5 ∧ dnB s.1 (qa s i - 5) ∧ jn κ (qa s i - 5) to)
/-- what a fort to be gone through is -/
def KI (κ : Int → Int) : Prop :=
  (0 ≤ κ 0 ∧ κ 0 ≤ 5) ∧ (∀ k, 0 ≤ k → k < κ 0 → (0 ≤ κ (1 + k) ∧ κ (1 + k) ≤ 4) ∧ (0 ≤ κ (6 + k) ∧ κ (6 + k) ≤ 4) ∧ (0 ≤ κ (11 + k) ∧ κ (11 + k) ≤ 5) ∧ (0 ≤ κ (16 + k) ∧ κ (16 + k) ≤ 40)) ∧
  (0 ≤ κ 22 ∧ κ 22 ≤ 2) ∧ (∀ c, 0 ≤ c → c < κ 22 → (0 ≤ κ (23 + c) ∧ κ (23 + c) < κ 0) ∧ (0 ≤ κ (25 + c) ∧ κ (25 + c) < κ 0) ∧ κ (23 + c) ≠ κ (25 + c) ∧ (0 ≤ κ (27 + c) ∧ κ (27 + c) ≤ 9)) ∧
  (κ 22 = 2 → κ 23 ≠ κ 24 ∧ κ 23 ≠ κ 26 ∧ κ 25 ≠ κ 24 ∧ κ 25 ≠ κ 26) ∧
  (0 ≤ κ 29 ∧ κ 29 ≤ 3) ∧ (∀ p, 0 ≤ p → p < κ 29 → (1 ≤ κ (30 + p) ∧ κ (30 + p) ≤ 9))
/-- a state that can be: of a fort with people κ 29 -/
def SVd (κ : Int → Int) (s : St) : Prop := (0 ≤ s.1 ∧ s.1 < pw2 (κ 0)) ∧ ∀ i, 0 ≤ i → i < 3 → (0 ≤ qa s i ∧ qa s i < 5 + κ 0) ∧ (κ 29 ≤ i → qa s i = 0)
/-- the Fort at f holds κ, and s -/
def ClsK (g : Hp) (f : Nat) (κ : Int → Int) (s : St) : Prop :=
  g f 1 = κ 0 ∧ (∀ k, 0 ≤ k → k < κ 0 → g (f + 8) k = κ (1 + k) ∧ g (f + 9) k = κ (6 + k) ∧ g (f + 10) k = κ (11 + k) ∧ g (f + 11) k = κ (16 + k)) ∧
  g f 6 = s.1 ∧ g f 7 = κ 22 ∧ (∀ c, 0 ≤ c → c < κ 22 → g (f + 12) c = κ (23 + c) ∧ g (f + 13) c = κ (25 + c) ∧ g (f + 14) c = κ (27 + c)) ∧
  g f 11 = κ 29 ∧ (∀ p, 0 ≤ p → p < κ 29 → g (f + 15) p = κ (30 + p) ∧ g (f + 16) p = qa s p)
theorem qa_qs {s : St} {i j v : Int} (hi : 0 ≤ i ∧ i < 3) (hj : 0 ≤ j ∧ j < 3) : qa (qs s i v) j = if j = i then v else qa s j := by
  rcases (by omega : i = 0 ∨ i = 1 ∨ i = 2) with rfl | rfl | rfl <;> rcases (by omega : j = 0 ∨ j = 1 ∨ j = 2) with rfl | rfl | rfl <;> simp [qa, qs]
theorem qs_1 {s : St} {i v : Int} : (qs s i v).1 = s.1 := by
  unfold qs
  repeat' split
  all_goals rfl
theorem qa_0 (s : St) : qa s 0 = s.2.1 := rfl
theorem qa_1 (s : St) : qa s 1 = s.2.2.1 := rfl
theorem qa_2 (s : St) : qa s 2 = s.2.2.2 := rfl
theorem qa_go {κ : Int → Int} {s : St} {i to j : Int} (hi : 0 ≤ i ∧ i < 3) (hj : 0 ≤ j ∧ j < 3) : qa (aGo κ s i to) j = if j = i then to else qa s j := by
  rw [← qa_qs (s := s) (v := to) hi hj]
  rfl
theorem up_up {g : Hp} {a : Nat} {i v w : Int} : up (up g a i v) a i w = up g a i w := by
  funext a' i'
  unfold up
  split <;> simp_all
theorem up_id {g : Hp} {a : Nat} {i v : Int} (h : g a i = v) : up g a i v = g := by
  funext a' i'
  unfold up
  split
  · rename_i hh
    rw [hh.1, hh.2, h]
  · rfl
theorem up_comm {g : Hp} {a b : Nat} {i j v w : Int} (h : a ≠ b) : up (up g a i v) b j w = up (up g b j w) a i v := by
  funext a' i'
  unfold up
  by_cases h1 : a' = a
  · subst h1
    simp [h]
  · simp [h1]
/-! the class's Fort: what is on a bridge, who can go, what tips -/
theorem c_joins {f : Nat} (hF : isFort f) (g : Hp) (b room : Int) (hb : 0 ≤ b ∧ b < 5) : EV 8 qX2_joins 0 [vR f, vI b, vI room] [] g = some (some (vI (b01 (g (f + 8) b = room ∨ g (f + 9) b = room))), g) := by
  simp (disch := omega) only [bX2_joins_0 hF, bX2_joins_10 hF, bX2_joins_20 hF, bX2_joins_24 hF, bX2_joins_25 hF]
  unfold b01
  split
  · rw [if_pos (Or.inl ‹_›)]
  · split
    · rw [if_pos (Or.inr ‹_›)]
    · rw [if_neg (by omega)]
theorem c_isDown {f : Nat} (hF : isFort f) (g : Hp) (b : Int) : EV 8 qX2_isDown 0 [vR f, vI b] [] g = some (some (vI (b01 (dnB (g f 6) b))), g) := by
  simp (disch := omega) only [bX2_isDown_0 hF, bX2_isDown_12 hF, bX2_isDown_16 hF, bX2_isDown_17 hF]
  unfold b01
  split <;> rfl
theorem c_min (g : Hp) (a b : Int) : EV 8 qJ9_min_7cf53 0 [vI a, vI b] [] g = some (some (vI (if b < a then b else a)), g) := by
  simp (disch := omega) only [bJ9_min_7cf53_0, bJ9_min_7cf53_5, bJ9_min_7cf53_9, bJ9_min_7cf53_10]
  split <;> rfl
theorem c_max (g : Hp) (a b : Int) : EV 8 qJ9_max_7cf53 0 [vI a, vI b] [] g = some (some (vI (if a < b then b else a)), g) := by
  simp (disch := omega) only [bJ9_max_7cf53_0, bJ9_max_7cf53_5, bJ9_max_7cf53_9, bJ9_max_7cf53_10]
  split <;> rfl
theorem c_canGo {f : Nat} (hF : isFort f) {g : Hp} {κ : Int → Int} {s : St} (hK : ClsK g f κ s) (hI : KI κ) {p to : Int} (hp : 0 ≤ p ∧ p < κ 29) (ht : 0 ≤ to ∧ to < 5 + κ 0) (hq : 0 ≤ qa s p ∧ qa s p < 5 + κ 0) : EV 9 qX2_canGo 0 [vR f, vI p, vI to, vU, vU, vU] [] g = some (some (vI (b01 (aCan κ s p to))), g) := by
  obtain ⟨h1, hb, h6, h7, hc, h11, hpp⟩ := hK
  obtain ⟨i0, ib, i22, ic, ic2, i29, ip⟩ := hI
  have hpl := (hpp p hp.1 hp.2).2
  by_cases c1 : qa s p < 5 <;> by_cases c2 : to < 5
  · simp (disch := omega) only [bX2_canGo_0 hF, bX2_canGo_12 hF, bX2_canGo_16 hF, bX2_canGo_17 hF, bX2_canGo_22 hF, bX2_canGo_26 hF, bX2_canGo_27 hF, bX2_canGo_30 hF, bX2_canGo_32 hF, bX2_canGo_37 hF, bX2_canGo_44 hF, bX2_canGo_54 hF, bX2_canGo_57 hF, bX2_canGo_65 hF, bX2_canGo_68 hF, bX2_canGo_72 hF, bX2_canGo_73 hF, hpl, if_true, if_false, if_pos, if_neg]
    unfold b01
    rw [if_neg (by omega)]
  · have hb' := hb (to - 5) (by omega) (by omega)
    simp (disch := first | omega | exact b01_or _) only [bX2_canGo_0 hF, bX2_canGo_12 hF, bX2_canGo_16 hF, bX2_canGo_17 hF, bX2_canGo_22 hF, bX2_canGo_26 hF, bX2_canGo_27 hF, bX2_canGo_30 hF, bX2_canGo_32 hF, bX2_canGo_37 hF, bX2_canGo_44 hF, bX2_canGo_54 hF, bX2_canGo_57 hF, bX2_canGo_65 hF, bX2_canGo_68 hF, bX2_canGo_72 hF, bX2_canGo_73 hF, hpl, if_true, if_false, if_pos, if_neg, c_min, c_max, bnd_some, Option.toList_some, List.cons_append, List.nil_append, c_isDown hF, c_joins hF, hb'.1, hb'.2.1, h6, b01_eq0]
    unfold b01
    split <;> (try split) <;> (try split) <;> first | rfl | omega
  · have hb' := hb (qa s p - 5) (by omega) (by omega)
    simp (disch := first | omega | exact b01_or _) only [bX2_canGo_0 hF, bX2_canGo_12 hF, bX2_canGo_16 hF, bX2_canGo_17 hF, bX2_canGo_22 hF, bX2_canGo_26 hF, bX2_canGo_27 hF, bX2_canGo_30 hF, bX2_canGo_32 hF, bX2_canGo_37 hF, bX2_canGo_44 hF, bX2_canGo_54 hF, bX2_canGo_57 hF, bX2_canGo_65 hF, bX2_canGo_68 hF, bX2_canGo_72 hF, bX2_canGo_73 hF, hpl, if_true, if_false, if_pos, if_neg, c_min, c_max, bnd_some, Option.toList_some, List.cons_append, List.nil_append, c_isDown hF, c_joins hF, hb'.1, hb'.2.1, h6, b01_eq0]
    unfold b01
    split <;> (try split) <;> (try split) <;> first | rfl | omega
  · simp (disch := omega) only [bX2_canGo_0 hF, bX2_canGo_12 hF, bX2_canGo_16 hF, bX2_canGo_17 hF, bX2_canGo_22 hF, bX2_canGo_26 hF, bX2_canGo_27 hF, bX2_canGo_30 hF, bX2_canGo_32 hF, bX2_canGo_37 hF, bX2_canGo_44 hF, bX2_canGo_54 hF, bX2_canGo_57 hF, bX2_canGo_65 hF, bX2_canGo_68 hF, bX2_canGo_72 hF, bX2_canGo_73 hF, hpl, if_true, if_false, if_pos, if_neg]
    unfold b01
    rw [if_neg (by omega)]
