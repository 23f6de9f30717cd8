/-! the class's Fort, on: what is on a bridge, a step, packing -/
theorem c_ld_it {f : Nat} (hF : isFort f) (g : Hp) (b x p : Int) (hp : 0 ≤ p ∧ p < 3) (hlt : p < g f 11) (hb : 0 ≤ b ∧ b < 5) (hx : 0 ≤ x ∧ x < 1000) (hw : 0 ≤ g (f + 15) p ∧ g (f + 15) p ≤ 9) : EV 10 qX2_loadOn 9 [vR f, vI b, vI x, vI p] [] g = EV 10 qX2_loadOn 9 [vR f, vI b, vI (x + if g (f + 16) p = 5 + b then g (f + 15) p else 0), vI (p + 1)] [] g := by
  rw [bX2_loadOn_9 hF, if_neg (by omega), bX2_loadOn_17 hF _ _ _ _ hp (by omega)]
  split
  · rw [bX2_loadOn_29 hF _ _ _ _ hp (by omega), bX2_loadOn_38 hF _ _ _ _ (by omega)]
  · rw [bX2_loadOn_38 hF _ _ _ _ (by omega), Int.add_zero]
theorem ite_le {c : Prop} [Decidable c] {a : Int} (h : 0 ≤ a ∧ a ≤ 9) : 0 ≤ (if c then a else 0) ∧ (if c then a else 0) ≤ 9 := by split <;> omega
theorem c_loadOn {f : Nat} (hF : isFort f) {g : Hp} {κ : Int → Int} {s : St} (hK : ClsK g f κ s) (hI : KI κ) {b : Int} (hb : 0 ≤ b ∧ b < κ 0) : EV 10 qX2_loadOn 0 [vR f, vI b, vU, vU] [] g = some (some (vI (aLd κ s b)), g) := by
  obtain ⟨h1, hbb, h6, h7, hc, h11, hpp⟩ := hK
  obtain ⟨i0, ib, i22, ic, ic2, i29, ip⟩ := hI
  have hB := hbb b hb.1 hb.2
  have hD := ib b hb.1 hb.2
  rw [bX2_loadOn_0 hF _ _ (by omega), hB.2.2.2]
  unfold aLd aPd
  rcases (by omega : κ 29 = 0 ∨ κ 29 = 1 ∨ κ 29 = 2 ∨ κ 29 = 3) with e | e | e | e
  · rw [bX2_loadOn_9 hF, if_pos (by omega), bX2_loadOn_44 hF _ _ _ _ (by omega), hB.2.2.1, c_ld_tail hF _ _ _ _ _ (by omega) (by omega)]
    simp [e]
  · have p0 := hpp 0 (by omega) (by omega)
    have w0 := ip 0 (by omega) (by omega)
    have t0 := ite_le (c := g (f + 16) 0 = 5 + b) (a := g (f + 15) 0) (by omega)
    rw [c_ld_it hF _ _ _ _ (by omega) (by omega) (by omega) (by omega) (by omega), bX2_loadOn_9 hF, if_pos (by omega), bX2_loadOn_44 hF _ _ _ _ (by omega), hB.2.2.1, c_ld_tail hF _ _ _ _ _ (by omega) (by omega), p0.1, p0.2]
    simp [e, qa_0]
  · have p0 := hpp 0 (by omega) (by omega)
    have w0 := ip 0 (by omega) (by omega)
    have p1 := hpp 1 (by omega) (by omega)
    have w1 := ip 1 (by omega) (by omega)
    have t0 := ite_le (c := g (f + 16) 0 = 5 + b) (a := g (f + 15) 0) (by omega)
    have t1 := ite_le (c := g (f + 16) 1 = 5 + b) (a := g (f + 15) 1) (by omega)
    rw [c_ld_it hF _ _ _ _ (by omega) (by omega) (by omega) (by omega) (by omega), show (0 : Int) + 1 = 1 from rfl, c_ld_it hF _ _ _ _ (by omega) (by omega) (by omega) (by omega) (by omega), bX2_loadOn_9 hF, if_pos (by omega), bX2_loadOn_44 hF _ _ _ _ (by omega), hB.2.2.1, c_ld_tail hF _ _ _ _ _ (by omega) (by omega), p0.1, p0.2, p1.1, p1.2]
    by_cases a0 : s.2.1 = 5 + b <;> by_cases a1 : s.2.2.1 = 5 + b <;> simp [e, qa_0, qa_1, a0, a1]
  · have p0 := hpp 0 (by omega) (by omega)
    have w0 := ip 0 (by omega) (by omega)
    have p1 := hpp 1 (by omega) (by omega)
    have w1 := ip 1 (by omega) (by omega)
    have p2 := hpp 2 (by omega) (by omega)
    have w2 := ip 2 (by omega) (by omega)
    have t0 := ite_le (c := g (f + 16) 0 = 5 + b) (a := g (f + 15) 0) (by omega)
    have t1 := ite_le (c := g (f + 16) 1 = 5 + b) (a := g (f + 15) 1) (by omega)
    have t2 := ite_le (c := g (f + 16) 2 = 5 + b) (a := g (f + 15) 2) (by omega)
    rw [c_ld_it hF _ _ _ _ (by omega) (by omega) (by omega) (by omega) (by omega), show (0 : Int) + 1 = 1 from rfl, c_ld_it hF _ _ _ _ (by omega) (by omega) (by omega) (by omega) (by omega), show (1 : Int) + 1 = 2 from rfl, c_ld_it hF _ _ _ _ (by omega) (by omega) (by omega) (by omega) (by omega), bX2_loadOn_9 hF, if_pos (by omega), bX2_loadOn_44 hF _ _ _ _ (by omega), hB.2.2.1, c_ld_tail hF _ _ _ _ _ (by omega) (by omega), p0.1, p0.2, p1.1, p1.2, p2.1, p2.2]
    by_cases a0 : s.2.1 = 5 + b <;> by_cases a1 : s.2.2.1 = 5 + b <;> by_cases a2 : s.2.2.2 = 5 + b <;> simp [e, qa_0, qa_1, qa_2, a0, a1, a2]
theorem aPd_le {κ : Int → Int} (hI : KI κ) (s : St) {b : Int} (hb : 0 ≤ b ∧ b < κ 0) : 0 ≤ aPd κ s b ∧ aPd κ s b ≤ 67 := by
  obtain ⟨i0, ib, i22, ic, ic2, i29, ip⟩ := hI
  have hD := ib b hb.1 hb.2
  unfold aPd
  have a0 : 0 ≤ (if 0 < κ 29 ∧ s.2.1 = 5 + b then κ 30 else 0) ∧ (if 0 < κ 29 ∧ s.2.1 = 5 + b then κ 30 else 0) ≤ 9 := by
    split
    · have := ip 0 (by omega) (by omega)
      rw [show (30 : Int) + 0 = 30 from rfl] at this
      omega
    · omega
  have a1 : 0 ≤ (if 1 < κ 29 ∧ s.2.2.1 = 5 + b then κ 31 else 0) ∧ (if 1 < κ 29 ∧ s.2.2.1 = 5 + b then κ 31 else 0) ≤ 9 := by
    split
    · have := ip 1 (by omega) (by omega)
      rw [show (30 : Int) + 1 = 31 from rfl] at this
      omega
    · omega
  have a2 : 0 ≤ (if 2 < κ 29 ∧ s.2.2.2 = 5 + b then κ 32 else 0) ∧ (if 2 < κ 29 ∧ s.2.2.2 = 5 + b then κ 32 else 0) ≤ 9 := by
    split
    · have := ip 2 (by omega) (by omega)
      rw [show (30 : Int) + 2 = 32 from rfl] at this
      omega
    · omega
  omega
theorem aKd_le {k x : Int} (h : 0 ≤ x ∧ x ≤ 67) : 0 ≤ aKd k x ∧ aKd k x ≤ 135 := by
  unfold aKd
  repeat' split
  all_goals omega
theorem aLd_le {κ : Int → Int} (hI : KI κ) (s : St) {b : Int} (hb : 0 ≤ b ∧ b < κ 0) : 0 ≤ aLd κ s b ∧ aLd κ s b ≤ 135 := aKd_le (aPd_le hI s hb)
theorem c_tip {f : Nat} (hF : isFort f) (g : Hp) (κ : Int → Int) (h l : Int) (hh : 0 ≤ h ∧ h < 5) (hl : 0 ≤ l ∧ l < 5) (kh : g (f + 10) h = κ (11 + h)) (kl : g (f + 10) l = κ (11 + l)) (rh : 0 ≤ κ (11 + h) ∧ κ (11 + h) ≤ 5) (rl : 0 ≤ κ (11 + l) ∧ κ (11 + l) ≤ 5) : EV 9 qX2_tip 0 [vR f, vI h, vI l, vU, vU] [] g = some (none, up g f 6 (aTip κ (g f 6) h l)) := by
  simp (disch := first | omega | exact b01_or _) only [bX2_tip_0 hF, bX2_tip_5 hF, bX2_tip_8 hF, bX2_tip_22 hF, bX2_tip_25 hF, bX2_tip_29 hF, bX2_tip_30 hF, bX2_tip_36 hF, bX2_tip_39 hF, bX2_tip_53 hF, bX2_tip_56 hF, bX2_tip_60 hF, bX2_tip_61 hF, bX2_tip_67 hF, bX2_tip_72 hF, bX2_tip_90 hF, bnd_some, Option.toList_some, List.cons_append, List.nil_append, c_isDown hF, b01_eq0, kh, kl, c_tip_mayFall hF, c_tip_mayRise hF, if_true, if_false]
  unfold aTip tpB
  by_cases c1 : dnB (g f 6) h <;> by_cases c2 : κ (11 + h) = 4 <;> by_cases c3 : dnB (g f 6) l <;> by_cases c4 : κ (11 + l) = 3 <;> simp [c1, c2, c3, c4, up_id]
  all_goals rw [if_pos c1]
theorem ClsK_ly {g : Hp} {f : Nat} {κ : Int → Int} {s : St} (h : ClsK g f κ s) (v : Int) : ClsK (up g f 6 v) f κ (v, s.2) := by
  obtain ⟨h1, hb, h6, h7, hc, h11, hpp⟩ := h
  refine ⟨by rw [up_nei (by omega)]; exact h1, fun k k0 k1 => ?_, up_eq, by rw [up_nei (by omega)]; exact h7, fun c c0 c1 => ?_, by rw [up_nei (by omega)]; exact h11, fun p p0 p1 => ?_⟩
  · rw [up_ne (by omega), up_ne (by omega), up_ne (by omega), up_ne (by omega)]
    exact hb k k0 k1
  · rw [up_ne (by omega), up_ne (by omega), up_ne (by omega)]
    exact hc c c0 c1
  · rw [up_ne (by omega), up_ne (by omega)]
    exact hpp p p0 p1
theorem ClsK_pl {g : Hp} {f : Nat} {κ : Int → Int} {s : St} (h : ClsK g f κ s) (h29 : κ 29 ≤ 3) {i v : Int} (hi : 0 ≤ i ∧ i < 3) : ClsK (up g (f + 16) i v) f κ (qs s i v) := by
  obtain ⟨h1, hb, h6, h7, hc, h11, hpp⟩ := h
  refine ⟨by rw [up_ne (by omega)]; exact h1, fun k k0 k1 => ?_, by rw [up_ne (by omega), qs_1]; exact h6, by rw [up_ne (by omega)]; exact h7, fun c c0 c1 => ?_, by rw [up_ne (by omega)]; exact h11, fun p p0 p1 => ?_⟩
  · rw [up_ne (by omega), up_ne (by omega), up_ne (by omega), up_ne (by omega)]
    exact hb k k0 k1
  · rw [up_ne (by omega), up_ne (by omega), up_ne (by omega)]
    exact hc c c0 c1
  · rw [up_ne (by omega), qa_qs hi (by omega)]
    refine ⟨(hpp p p0 p1).1, ?_⟩
    by_cases e : p = i
    · rw [e, if_pos rfl, up_eq]
    · rw [if_neg e, up_nei e]
      exact (hpp p p0 p1).2
theorem c_go_it {f : Nat} (hF : isFort f) {g : Hp} {κ : Int → Int} {s : St} (hK : ClsK g f κ s) (hI : KI κ) (p to : Int) {c : Int} (hc : 0 ≤ c ∧ c < κ 22) (u4 u5 u6 : SV) : ∃ v4 v5 v6 : SV, EV 11 qX2_go 9 [vR f, vI p, vI to, vI c, u4, u5, u6] [] g = EV 11 qX2_go 9 [vR f, vI p, vI to, vI (c + 1), v4, v5, v6] [] (up g f 6 (aT1 κ s c s.1)) := by
  have hK' := hK
  have hI' := hI
  obtain ⟨h1, hb, h6, h7, hch, h11, hpp⟩ := hK
  obtain ⟨i0, ib, i22, ic, ic2, i29, ip⟩ := hI
  have q := hch c hc.1 hc.2
  have r := ic c hc.1 hc.2
  have la := aLd_le hI' s (b := κ (23 + c)) (by omega)
  have lb := aLd_le hI' s (b := κ (25 + c)) (by omega)
  have ea := hb (κ (23 + c)) (by omega) (by omega)
  have eb := hb (κ (25 + c)) (by omega) (by omega)
  have ra := ib (κ (23 + c)) (by omega) (by omega)
  have rb := ib (κ (25 + c)) (by omega) (by omega)
  refine ⟨vI (κ (23 + c)), vI (κ (25 + c)), vI (aLd κ s (κ (23 + c)) - aLd κ s (κ (25 + c))), ?_⟩
  rw [bX2_go_9 hF, if_neg (by omega), bX2_go_17 hF _ _ _ _ _ _ _ (by omega) (by omega), q.1, q.2.1, c_loadOn hF hK' hI' (by omega), bnd_some]
  show EV 11 qX2_go 39 _ [vI _] g = _
  rw [bX2_go_39 hF, c_loadOn hF hK' hI' (by omega), bnd_some]
  show EV 11 qX2_go 45 _ [vI _, vI _] g = _
  rw [bX2_go_45 hF _ _ _ _ _ _ _ _ _ (by omega) (by omega), q.2.2]
  unfold aT1
  by_cases d1 : κ (27 + c) < aLd κ s (κ (23 + c)) - aLd κ s (κ (25 + c))
  · rw [if_neg (by omega), if_pos d1, bX2_go_59 hF, c_tip hF g κ _ _ (by omega) (by omega) ea.2.2.1 eb.2.2.1 (by omega) (by omega), bnd_some, h6]
    show EV 11 qX2_go 67 _ [] _ = _
    rw [bX2_go_67 hF, bX2_go_90 hF _ _ _ _ _ _ _ (by omega)]
  · rw [if_pos (by omega), if_neg d1, bX2_go_70 hF _ _ _ _ _ _ _ (by omega) (by omega), q.2.2]
    by_cases d2 : κ (27 + c) < -(aLd κ s (κ (23 + c)) - aLd κ s (κ (25 + c)))
    · rw [if_neg (by omega), if_pos d2, bX2_go_82 hF, c_tip hF g κ _ _ (by omega) (by omega) eb.2.2.1 ea.2.2.1 (by omega) (by omega), bnd_some, h6]
      show EV 11 qX2_go 90 _ [] _ = _
      rw [bX2_go_90 hF _ _ _ _ _ _ _ (by omega)]
    · rw [if_pos (by omega), if_neg d2, bX2_go_90 hF _ _ _ _ _ _ _ (by omega), up_id h6]
theorem c_go_end {f : Nat} (hF : isFort f) (g : Hp) (p to c : Int) (u4 u5 u6 : SV) (h : g f 7 ≤ c) : EV 11 qX2_go 9 [vR f, vI p, vI to, vI c, u4, u5, u6] [] g = some (none, g) := by
  rw [bX2_go_9 hF, if_pos h, bX2_go_96 hF]
theorem c_go {f : Nat} (hF : isFort f) {g : Hp} {κ : Int → Int} {s : St} (hK : ClsK g f κ s) (hI : KI κ) {p to : Int} (hp : 0 ≤ p ∧ p < 3) : EV 11 qX2_go 0 [vR f, vI p, vI to, vU, vU, vU, vU] [] g = some (none, up (up g (f + 16) p to) f 6 (aGo κ s p to).1) := by
  have i29 := hI.2.2.2.2.2.1
  have i22 := hI.2.2.1
  have hK1 := ClsK_pl hK i29.2 hp (v := to)
  have h7 := hK1.2.2.2.1
  rw [bX2_go_0 hF _ _ _ hp]
  unfold aGo aTA
  have h6 := hK1.2.2.1
  rcases (by omega : κ 22 = 0 ∨ κ 22 = 1 ∨ κ 22 = 2) with e | e | e
  · rw [c_go_end hF _ _ _ _ _ _ _ (by omega), if_neg (by omega), if_neg (by omega), up_id h6]
  · obtain ⟨v4, v5, v6, hh⟩ := c_go_it hF hK1 hI p to (c := 0) (by omega) vU vU vU
    rw [hh, c_go_end hF _ _ _ _ _ _ _ (by rw [up_nei (by omega)]; omega), if_neg (by omega), if_pos (by omega)]
  · obtain ⟨v4, v5, v6, hh⟩ := c_go_it hF hK1 hI p to (c := 0) (by omega) vU vU vU
    obtain ⟨w4, w5, w6, hh2⟩ := c_go_it hF (ClsK_ly hK1 (aT1 κ (qs s p to) 0 (qs s p to).1)) hI p to (c := 1) (by omega) v4 v5 v6
    rw [hh, show (0 : Int) + 1 = 1 from rfl, hh2, c_go_end hF _ _ _ _ _ _ _ (by rw [up_nei (by omega), up_nei (by omega)]; omega), if_pos (by omega), up_up]
    rfl
/-- how all is, as the class packs it -/
def pk (s : St) : Int := ((s.1 * 10 + s.2.1) * 10 + s.2.2.1) * 10 + s.2.2.2
theorem c_packed {f : Nat} (hF : isFort f) {g : Hp} {κ : Int → Int} {s : St} (hK : ClsK g f κ s) (hI : KI κ) (h6 : 0 ≤ s.1 ∧ s.1 < 32) (hq : ∀ i, 0 ≤ i → i < κ 29 → 0 ≤ qa s i ∧ qa s i < 10) : EV 8 qX2_packed 0 [vR f, vU, vU] [] g = some (some (vI (pk3 (κ 29) s.1 s.2.1 s.2.2.1 s.2.2.2)), g) := by
  obtain ⟨h1, hb, h6', h7, hch, h11, hpp⟩ := hK
  have i29 := hI.2.2.2.2.2.1
  unfold pk3
  rcases (by omega : κ 29 = 0 ∨ κ 29 = 1 ∨ κ 29 = 2 ∨ κ 29 = 3) with e | e | e | e
  · simp (disch := omega) only [bX2_packed_0 hF, bX2_packed_7 hF, bX2_packed_12 hF, bX2_packed_24 hF, bX2_packed_33 hF, bX2_packed_34 hF, bX2_packed_42 hF, h6', h11, e, ↓if_pos, ↓if_neg, if_true, if_false]
    exact ans_eq (by omega)
  · have p0 := (hpp 0 (by omega) (by omega)).2
    have q0 := hq 0 (by omega) (by omega)
    rw [qa_0] at p0 q0
    simp (disch := omega) only [bX2_packed_0 hF, bX2_packed_7 hF, bX2_packed_12 hF, bX2_packed_24 hF, bX2_packed_33 hF, bX2_packed_34 hF, bX2_packed_42 hF, h6', h11, e, ↓if_pos, ↓if_neg, if_true, if_false, p0]
    exact ans_eq (by omega)
  · have p0 := (hpp 0 (by omega) (by omega)).2
    have q0 := hq 0 (by omega) (by omega)
    have p1 := (hpp 1 (by omega) (by omega)).2
    have q1 := hq 1 (by omega) (by omega)
    rw [qa_0] at p0 q0
    rw [qa_1] at p1 q1
    simp (disch := omega) only [bX2_packed_0 hF, bX2_packed_7 hF, bX2_packed_12 hF, bX2_packed_24 hF, bX2_packed_33 hF, bX2_packed_34 hF, bX2_packed_42 hF, h6', h11, e, ↓if_pos, ↓if_neg, if_true, if_false, p0, show (0 : Int) + 1 = 1 from rfl, p1]
    exact ans_eq (by omega)
  · have p0 := (hpp 0 (by omega) (by omega)).2
    have q0 := hq 0 (by omega) (by omega)
    have p1 := (hpp 1 (by omega) (by omega)).2
    have q1 := hq 1 (by omega) (by omega)
    have p2 := (hpp 2 (by omega) (by omega)).2
    have q2 := hq 2 (by omega) (by omega)
    rw [qa_0] at p0 q0
    rw [qa_1] at p1 q1
    rw [qa_2] at p2 q2
    simp (disch := omega) only [bX2_packed_0 hF, bX2_packed_7 hF, bX2_packed_12 hF, bX2_packed_24 hF, bX2_packed_33 hF, bX2_packed_34 hF, bX2_packed_42 hF, h6', h11, e, ↓if_pos, ↓if_neg, if_true, if_false, p0, show (0 : Int) + 1 = 1 from rfl, p1, show (1 : Int) + 1 = 2 from rfl, p2]
    exact ans_eq (by omega)
def unp (g : Hp) (f : Nat) (x : Int) : Hp := up (up (up (up g (f + 16) 2 (x % 10)) (f + 16) 1 (x / 10 % 10)) (f + 16) 0 (x / 10 / 10 % 10)) f 6 (x / 10 / 10 / 10)
theorem c_unpack {f : Nat} (hF : isFort f) (g : Hp) (x : Int) (hx : 0 ≤ x) : EV 8 qX2_unpack 0 [vR f, vI x, vU, vU] [] g = some (none, unp g f x) := by
  rw [bX2_unpack_0 hF, bX2_unpack_4 hF, if_neg (by omega), bX2_unpack_8 hF _ _ _ _ (by omega) (by omega) (by omega) (by omega), show (2 : Int) + (-1) = 1 from rfl, bX2_unpack_4 hF, if_neg (by omega), bX2_unpack_8 hF _ _ _ _ (by omega) (by omega) (by omega) (by omega), show (1 : Int) + (-1) = 0 from rfl, bX2_unpack_4 hF, if_neg (by omega), bX2_unpack_8 hF _ _ _ _ (by omega) (by omega) (by omega) (by omega), show (0 : Int) + (-1) = -1 from rfl, bX2_unpack_4 hF, if_pos (by omega), bX2_unpack_29 hF]
  rfl
theorem ClsK_unp {g : Hp} {f : Nat} {κ : Int → Int} {s : St} (h : ClsK g f κ s) (h29 : κ 29 ≤ 3) (x : Int) : ClsK (unp g f x) f κ (x / 10 / 10 / 10, x / 10 / 10 % 10, x / 10 % 10, x % 10) := by
  have := ClsK_ly (ClsK_pl (ClsK_pl (ClsK_pl h h29 (i := 2) (v := x % 10) (by omega)) h29 (i := 1) (v := x / 10 % 10) (by omega)) h29 (i := 0) (v := x / 10 / 10 % 10) (by omega)) (x / 10 / 10 / 10)
  exact this
theorem pk_dig {s : St} (h0 : 0 ≤ s.2.1 ∧ s.2.1 < 10) (h1 : 0 ≤ s.2.2.1 ∧ s.2.2.1 < 10) (h2 : 0 ≤ s.2.2.2 ∧ s.2.2.2 < 10) : (pk s / 10 / 10 / 10, pk s / 10 / 10 % 10, pk s / 10 % 10, pk s % 10) = s := by
  obtain ⟨a, b, c, d⟩ := s
  unfold pk
  simp only at *
  rw [show ((a * 10 + b) * 10 + c) * 10 + d = ((a * 10 + b) * 10 + c) * 10 + d from rfl]
  refine Prod.ext (by simp only; omega) (Prod.ext (by simp only; omega) (Prod.ext (by simp only; omega) (by simp only; omega)))
abbrev aIn (κ : Int → Int) (s : St) (sm room : Int) : Prop := (0 < κ 29 ∧ dnB sm 0 → s.2.1 = room) ∧ (1 < κ 29 ∧ dnB sm 1 → s.2.2.1 = room) ∧ (2 < κ 29 ∧ dnB sm 2 → s.2.2.2 = room)
theorem c_areIn {f : Nat} (hF : isFort f) {g : Hp} {κ : Int → Int} {s : St} (hK : ClsK g f κ s) (hI : KI κ) (sm room : Int) : EV 8 qX2_areIn 0 [vR f, vI sm, vI room, vU] [] g = some (some (vI (b01 (aIn κ s sm room))), g) := by
  obtain ⟨h1, hb, h6', h7, hch, h11, hpp⟩ := hK
  have i29 := hI.2.2.2.2.2.1
  rcases (by omega : κ 29 = 0 ∨ κ 29 = 1 ∨ κ 29 = 2 ∨ κ 29 = 3) with e | e | e | e
  · simp (disch := omega) only [bX2_areIn_0 hF, bX2_areIn_2 hF, bX2_areIn_10 hF, bX2_areIn_19 hF, bX2_areIn_29 hF, bX2_areIn_31 hF, bX2_areIn_37 hF, h11, e, ↓if_pos, ↓if_neg, if_true, if_false]
    unfold b01
    repeat' split
    all_goals first | rfl | (exfalso; omega)
  · have p0 := (hpp 0 (by omega) (by omega)).2
    rw [qa_0] at p0
    simp (disch := omega) only [bX2_areIn_0 hF, bX2_areIn_2 hF, bX2_areIn_10 hF, bX2_areIn_19 hF, bX2_areIn_29 hF, bX2_areIn_31 hF, bX2_areIn_37 hF, h11, e, ↓if_pos, ↓if_neg, if_true, if_false, p0]
    unfold b01
    repeat' split
    all_goals first | rfl | (exfalso; omega)
  · have p0 := (hpp 0 (by omega) (by omega)).2
    have p1 := (hpp 1 (by omega) (by omega)).2
    rw [qa_0] at p0
    rw [qa_1] at p1
    simp (disch := omega) only [bX2_areIn_0 hF, bX2_areIn_2 hF, bX2_areIn_10 hF, bX2_areIn_19 hF, bX2_areIn_29 hF, bX2_areIn_31 hF, bX2_areIn_37 hF, h11, e, ↓if_pos, ↓if_neg, if_true, if_false, p0, show (0 : Int) + 1 = 1 from rfl, p1]
    unfold b01
    repeat' split
    all_goals first | rfl | (exfalso; omega)
  · have p0 := (hpp 0 (by omega) (by omega)).2
    have p1 := (hpp 1 (by omega) (by omega)).2
    have p2 := (hpp 2 (by omega) (by omega)).2
    rw [qa_0] at p0
    rw [qa_1] at p1
    rw [qa_2] at p2
    simp (disch := omega) only [bX2_areIn_0 hF, bX2_areIn_2 hF, bX2_areIn_10 hF, bX2_areIn_19 hF, bX2_areIn_29 hF, bX2_areIn_31 hF, bX2_areIn_37 hF, h11, e, ↓if_pos, ↓if_neg, if_true, if_false, p0, show (0 : Int) + 1 = 1 from rfl, p1, show (1 : Int) + 1 = 2 from rfl, p2]
    unfold b01
    repeat' split
    all_goals first | rfl | (exfalso; omega)
