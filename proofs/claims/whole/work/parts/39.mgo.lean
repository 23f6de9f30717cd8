/-! the reference: what is on a bridge, who may step, what tips -/
/-- how many of those who are there (bits) stand ahead of p -/
def rk (t p : Int) : Int := (if 0 < p ∧ dnB t 0 then 1 else 0) + (if 1 < p ∧ dnB t 1 then 1 else 0)
def cn (t : Int) : Int := (if dnB t 0 then 1 else 0) + (if dnB t 1 then 1 else 0) + (if dnB t 2 then 1 else 0)
/-- the reference's rows hold the fort κ, those of t there -/
def ModC (g : Hp) (κ : Int → Int) (t : Int) : Prop :=
  g 87 0 = κ 0 ∧ (∀ k, 0 ≤ k → k < κ 0 → g 87 (1 + k) = κ (1 + k) ∧ g 87 (6 + k) = κ (6 + k) ∧ g 87 (11 + k) = κ (11 + k) ∧ g 91 k = κ (16 + k)) ∧
  g 86 6 = κ 22 ∧ (∀ c, 0 ≤ c → c < κ 22 → g 92 c = κ (23 + c) ∧ g 93 c = κ (25 + c) ∧ g 94 c = κ (27 + c)) ∧
  (0 ≤ g 87 29 ∧ g 87 29 ≤ 3) ∧ g 86 10 = t ∧ κ 29 = cn t ∧ ∀ p, 0 ≤ p → p < 3 → dnB t p → p < g 87 29 ∧ g 87 (30 + p) = κ (30 + rk t p)
/-- and the state s -/
def ModS (g : Hp) (t : Int) (s : St) : Prop := g 86 12 = s.1 ∧ ∀ p, 0 ≤ p → p < 3 → dnB t p → g 95 p = qa s (rk t p)
theorem rk_le {t p : Int} : 0 ≤ rk t p ∧ rk t p ≤ 2 := by
  unfold rk
  split <;> split <;> omega
theorem rk_lt {t p : Int} (hp : 0 ≤ p ∧ p < 3) (h : dnB t p) : rk t p < cn t := by
  unfold rk cn
  rcases (by omega : p = 0 ∨ p = 1 ∨ p = 2) with rfl | rfl | rfl <;> by_cases d0 : dnB t 0 <;> by_cases d1 : dnB t 1 <;> by_cases d2 : dnB t 2 <;> simp [dnB, d0, d1, d2] <;> first | omega | (exfalso; exact absurd h ‹_›)
theorem m_has (g : Hp) (s k : Int) : EV 8 qX12_has 0 [vI s, vI k] [] g = some (some (vI (b01 (dnB s k))), g) := by
  simp (disch := omega) only [bX12_has_0, bX12_has_9, bX12_has_13, bX12_has_14]
  unfold b01
  split <;> rfl
theorem m_isOf (g : Hp) (b room : Int) (hb : 0 ≤ b ∧ b < 100) : EV 8 qX12_isOf 0 [vR 86, vI b, vI room] [] g = some (some (vI (b01 (g 87 (1 + b) = room ∨ g 87 (6 + b) = room))), g) := by
  simp (disch := omega) only [bX12_isOf_0, bX12_isOf_12, bX12_isOf_25, bX12_isOf_29, bX12_isOf_30]
  unfold b01
  repeat' split
  all_goals first | rfl | (exfalso; omega)
theorem m_mayStep_no {g : Hp} {p to : Int} (hp : 0 ≤ p ∧ p < 3) (ht : 0 ≤ to ∧ to < 10) (hq : 0 ≤ g 95 p ∧ g 95 p < 10) (hn : ¬ dnB (g 86 10) p) : EV 9 qX12_mayStep 0 [vR 86, vI p, vI to, vU, vU, vU] [] g = some (some (vI 0), g) := by
  have e : ∀ x3 x4 x5, EV 9 qX12_mayStep 99 [vR 86, vI p, vI to, vI x3, vI x4, vU] [vI x5] g = some (some (vI 0), g) := fun x3 x4 x5 => by
    simp (disch := first | omega | exact b01_or _) only [bX12_mayStep_99, bX12_mayStep_109, bX12_mayStep_112, bX12_mayStep_117, bX12_mayStep_122, bX12_mayStep_126, bX12_mayStep_127, m_has, bnd_some, Option.toList_some, List.cons_append, List.nil_append, b01_eq0]
    rw [if_pos hn]
  by_cases c1 : g 95 p < 5 <;> by_cases c2 : to < 5
  · simp (disch := first | omega | exact b01_or _) only [bX12_mayStep_0, bX12_mayStep_12, bX12_mayStep_17, bX12_mayStep_27, bX12_mayStep_30, bX12_mayStep_38, bX12_mayStep_41, bX12_mayStep_45, bX12_mayStep_46, bX12_mayStep_53, bX12_mayStep_58, bX12_mayStep_70, bX12_mayStep_80, bX12_mayStep_83, bX12_mayStep_91, bX12_mayStep_94, bX12_mayStep_98, e, m_has, m_isOf, bnd_some, Option.toList_some, List.cons_append, List.nil_append, b01_eq0, ↓if_pos, ↓if_neg]
  · simp (disch := first | omega | exact b01_or _) only [bX12_mayStep_0, bX12_mayStep_12, bX12_mayStep_17, bX12_mayStep_27, bX12_mayStep_30, bX12_mayStep_38, bX12_mayStep_41, bX12_mayStep_45, bX12_mayStep_46, bX12_mayStep_53, bX12_mayStep_58, bX12_mayStep_70, bX12_mayStep_80, bX12_mayStep_83, bX12_mayStep_91, bX12_mayStep_94, bX12_mayStep_98, e, m_has, m_isOf, bnd_some, Option.toList_some, List.cons_append, List.nil_append, b01_eq0, ↓if_pos, ↓if_neg, ite_self]
  · simp (disch := first | omega | exact b01_or _) only [bX12_mayStep_0, bX12_mayStep_12, bX12_mayStep_17, bX12_mayStep_27, bX12_mayStep_30, bX12_mayStep_38, bX12_mayStep_41, bX12_mayStep_45, bX12_mayStep_46, bX12_mayStep_53, bX12_mayStep_58, bX12_mayStep_70, bX12_mayStep_80, bX12_mayStep_83, bX12_mayStep_91, bX12_mayStep_94, bX12_mayStep_98, e, m_has, m_isOf, bnd_some, Option.toList_some, List.cons_append, List.nil_append, b01_eq0, ↓if_pos, ↓if_neg, ite_self]
  · simp (disch := first | omega | exact b01_or _) only [bX12_mayStep_0, bX12_mayStep_12, bX12_mayStep_17, bX12_mayStep_27, bX12_mayStep_30, bX12_mayStep_38, bX12_mayStep_41, bX12_mayStep_45, bX12_mayStep_46, bX12_mayStep_53, bX12_mayStep_58, bX12_mayStep_70, bX12_mayStep_80, bX12_mayStep_83, bX12_mayStep_91, bX12_mayStep_94, bX12_mayStep_98, e, m_has, m_isOf, bnd_some, Option.toList_some, List.cons_append, List.nil_append, b01_eq0, ↓if_pos, ↓if_neg, ite_self]
theorem m_mayStep {g : Hp} {κ : Int → Int} {t : Int} {s : St} (hC : ModC g κ t) (hS : ModS g t s) (hI : KI κ) {p to : Int} (hp : 0 ≤ p ∧ p < 3) (hd : dnB t p) (ht : 0 ≤ to ∧ to < 10) (hq : 0 ≤ qa s (rk t p) ∧ qa s (rk t p) < 5 + κ 0) : EV 9 qX12_mayStep 0 [vR 86, vI p, vI to, vU, vU, vU] [] g = some (some (vI (b01 (aCan κ s (rk t p) to))), g) := by
  obtain ⟨h0, hb, h22, hc, h29, h10, hcn, hpp⟩ := hC
  obtain ⟨h12, hpl⟩ := hS
  obtain ⟨i0, ib, i22, ic, ic2, i29, ip⟩ := hI
  have hpl := hpl p hp.1 hp.2 hd
  have hd' : dnB (g 86 10) p := by rw [h10]; exact hd
  have e : ∀ x3 x4 x5, (x4 = 0 ∨ x4 = 1) → (x5 = 0 ∨ x5 = 1) → EV 9 qX12_mayStep 99 [vR 86, vI p, vI to, vI x3, vI x4, vU] [vI x5] g = some (some (vI (b01 (0 < x4 + x5))), g) := fun x3 x4 x5 h4 h5 => by
    simp (disch := first | omega | exact b01_or _) only [bX12_mayStep_99, bX12_mayStep_109, bX12_mayStep_112, bX12_mayStep_117, bX12_mayStep_122, bX12_mayStep_126, bX12_mayStep_127, m_has, bnd_some, Option.toList_some, List.cons_append, List.nil_append, b01_eq0]
    rw [if_neg (fun z => z hd')]
    unfold b01
    repeat' split
    all_goals first | rfl | (exfalso; omega)
  generalize rk t p = i at *
  by_cases c1 : qa s i < 5 <;> by_cases c2 : to < 5
  · simp (disch := first | omega | exact b01_or _) only [bX12_mayStep_0, bX12_mayStep_12, bX12_mayStep_17, bX12_mayStep_27, bX12_mayStep_30, bX12_mayStep_38, bX12_mayStep_41, bX12_mayStep_45, bX12_mayStep_46, bX12_mayStep_53, bX12_mayStep_58, bX12_mayStep_70, bX12_mayStep_80, bX12_mayStep_83, bX12_mayStep_91, bX12_mayStep_94, bX12_mayStep_98, e, hpl, ↓if_pos, ↓if_neg]
    unfold b01
    repeat' split
    all_goals first | rfl | (exfalso; omega)
  · by_cases c3 : to < 5 + κ 0
    · have hB := hb (to - 5) (by omega) (by omega)
      simp (disch := first | omega | exact b01_or _) only [bX12_mayStep_0, bX12_mayStep_12, bX12_mayStep_17, bX12_mayStep_27, bX12_mayStep_30, bX12_mayStep_38, bX12_mayStep_41, bX12_mayStep_45, bX12_mayStep_46, bX12_mayStep_53, bX12_mayStep_58, bX12_mayStep_70, bX12_mayStep_80, bX12_mayStep_83, bX12_mayStep_91, bX12_mayStep_94, bX12_mayStep_98, e, hpl, ↓if_pos, ↓if_neg, m_has, m_isOf, bnd_some, Option.toList_some, List.cons_append, List.nil_append, b01_eq0, hB.1, hB.2.1, h12]
      unfold b01
      repeat' split
      all_goals first | rfl | (exfalso; omega)
    · simp (disch := first | omega | exact b01_or _) only [bX12_mayStep_0, bX12_mayStep_12, bX12_mayStep_17, bX12_mayStep_27, bX12_mayStep_30, bX12_mayStep_38, bX12_mayStep_41, bX12_mayStep_45, bX12_mayStep_46, bX12_mayStep_53, bX12_mayStep_58, bX12_mayStep_70, bX12_mayStep_80, bX12_mayStep_83, bX12_mayStep_91, bX12_mayStep_94, bX12_mayStep_98, e, hpl, ↓if_pos, ↓if_neg]
      unfold b01
      repeat' split
      all_goals first | rfl | (exfalso; omega)
  · have hB := hb (qa s i - 5) (by omega) (by omega)
    simp (disch := first | omega | exact b01_or _) only [bX12_mayStep_0, bX12_mayStep_12, bX12_mayStep_17, bX12_mayStep_27, bX12_mayStep_30, bX12_mayStep_38, bX12_mayStep_41, bX12_mayStep_45, bX12_mayStep_46, bX12_mayStep_53, bX12_mayStep_58, bX12_mayStep_70, bX12_mayStep_80, bX12_mayStep_83, bX12_mayStep_91, bX12_mayStep_94, bX12_mayStep_98, e, hpl, ↓if_pos, ↓if_neg, m_has, m_isOf, bnd_some, Option.toList_some, List.cons_append, List.nil_append, b01_eq0, hB.1, hB.2.1, h12]
    unfold b01
    repeat' split
    all_goals first | rfl | (exfalso; omega)
  · simp (disch := first | omega | exact b01_or _) only [bX12_mayStep_0, bX12_mayStep_12, bX12_mayStep_17, bX12_mayStep_27, bX12_mayStep_30, bX12_mayStep_38, bX12_mayStep_41, bX12_mayStep_45, bX12_mayStep_46, bX12_mayStep_53, bX12_mayStep_58, bX12_mayStep_70, bX12_mayStep_80, bX12_mayStep_83, bX12_mayStep_91, bX12_mayStep_94, bX12_mayStep_98, e, hpl, ↓if_pos, ↓if_neg]
    unfold b01
    repeat' split
    all_goals first | rfl | (exfalso; omega)
theorem m_ld_it (g : Hp) (b x p : Int) (hp : 0 ≤ p ∧ p < 3) (hlt : p < g 87 29) (hb : 0 ≤ b ∧ b < 5) (hx : 0 ≤ x ∧ x < 1000) (hw : dnB (g 86 10) p → 0 ≤ g 87 (30 + p) ∧ g 87 (30 + p) ≤ 9) : EV 9 qX12_loadOf 9 [vR 86, vI b, vI x, vI p] [] g = EV 9 qX12_loadOf 9 [vR 86, vI b, vI (x + if dnB (g 86 10) p ∧ g 95 p = 5 + b then g 87 (30 + p) else 0), vI (p + 1)] [] g := by
  rw [bX12_loadOf_9, if_neg (by omega), bX12_loadOf_20, m_has, bnd_some]
  show EV 9 qX12_loadOf 29 _ [vI _, vI _] g = _
  rw [bX12_loadOf_29]
  by_cases d : dnB (g 86 10) p
  · have := hw d
    rw [if_neg (b01_pos d), bX12_loadOf_32 _ _ _ _ _ hp (by omega)]
    by_cases e : g 95 p = 5 + b
    · rw [if_pos e, bX12_loadOf_44 _ _ _ _ _ (by omega) (by omega), bX12_loadOf_57 _ _ _ _ _ _ (by omega) (by omega), if_pos ⟨d, e⟩]
    · rw [if_neg e, bX12_loadOf_56, bX12_loadOf_57 _ _ _ _ _ _ (by omega) (by omega), if_neg (fun z => e z.2)]
  · rw [if_pos (b01_neg d), bX12_loadOf_56, bX12_loadOf_57 _ _ _ _ _ _ (by omega) (by omega), if_neg (fun z => d z.1)]
theorem m_ld_end (g : Hp) (b x p : Int) (hge : g 87 29 ≤ p) (hb : 0 ≤ b ∧ b < 5) (hx : 0 ≤ x ∧ x < 1000) (hk : 0 ≤ g 87 (11 + b) ∧ g 87 (11 + b) ≤ 5) : EV 9 qX12_loadOf 9 [vR 86, vI b, vI x, vI p] [] g = some (some (vI (aKd (g 87 (11 + b)) x)), g) := by
  rw [bX12_loadOf_9, if_pos hge, bX12_loadOf_65 _ _ _ _ (by omega) (by omega)]
  generalize g 87 (11 + b) = k at *
  rcases (by omega : k = 0 ∨ k = 1 ∨ k = 2 ∨ k = 3 ∨ k = 4 ∨ k = 5) with rfl | rfl | rfl | rfl | rfl | rfl
  · rw [ev_tabOut (q := qX12_loadOf) (pc := 74) (t := 130) dX12_loadOf_74 (by omega) (by decide), bX12_loadOf_130]
    rfl
  · rw [ev_tabIn (q := qX12_loadOf) (pc := 74) (t := 108) (off := 34) dX12_loadOf_74 (by omega) rfl (by decide), bX12_loadOf_108 _ _ _ _ (by omega)]
    rfl
  · rw [ev_tabIn (q := qX12_loadOf) (pc := 74) (t := 112) (off := 38) dX12_loadOf_74 (by omega) rfl (by decide), bX12_loadOf_112 _ _ _ _ (by omega)]
    rfl
  · rw [ev_tabIn (q := qX12_loadOf) (pc := 74) (t := 130) (off := 56) dX12_loadOf_74 (by omega) rfl (by decide), bX12_loadOf_130]
    rfl
  · rw [ev_tabIn (q := qX12_loadOf) (pc := 74) (t := 108) (off := 34) dX12_loadOf_74 (by omega) rfl (by decide), bX12_loadOf_108 _ _ _ _ (by omega)]
    rfl
  · rw [ev_tabIn (q := qX12_loadOf) (pc := 74) (t := 116) (off := 42) dX12_loadOf_74 (by omega) rfl (by decide), bX12_loadOf_116]
    by_cases e : x ≤ 0
    · rw [if_pos e, bX12_loadOf_128, bX12_loadOf_129]
      unfold aKd
      simp
      omega
    · rw [if_neg e, bX12_loadOf_120 _ _ _ _ (by omega) (by omega), bX12_loadOf_129]
      unfold aKd
      simp
      omega
def mW (g : Hp) (b p : Int) : Int := if dnB (g 86 10) p ∧ g 95 p = 5 + b then g 87 (30 + p) else 0
theorem mW_le {g : Hp} {κ : Int → Int} {t : Int} (hC : ModC g κ t) (hI : KI κ) (b : Int) {p : Int} (hp : 0 ≤ p ∧ p < 3) : (0 ≤ mW g b p ∧ mW g b p ≤ 9) ∧ (dnB (g 86 10) p → 0 ≤ g 87 (30 + p) ∧ g 87 (30 + p) ≤ 9) ∧ (g 87 29 ≤ p → mW g b p = 0) := by
  obtain ⟨h0, hb, h22, hc, h29, h10, hcn, hpp⟩ := hC
  obtain ⟨i0, ib, i22, ic, ic2, i29, ip⟩ := hI
  unfold mW
  rw [h10]
  by_cases d : dnB t p
  · have := hpp p hp.1 hp.2 d
    have r := rk_lt hp d
    have := ip (rk t p) rk_le.1 (by omega)
    refine ⟨?_, fun _ => by omega, fun _ => by omega⟩
    split <;> omega
  · rw [if_neg (fun z => d z.1)]
    exact ⟨by omega, fun z => absurd z d, fun _ => rfl⟩
theorem mW_sum {g : Hp} {κ : Int → Int} {t : Int} {s : St} (hC : ModC g κ t) (hS : ModS g t s) (b : Int) : κ (16 + b) + mW g b 0 + mW g b 1 + mW g b 2 = aPd κ s b := by
  obtain ⟨h0, hb, h22, hc, h29, h10, hcn, hpp⟩ := hC
  obtain ⟨h12, hpl⟩ := hS
  have q0 := hpp 0 (by omega) (by omega)
  have q1 := hpp 1 (by omega) (by omega)
  have q2 := hpp 2 (by omega) (by omega)
  have l0 := hpl 0 (by omega) (by omega)
  have l1 := hpl 1 (by omega) (by omega)
  have l2 := hpl 2 (by omega) (by omega)
  unfold mW aPd
  rw [h10, hcn]
  unfold cn
  unfold rk at *
  rw [show (30 : Int) + 0 = 30 from rfl] at q0
  rw [show (30 : Int) + 1 = 31 from rfl] at q1
  rw [show (30 : Int) + 2 = 32 from rfl] at q2
  by_cases d0 : dnB t 0 <;> by_cases d1 : dnB t 1 <;> by_cases d2 : dnB t 2 <;> simp [dnB, d0, d1, d2] at q0 q1 q2 l0 l1 l2 ⊢ <;> (try simp [q0, q1, q2, l0, l1, l2, qa])
