/-! bits of a set of lyings -/
theorem smod32 : ∀ k : Nat, k < 32 → (Int32.ofNat k).toBitVec.smod 32 = BitVec.ofNat 32 k := by decide +kernel
theorem one_shl : ∀ k : Nat, k < 32 → (Int32.ofInt (bShl 1 (k : Int))).toBitVec = BitVec.twoPow 32 k := by decide +kernel
theorem dn_bit {x : Int} {k : Nat} (hk : k < 32) : dnB x (k : Int) ↔ (Int32.ofInt x).toBitVec.getLsbD k = true := by
  unfold dnB bAnd bShr
  rw [Int32.ofInt_toInt, b31 k hk]
  have h1 : (1 : Int) = (1 : Int32).toInt := by decide
  have key : (Int32.ofInt x >>> Int32.ofNat k &&& Int32.ofInt 1).toInt = 1 ↔ (Int32.ofInt x >>> Int32.ofNat k &&& Int32.ofInt 1) = 1 := by
    conv => lhs; rhs; rw [h1]
    exact Int32.toInt_inj
  rw [key, ← Int32.toBitVec_inj, Int32.toBitVec_and, Int32.toBitVec_shiftRight, smod32 k hk]
  have e : (BitVec.ofNat 32 k).toNat = k := by simp; omega
  have e1 : (Int32.ofInt 1).toBitVec = BitVec.twoPow 32 0 := by decide
  have e2 : (1 : Int32).toBitVec = BitVec.twoPow 32 0 := by decide
  rw [e1, e2, BitVec.and_twoPow]
  unfold BitVec.sshiftRight'
  rw [e, BitVec.getLsbD_sshiftRight]
  have h0 : ¬ 32 ≤ 0 := by omega
  simp only [h0, hk, decide_false, Bool.not_false, Bool.true_and, if_true, Nat.add_zero]
  cases (Int32.ofInt x).toBitVec.getLsbD k
  · simp only [Bool.false_eq_true, if_false, iff_false]
    decide
  · simp
theorem dn_or {a : Int} {k l : Nat} (hk : k < 32) (hl : l < 32) : dnB (bOr a (bShl 1 (l : Int))) (k : Int) ↔ dnB a (k : Int) ∨ k = l := by
  rw [dn_bit hk, dn_bit hk]
  have e : (Int32.ofInt (bOr a (bShl 1 (l : Int)))).toBitVec = (Int32.ofInt a).toBitVec ||| BitVec.twoPow 32 l := by
    unfold bOr
    rw [Int32.ofInt_toInt, Int32.toBitVec_or, one_shl l hl]
  rw [e, BitVec.getLsbD_or, BitVec.getLsbD_twoPow, Bool.or_eq_true, Bool.and_eq_true, decide_eq_true_eq, decide_eq_true_eq]
  constructor
  · rintro (z | ⟨_, z⟩)
    · exact Or.inl z
    · exact Or.inr z.symm
  · rintro (z | z)
    · exact Or.inl z
    · exact Or.inr ⟨hl, z.symm⟩
theorem dn_0 {k : Nat} (hk : k < 32) : ¬ dnB 0 (k : Int) := by
  rw [dn_bit hk]
  simp
theorem lyS_bit (Q : Qu) (h : ∀ e ∈ Q, 0 ≤ e.1.1 ∧ e.1.1 < 32) {k : Nat} (hk : k < 32) : dnB (lyS Q) (k : Int) → ∃ e ∈ Q, e.1.1 = (k : Int) := by
  have gen : ∀ (Q : Qu) (a : Int), (∀ e ∈ Q, 0 ≤ e.1.1 ∧ e.1.1 < 32) → dnB (Q.foldl (fun a e => bOr a (bShl 1 e.1.1)) a) (k : Int) → dnB a (k : Int) ∨ ∃ e ∈ Q, e.1.1 = (k : Int) := by
    intro Q
    induction Q with
    | nil => intro a _ hd; exact Or.inl hd
    | cons e Q ih =>
      intro a hQ hd
      have he := hQ e (List.mem_cons_self ..)
      rcases ih _ (fun x hx => hQ x (List.mem_cons_of_mem _ hx)) hd with z | ⟨x, hx, ex⟩
      · obtain ⟨l, hl⟩ := Int.eq_ofNat_of_zero_le he.1
        change dnB (bOr a (bShl 1 e.1.1)) (k : Int) at z
        rw [hl] at z
        rcases (dn_or hk (by omega)).mp z with y | y
        · exact Or.inl y
        · exact Or.inr ⟨e, List.mem_cons_self .., by omega⟩
      · exact Or.inr ⟨x, List.mem_cons_of_mem _ hx, ex⟩
  intro hd
  rcases gen Q 0 h hd with z | z
  · exact absurd z (dn_0 hk)
  · exact z
theorem lyS_ir (Q : Qu) : ir (lyS Q) := by
  have gen : ∀ (Q : Qu) (a : Int), ir a → ir (Q.foldl (fun a e => bOr a (bShl 1 e.1.1)) a) := by
    intro Q
    induction Q with
    | nil => intro a h; exact h
    | cons e Q ih => intro a h; exact ih _ (ir_or _ _)
  exact gen Q 0 (by decide)
theorem lyS_in {κ : Int → Int} (hI : KI κ) {s0 : St} {Q : Qu} (hQ : QI κ s0 Q) {l : Int} (h0 : 0 ≤ l) (h1 : l < 32) (hd : dnB (lyS Q) l) : l ≤ pw2 (κ 0) - 1 := by
  obtain ⟨k, rfl⟩ := Int.eq_ofNat_of_zero_le h0
  have k0 := hI.1
  obtain ⟨e, he, ee⟩ := lyS_bit Q (fun e he => SVd_ly k0 (hQ.2.1 e.1 (List.mem_map.mpr ⟨e, he, rfl⟩)).1) (by omega) hd
  have := (hQ.2.1 e.1 (List.mem_map.mpr ⟨e, he, rfl⟩)).1.1
  omega
theorem o32ti {x : Int} (h : ir x) : (Int32.ofInt x).toInt = x := i32_ti h
theorem bAnd_m1 {x : Int} (h : ir x) : bAnd x (-1) = x := by
  unfold bAnd
  have e : Int32.ofInt x &&& Int32.ofInt (-1) = Int32.ofInt x := by
    apply Int32.toBitVec_inj.mp
    rw [Int32.toBitVec_and]
    have : (Int32.ofInt (-1)).toBitVec = BitVec.allOnes 32 := by decide
    rw [this, BitVec.and_allOnes]
  rw [e, o32ti h]
theorem bOr_0 {x : Int} (h : ir x) : bOr x 0 = x := by
  unfold bOr
  have e : Int32.ofInt x ||| Int32.ofInt 0 = Int32.ofInt x := by
    apply Int32.toBitVec_inj.mp
    rw [Int32.toBitVec_or]
    have : (Int32.ofInt 0).toBitVec = 0#32 := by decide
    rw [this, BitVec.or_zero]
  rw [e, o32ti h]
theorem bNot_or (a d l : Int) : bAnd (bAnd a (bXor d (-1))) (bXor l (-1)) = bAnd a (bXor (bOr d l) (-1)) := by
  unfold bAnd bXor bOr
  rw [Int32.ofInt_toInt, Int32.ofInt_toInt, Int32.ofInt_toInt, Int32.ofInt_toInt, Int32.ofInt_toInt]
  congr 1
  apply Int32.toBitVec_inj.mp
  rw [Int32.toBitVec_and, Int32.toBitVec_and, Int32.toBitVec_and, Int32.toBitVec_xor, Int32.toBitVec_xor, Int32.toBitVec_xor, Int32.toBitVec_or]
  have : (Int32.ofInt (-1)).toBitVec = BitVec.allOnes 32 := by decide
  rw [this]
  generalize (Int32.ofInt a).toBitVec = A
  generalize (Int32.ofInt d).toBitVec = D
  generalize (Int32.ofInt l).toBitVec = L
  apply BitVec.eq_of_getLsbD_eq
  intro i hi
  simp only [BitVec.getLsbD_and, BitVec.getLsbD_xor, BitVec.getLsbD_or, BitVec.getLsbD_allOnes, hi, decide_true]
  cases A.getLsbD i <;> cases D.getLsbD i <;> cases L.getLsbD i <;> rfl
/-! reach -/
def fA (S : Int) : Nat → Int → Int → Int
  | 0, _, x => x
  | m + 1, l, x => fA S m (l + 1) (if dnB S l then bAnd x l else x)
def fO (S : Int) : Nat → Int → Int → Int
  | 0, _, x => x
  | m + 1, l, x => fO S m (l + 1) (if dnB S l then bOr x l else x)
theorem fA_none (S : Int) : ∀ (m : Nat) (l x : Int), (∀ k, l ≤ k → k < l + m → ¬ dnB S k) → fA S m l x = x := by
  intro m
  induction m with
  | zero => intro l x _; rfl
  | succ m ih =>
    intro l x h
    rw [fA, if_neg (h l (by omega) (by omega))]
    exact ih _ _ (fun k k0 k1 => h k (by omega) (by omega))
theorem fA_add (S : Int) : ∀ (m n : Nat) (l x : Int), fA S (m + n) l x = fA S n (l + m) (fA S m l x) := by
  intro m
  induction m with
  | zero => intro n l x; rw [Nat.zero_add]; show _ = fA S n (l + 0) x; rw [Int.add_zero]
  | succ m ih =>
    intro n l x
    rw [show m + 1 + n = (m + n) + 1 by omega, fA, fA, ih, show l + 1 + (m : Int) = l + ((m + 1 : Nat) : Int) by omega]
theorem fA_ir (S : Int) : ∀ (m : Nat) (l x : Int), ir x → ir (fA S m l x) := by
  intro m
  induction m with
  | zero => intro l x h; exact h
  | succ m ih =>
    intro l x h
    rw [fA]
    refine ih _ _ ?_
    split
    · exact ir_and _ _
    · exact h
theorem c_downInAll (g : Hp) (S a : Int) (ha : 0 ≤ a ∧ a < 32) : EV 9 qX11_downInAll 0 [vI S, vI a, vU, vU] [] g = some (some (vI (fA S (a + 1).toNat 0 a)), g) := by
  have loop : ∀ (m : Nat) (l x : Int), 0 ≤ l → l + m = a + 1 → EV 9 qX11_downInAll 4 [vI S, vI a, vI x, vI l] [] g = some (some (vI (fA S m l x)), g) := by
    intro m
    induction m with
    | zero =>
      intro l x h0 h
      rw [bX11_downInAll_4, if_pos (by omega), bX11_downInAll_27]
      rfl
    | succ m ih =>
      intro l x h0 h
      rw [bX11_downInAll_4, if_neg (by omega), bX11_downInAll_9, c_isAmong, bnd_some]
      show EV 9 qX11_downInAll 14 _ [vI _] _ = _
      rw [bX11_downInAll_14, fA]
      by_cases d : dnB S l
      · rw [if_neg (b01_pos d), bX11_downInAll_17, bX11_downInAll_21 _ _ _ _ _ (by omega), if_pos d]
        exact ih _ _ (by omega) (by omega)
      · rw [if_pos (b01_neg d), bX11_downInAll_21 _ _ _ _ _ (by omega), if_neg d]
        exact ih _ _ (by omega) (by omega)
  rw [bX11_downInAll_0]
  exact loop _ 0 a (by omega) (by omega)
theorem c_downInSome (g : Hp) (S : Int) : EV 9 qX11_downInSome 0 [vI S, vU, vU] [] g = some (some (vI (fO S 32 0 0)), g) := by
  have loop : ∀ (m : Nat) (l x : Int), 0 ≤ l → l + m = 32 → EV 9 qX11_downInSome 4 [vI S, vI x, vI l] [] g = some (some (vI (fO S m l x)), g) := by
    intro m
    induction m with
    | zero =>
      intro l x h0 h
      rw [bX11_downInSome_4, if_pos (by omega), bX11_downInSome_28]
      rfl
    | succ m ih =>
      intro l x h0 h
      rw [bX11_downInSome_4, if_neg (by omega), bX11_downInSome_10, c_isAmong, bnd_some]
      show EV 9 qX11_downInSome 15 _ [vI _] _ = _
      rw [bX11_downInSome_15, fO]
      by_cases d : dnB S l
      · rw [if_neg (b01_pos d), bX11_downInSome_18, bX11_downInSome_22 _ _ _ _ (by omega), if_pos d]
        exact ih _ _ (by omega) (by omega)
      · rw [if_pos (b01_neg d), bX11_downInSome_22 _ _ _ _ (by omega), if_neg d]
        exact ih _ _ (by omega) (by omega)
  rw [bX11_downInSome_0]
  exact loop 32 0 0 (by omega) (by omega)
theorem m_reach_loop (g : Hp) (x1 S A : Int) : ∀ (m : Nat) (l x d : Int), 0 ≤ l → l + m = 32 → ir x → EV 13 qX12_reach 39 [vR 86, vI x1, vI S, vI x, vI (bAnd A (bXor d (-1))), vI l] [] g = EV 13 qX12_reach 92 [vR 86, vI x1, vI S, vI (fA S m l x), vI (bAnd A (bXor (fO S m l d) (-1))), vI 32] [] g := by
  intro m
  induction m with
  | zero =>
    intro l x d h0 h hx
    rw [bX12_reach_39, if_pos (by omega), show l = 32 by omega]
    rfl
  | succ m ih =>
    intro l x d h0 h hx
    rw [bX12_reach_39, if_neg (by omega), bX12_reach_46, m_has, bnd_some]
    show EV 13 qX12_reach 53 _ [vI _, vI _] _ = _
    rw [bX12_reach_53, fA, fO]
    by_cases dd : dnB S l
    · rw [if_neg (b01_pos dd), bX12_reach_56, bX12_reach_62, m_has, bnd_some]
      show EV 13 qX12_reach 72 _ [vI _, vI _] _ = _
      rw [bX12_reach_72, if_neg (b01_pos dd), bX12_reach_75, bX12_reach_83 _ _ _ _ _ _ _ _ (by omega), bNot_or, if_pos dd, if_pos dd]
      exact ih _ _ _ (by omega) (by omega) (ir_and _ _)
    · rw [if_pos (b01_neg dd), bX12_reach_61, bX12_reach_62, m_has, bnd_some]
      show EV 13 qX12_reach 72 _ [vI _, vI _] _ = _
      rw [bX12_reach_72, if_pos (b01_neg dd), bX12_reach_82, bX12_reach_83 _ _ _ _ _ _ _ _ (by omega), bAnd_m1 hx, bAnd_m1 (ir_and _ _), if_neg dd, if_neg dd]
      exact ih _ _ _ (by omega) (by omega) hx
theorem o_reach {g : Hp} {n : Int} (hR : Rel g n) (hn : n < 1000) (x : Int) : Opk g n (EV 15 qX11_reach 0 [vR 0, vI x, vU] []) (EV 13 qX12_reach 0 [vR 86, vI x, vU, vU, vU, vU] []) := by
  have c7 := hR.c7 (by omega)
  obtain ⟨b1, b2, b3, b4⟩ := hR.b0
  have hI := hR.1.1
  have kI := KI_F hI
  have sV := SVd_F hI
  have hQ := QI_F kI sV
  have hpw := pw2_le b1
  have hpos := pw2_pos (n := g 87 0)
  by_cases ok : 0 ≤ x ∧ x ≤ 3
  · obtain ⟨g1, a1, a2, a3⟩ := c_lyingsNow hI hR.1.2
    have e87 : g1 87 = g 87 := a2 87 (by omega) (by omega)
    have e11 : g1 1 1 = g 87 0 := by rw [a2 1 (by omega) (by omega)]; exact b2
    have erg : rg g1 0 = rg g 0 := by unfold rg; rw [e87]
    obtain ⟨g2, d1, d2, d3, d4⟩ := m_allLyings (g := g1) (by rw [erg]; exact hI)
    rw [erg] at d1 d4
    have e20 := d4.1
    have hin : ∀ l, 0 ≤ l → l < 32 → dnB (lyS (qF (rg g 0) (stF (rg g 0)))) l → l ≤ pw2 (g 87 0) - 1 := fun l l0 l1 ld => by
      have := lyS_in kI hQ l0 l1 ld
      rw [rg0] at this
      exact this
    have hirS := lyS_ir (qF (rg g 0) (stF (rg g 0)))
    generalize lyS (qF (rg g 0) (stF (rg g 0))) = S at *
    have e2_0 : g2 87 0 = g 87 0 := by rw [d2.1 87 (by omega) (by omega), e87]
    have cST : EV 15 qX11_reach 0 [vR 0, vI x, vU] [] g = EV 15 qX11_reach 22 [vR 0, vI x, vI S] [vI x] g1 := by
      rw [bX11_reach_0, if_neg (by omega), bX11_reach_4, if_pos (by omega), bX11_reach_16, a1, bnd_some]
      exact bX11_reach_20 _ _ _
    have hirA : ir (pw2 (g 87 0) - 1) := ⟨by omega, by omega⟩
    have init : pw2 (g 87 0) - 1 = bAnd (pw2 (g 87 0) - 1) (bXor 0 (-1)) := by
      rw [show bXor 0 (-1) = -1 by decide, bAnd_m1 hirA]
    have mST : EV 13 qX12_reach 0 [vR 86, vI x, vU, vU, vU, vU] [] g1 = EV 13 qX12_reach 92 [vR 86, vI x, vI S, vI (fA S 32 0 (pw2 (g 87 0) - 1)), vI (bAnd (pw2 (g 87 0) - 1) (bXor (fO S 32 0 0) (-1))), vI 32] [] g2 := by
      rw [bX12_reach_0, e_in, bnd_some]
      show EV 13 qX12_reach 9 _ [vI _] _ = _
      rw [bX12_reach_9, if_neg (b01_pos ok), bX12_reach_17, d1, bnd_some]
      show EV 13 qX12_reach 21 _ [vI _] _ = _
      rw [bX12_reach_21 _ _ _ (by rw [e2_0, shl1I (by omega)]; omega), e2_0, shl1I (by omega)]
      have := m_reach_loop g2 x S (pw2 (g 87 0) - 1) 32 0 (pw2 (g 87 0) - 1) 0 (by omega) (by omega) hirA
      rw [← init] at this
      exact this
    have eA : fA S 32 0 (pw2 (g 87 0) - 1) = fA S (pw2 (g 87 0) - 1 + 1).toNat 0 (pw2 (g 87 0) - 1) := by
      have hsum : 32 = (pw2 (g 87 0) - 1 + 1).toNat + (32 - (pw2 (g 87 0) - 1 + 1).toNat) := by omega
      conv => lhs; rw [hsum]
      rw [fA_add, fA_none]
      intro k k0 k1 kd
      have := hin k (by omega) (by omega) kd
      omega
    rcases (by omega : x = 0 ∨ x = 1 ∨ x = 2 ∨ x = 3) with rfl | rfl | rfl | rfl
    · refine Opk.ro hR (vI ((qF (rg g 0) (stF (rg g 0))).length : Int)) ?_ ?_ a2 d2
      · rw [cST, ev_tabIn (q := qX11_reach) (pc := 22) (t := 48) (off := 26) dX11_reach_22 (by omega) rfl (by decide), bX11_reach_48, a3]
      · rw [mST, bX12_reach_92, if_pos rfl, bX12_reach_96, bX12_reach_126, e20]
    · refine Opk.ro hR (vI (pcn 32 (uI S) : Int)) ?_ ?_ a2 d2
      · rw [cST, ev_tabIn (q := qX11_reach) (pc := 22) (t := 56) (off := 34) dX11_reach_22 (by omega) rfl (by decide), bX11_reach_56, c_bitCount, bnd_some]
        exact bX11_reach_60 _ _ _ _
      · rw [mST, bX12_reach_92, if_neg (by omega), bX12_reach_103, if_pos rfl, bX12_reach_108, m_many _ _ hirS, bnd_some]
        show EV 13 qX12_reach 112 _ [vI _] _ = _
        rw [bX12_reach_112, bX12_reach_126]
    · refine Opk.ro hR (vI (fA S 32 0 (pw2 (g 87 0) - 1))) ?_ ?_ a2 d2
      · rw [cST, ev_tabIn (q := qX11_reach) (pc := 22) (t := 61) (off := 39) dX11_reach_22 (by omega) rfl (by decide), bX11_reach_61, c_allBridges hF1 _ (by omega), bnd_some, e11]
        show EV 15 qX11_reach 69 _ [vI _, vI _] _ = _
        rw [bX11_reach_69, c_downInAll _ _ _ (by omega), bnd_some, ← eA]
        exact bX11_reach_72 _ _ _ _
      · rw [mST, bX12_reach_92, if_neg (by omega), bX12_reach_103, if_neg (by omega), bX12_reach_115, if_pos rfl, bX12_reach_120, bX12_reach_126]
    · refine Opk.ro hR (vI (bAnd (pw2 (g 87 0) - 1) (bXor (fO S 32 0 0) (-1)))) ?_ ?_ a2 d2
      · rw [cST, ev_tabOut (q := qX11_reach) (pc := 22) (t := 73) dX11_reach_22 (by omega) (by decide), bX11_reach_73, c_allBridges hF1 _ (by omega), bnd_some, e11]
        show EV 15 qX11_reach 80 _ [vI _] _ = _
        rw [bX11_reach_80, c_downInSome, bnd_some]
        exact bX11_reach_84 _ _ _ _ _
      · rw [mST, bX12_reach_92, if_neg (by omega), bX12_reach_103, if_neg (by omega), bX12_reach_115, if_neg (by omega), bX12_reach_124, bX12_reach_126]
  · refine Opk.no hR (-2) (by omega) (vI (-2)) ?_ ?_
    · have fin : EV 15 qX11_reach 9 [vR 0, vI x, vU] [] g = some (some (vI (-2)), ctH g (-2)) := by
        rw [bX11_reach_9, c_counted _ _ c7, bnd_some]
        exact bX11_reach_15 _ _ _
      rw [bX11_reach_0, bX11_reach_4]
      by_cases z : x < 0
      · rw [if_pos z, fin]
      · rw [if_neg z, if_neg (by omega), fin]
    · rw [bX12_reach_0, e_in, bnd_some]
      show EV 13 qX12_reach 9 _ [vI _] _ = _
      rw [bX12_reach_9, if_pos (b01_neg ok), bX12_reach_12, e_bad _ (hR.m9 (by omega) _), bnd_some]
      exact bX12_reach_16 _ _ _
/-! closed -/
def oB (φ : Int → Int) (room : Int) : Nat → Int → Int → Int
  | 0, _, x => x
  | m + 1, b, x => oB φ room m (b + 1) (if jn φ b room then bOr x (bShl 1 b) else x)
theorem c_bridgesOf {g : Hp} {φ : Int → Int} (h0 : 0 ≤ φ 0 ∧ φ 0 ≤ 5) (h1 : g 1 1 = φ 0) (hb : ∀ k, 0 ≤ k → k < φ 0 → g 9 k = φ (1 + k) ∧ g 10 k = φ (6 + k)) (room : Int) : EV 9 qX2_bridgesOf 0 [vR 1, vI room, vU, vU] [] g = some (some (vI (oB φ room (φ 0).toNat 0 0)), g) := by
  have loop : ∀ (m : Nat) (b x : Int), 0 ≤ b → b + m = φ 0 → EV 9 qX2_bridgesOf 4 [vR 1, vI room, vI x, vI b] [] g = some (some (vI (oB φ room m b x)), g) := by
    intro m
    induction m with
    | zero =>
      intro b x hb0 h
      rw [bX2_bridgesOf_4 hF1, if_pos (by omega), bX2_bridgesOf_33 hF1]
      rfl
    | succ m ih =>
      intro b x hb0 h
      have q := hb b hb0 (by omega)
      have q1 : g (1 + 8) b = φ (1 + b) := q.1
      have q2 : g (1 + 9) b = φ (6 + b) := q.2
      rw [bX2_bridgesOf_4 hF1, if_neg (by omega), bX2_bridgesOf_12 hF1, c_joins hF1 _ _ _ (by omega), bnd_some, q1, q2]
      show EV 9 qX2_bridgesOf 18 _ [vI _] _ = _
      rw [bX2_bridgesOf_18 hF1, oB]
      by_cases j : jn φ b room
      · rw [if_neg (b01_pos j), bX2_bridgesOf_21 hF1, bX2_bridgesOf_27 hF1 _ _ _ _ (by omega), if_pos j]
        exact ih _ _ (by omega) (by omega)
      · rw [if_pos (b01_neg j), bX2_bridgesOf_27 hF1 _ _ _ _ (by omega), if_neg j]
        exact ih _ _ (by omega) (by omega)
  rw [bX2_bridgesOf_0 hF1]
  exact loop _ 0 0 (by omega) (by omega)
theorem m_ofLoop {g : Hp} (h0 : 0 ≤ g 87 0 ∧ g 87 0 ≤ 5) (room : Int) : ∀ (m : Nat) (b x : Int), 0 ≤ b → b + m = g 87 0 → ir x → EV 13 qX12_closed 16 [vR 86, vI room, vI x, vI b, vU, vU] [] g = EV 13 qX12_closed 51 [vR 86, vI room, vI (oB (rg g 0) room m b x), vI (g 87 0), vU, vU] [] g := by
  intro m
  induction m with
  | zero =>
    intro b x hb0 h hx
    rw [bX12_closed_16, if_pos (by omega), show b = g 87 0 by omega]
    rfl
  | succ m ih =>
    intro b x hb0 h hx
    rw [bX12_closed_16, if_neg (by omega), bX12_closed_26, m_isOf _ _ _ (by omega), bnd_some]
    show EV 13 qX12_closed 33 _ [vI _, vI _] _ = _
    rw [bX12_closed_33, oB]
    have e : jn (rg g 0) b room ↔ (g 87 (1 + b) = room ∨ g 87 (6 + b) = room) := by
      unfold jn
      rw [rg0, rg0]
    by_cases j : g 87 (1 + b) = room ∨ g 87 (6 + b) = room
    · rw [if_neg (b01_pos j), bX12_closed_36, bX12_closed_43 _ _ _ _ _ _ (by omega), if_pos (e.mpr j)]
      exact ih _ _ (by omega) (by omega) (ir_or _ _)
    · rw [if_pos (b01_neg j), bX12_closed_42, bX12_closed_43 _ _ _ _ _ _ (by omega), bOr_0 hx, if_neg (fun z => j (e.mp z))]
      exact ih _ _ (by omega) (by omega) hx
def exL (S of l m : Int) : Prop := ∃ k, l ≤ k ∧ k < m ∧ dnB S k ∧ bAnd k of = 0
theorem c_closedLoop {g : Hp} (h1 : 0 ≤ g 1 1 ∧ g 1 1 ≤ 5) (room S of : Int) : ∀ (m : Nat) (l : Int), 0 ≤ l → l + m = pw2 (g 1 1) → (exL S of l (pw2 (g 1 1)) ∧ EV 15 qX11_closed 31 [vR 0, vI room, vI S, vI of, vI l] [] g = some (some (vI 1), g)) ∨ (¬ exL S of l (pw2 (g 1 1)) ∧ EV 15 qX11_closed 31 [vR 0, vI room, vI S, vI of, vI l] [] g = some (some (vI 0), g)) := by
  have hpw := pw2_le h1
  intro m
  induction m with
  | zero =>
    intro l h0 h
    right
    refine ⟨fun ⟨k, k0, k1, _⟩ => by omega, ?_⟩
    rw [bX11_closed_31, c_allBridges hF1 _ h1, bnd_some]
    show EV 15 qX11_closed 40 _ [vI _, vI _] _ = _
    rw [bX11_closed_40, if_pos (by omega), bX11_closed_67]
  | succ m ih =>
    intro l h0 h
    have st : EV 15 qX11_closed 31 [vR 0, vI room, vI S, vI of, vI l] [] g = EV 15 qX11_closed 49 [vR 0, vI room, vI S, vI of, vI l] [vI (b01 (dnB S l))] g := by
      rw [bX11_closed_31, c_allBridges hF1 _ h1, bnd_some]
      show EV 15 qX11_closed 40 _ [vI _, vI _] _ = _
      rw [bX11_closed_40, if_neg (by omega), bX11_closed_43, c_isAmong, bnd_some]
      rfl
    rw [st, bX11_closed_49]
    by_cases p : dnB S l ∧ bAnd l of = 0
    · left
      refine ⟨⟨l, by omega, by omega, p.1, p.2⟩, ?_⟩
      rw [if_neg (b01_pos p.1), bX11_closed_52, if_pos p.2, bX11_closed_59]
    · have nx : EV 15 qX11_closed 49 [vR 0, vI room, vI S, vI of, vI l] [vI (b01 (dnB S l))] g = EV 15 qX11_closed 31 [vR 0, vI room, vI S, vI of, vI (l + 1)] [] g := by
        rw [bX11_closed_49]
        by_cases d : dnB S l
        · rw [if_neg (b01_pos d), bX11_closed_52, if_neg (fun z => p ⟨d, z⟩), bX11_closed_61 _ _ _ _ _ (by omega)]
        · rw [if_pos (b01_neg d), bX11_closed_61 _ _ _ _ _ (by omega)]
      rw [← bX11_closed_49, nx]
      rcases ih (l + 1) (by omega) (by omega) with ⟨⟨k, k0, k1, k2⟩, e⟩ | ⟨ne, e⟩
      · exact Or.inl ⟨⟨k, by omega, k1, k2⟩, e⟩
      · refine Or.inr ⟨fun ⟨k, k0, k1, k2⟩ => ?_, e⟩
        by_cases ek : k = l
        · exact p (ek ▸ k2)
        · exact ne ⟨k, by omega, k1, k2⟩
theorem m_closedLoop (g : Hp) (room S of : Int) : ∀ (m : Nat) (l is : Int), 0 ≤ l → l + m = 32 → (is = 0 ∨ is = 1) → ((exL S of l 32 ∨ is = 1) ∧ EV 13 qX12_closed 62 [vR 86, vI room, vI of, vI S, vI is, vI l] [] g = some (some (vI 1), g)) ∨ (¬ (exL S of l 32 ∨ is = 1) ∧ EV 13 qX12_closed 62 [vR 86, vI room, vI of, vI S, vI is, vI l] [] g = some (some (vI 0), g)) := by
  intro m
  induction m with
  | zero =>
    intro l is h0 h h01
    have e : EV 13 qX12_closed 62 [vR 86, vI room, vI of, vI S, vI is, vI l] [] g = some (some (vI is), g) := by
      rw [bX12_closed_62, if_pos (by omega), bX12_closed_99]
    rcases h01 with rfl | rfl
    · exact Or.inr ⟨fun z => by rcases z with ⟨k, k0, k1, _⟩ | z <;> omega, e⟩
    · exact Or.inl ⟨Or.inr rfl, e⟩
  | succ m ih =>
    intro l is h0 h h01
    have st : EV 13 qX12_closed 62 [vR 86, vI room, vI of, vI S, vI is, vI l] [] g = EV 13 qX12_closed 62 [vR 86, vI room, vI of, vI S, vI (if dnB S l ∧ bAnd l of = 0 then 1 else is), vI (l + 1)] [] g := by
      rw [bX12_closed_62, if_neg (by omega), bX12_closed_69, m_has, bnd_some]
      show EV 13 qX12_closed 75 _ [vI _] _ = _
      rw [bX12_closed_75]
      by_cases d : dnB S l
      · rw [if_neg (b01_pos d), bX12_closed_78]
        by_cases z : bAnd l of = 0
        · rw [if_pos z, bX12_closed_85, bX12_closed_91 _ _ _ _ _ _ _ (by omega), if_pos ⟨d, z⟩]
        · rw [if_neg z, bX12_closed_89, bX12_closed_91 _ _ _ _ _ _ _ (by omega), if_neg (fun y => z y.2)]
      · rw [if_pos (b01_neg d), bX12_closed_89, bX12_closed_91 _ _ _ _ _ _ _ (by omega), if_neg (fun y => d y.1)]
    have hiff : (exL S of (l + 1) 32 ∨ (if dnB S l ∧ bAnd l of = 0 then 1 else is) = 1) ↔ (exL S of l 32 ∨ is = 1) := by
      by_cases p : dnB S l ∧ bAnd l of = 0
      · rw [if_pos p]
        exact ⟨fun _ => Or.inl ⟨l, by omega, by omega, p.1, p.2⟩, fun _ => Or.inr rfl⟩
      · rw [if_neg p]
        constructor
        · rintro (⟨k, k0, k1, k2⟩ | z)
          · exact Or.inl ⟨k, by omega, k1, k2⟩
          · exact Or.inr z
        · rintro (⟨k, k0, k1, k2⟩ | z)
          · by_cases ek : k = l
            · exact absurd (ek ▸ k2) p
            · exact Or.inl ⟨k, by omega, k1, k2⟩
          · exact Or.inr z
    rw [st]
    have := ih (l + 1) (if dnB S l ∧ bAnd l of = 0 then 1 else is) (by omega) (by omega) (by split <;> omega)
    rw [hiff] at this
    exact this
theorem o_closed {g : Hp} {n : Int} (hR : Rel g n) (hn : n < 1000) (room : Int) : Opk g n (EV 15 qX11_closed 0 [vR 0, vI room, vU, vU, vU] []) (EV 13 qX12_closed 0 [vR 86, vI room, vU, vU, vU, vU] []) := by
  have c7 := hR.c7 (by omega)
  obtain ⟨b1, b2, b3, b4⟩ := hR.b0
  have hI := hR.1.1
  have kI := KI_F hI
  have sV := SVd_F hI
  have hQ := QI_F kI sV
  have hpw := pw2_le b1
  have hpos := pw2_pos (n := g 87 0)
  by_cases ok : 0 ≤ room ∧ room ≤ 4
  · obtain ⟨g1, a1, a2, a3⟩ := c_lyingsNow hI hR.1.2
    have e87 : g1 87 = g 87 := a2 87 (by omega) (by omega)
    have e11 : g1 1 1 = g 87 0 := by rw [a2 1 (by omega) (by omega)]; exact b2
    have erg : rg g1 0 = rg g 0 := by unfold rg; rw [e87]
    obtain ⟨g2, d1, d2, d3, d4⟩ := m_allLyings (g := g1) (by rw [erg]; exact hI)
    rw [erg] at d1
    have hin : ∀ l, 0 ≤ l → l < 32 → dnB (lyS (qF (rg g 0) (stF (rg g 0)))) l → l < pw2 (g 87 0) := fun l l0 l1 ld => by
      have := lyS_in kI hQ l0 l1 ld
      rw [rg0] at this
      omega
    generalize lyS (qF (rg g 0) (stF (rg g 0))) = S at *
    have hbo := c_bridgesOf (g := g1) (φ := rg g 0) hI.1 (by rw [rg0]; exact e11) (fun k k0 k1 => by
      have := hR.1.2.2.1 k k0 k1
      rw [a2 9 (by omega) (by omega), a2 10 (by omega) (by omega)]
      exact ⟨this.1, this.2.1⟩) room
    rw [rg0] at hbo
    have hof := m_ofLoop (g := g1) (by rw [e87]; exact b1) room (g 87 0).toNat 0 0 (by omega) (by rw [e87]; omega) (by decide)
    rw [erg] at hof
    generalize oB (rg g 0) room (g 87 0).toNat 0 0 = of at *
    have cST : EV 15 qX11_closed 0 [vR 0, vI room, vU, vU, vU] [] g = EV 15 qX11_closed 31 [vR 0, vI room, vI S, vI of, vI 0] [] g1 := by
      rw [bX11_closed_0, c_isRoom, bnd_some]
      show EV 15 qX11_closed 4 _ [vI _] _ = _
      rw [bX11_closed_4, if_neg (b01_pos ok), bX11_closed_14, a1, bnd_some]
      show EV 15 qX11_closed 18 _ [vI _] _ = _
      rw [bX11_closed_18, hbo, bnd_some]
      exact bX11_closed_27 _ _ _ _
    have mST : EV 13 qX12_closed 0 [vR 86, vI room, vU, vU, vU, vU] [] g1 = EV 13 qX12_closed 62 [vR 86, vI room, vI of, vI S, vI 0, vI 0] [] g2 := by
      rw [bX12_closed_0, e_isRoom, bnd_some]
      show EV 13 qX12_closed 4 _ [vI _] _ = _
      rw [bX12_closed_4, if_neg (b01_pos ok), bX12_closed_12, hof, bX12_closed_51, d1, bnd_some]
      exact bX12_closed_55 _ _ _ _ _
    have hc := c_closedLoop (g := g1) (by rw [e11]; exact b1) room S of (pw2 (g 87 0)).toNat 0 (by omega) (by rw [e11]; omega)
    rw [e11] at hc
    have hm := m_closedLoop g2 room S of 32 0 0 (by omega) (by omega) (Or.inl rfl)
    have hiff : exL S of 0 (pw2 (g 87 0)) ↔ (exL S of 0 32 ∨ (0 : Int) = 1) := by
      constructor
      · rintro ⟨k, k0, k1, k2⟩
        exact Or.inl ⟨k, k0, by omega, k2⟩
      · rintro (⟨k, k0, k1, k2⟩ | z)
        · exact ⟨k, k0, hin k k0 k1 k2.1, k2⟩
        · omega
    rcases hc with ⟨x1, x2⟩ | ⟨x1, x2⟩ <;> rcases hm with ⟨y1, y2⟩ | ⟨y1, y2⟩
    · exact Opk.ro hR (vI 1) (by rw [cST]; exact x2) (by rw [mST]; exact y2) a2 d2
    · exact absurd (hiff.mp x1) y1
    · exact absurd (hiff.mpr y1) x1
    · exact Opk.ro hR (vI 0) (by rw [cST]; exact x2) (by rw [mST]; exact y2) a2 d2
  · refine Opk.no hR (-2) (by omega) (vI (-2)) ?_ ?_
    · rw [bX11_closed_0, c_isRoom, bnd_some]
      show EV 15 qX11_closed 4 _ [vI _] _ = _
      rw [bX11_closed_4, if_pos (b01_neg ok), bX11_closed_7, c_counted _ _ c7, bnd_some]
      exact bX11_closed_13 _ _ _
    · rw [bX12_closed_0, e_isRoom, bnd_some]
      show EV 13 qX12_closed 4 _ [vI _] _ = _
      rw [bX12_closed_4, if_pos (b01_neg ok), bX12_closed_7, e_bad _ (hR.m9 (by omega) _), bnd_some]
      exact bX12_closed_11 _ _ _
