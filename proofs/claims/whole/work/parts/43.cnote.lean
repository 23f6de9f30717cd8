/-! the class's Search: what is noted -/
def sb (w : Int) (j : Nat) : Bool := (Int64.ofInt w).toBitVec.getLsbD j
theorem sb_bit : ∀ j : Nat, j < 64 → (Int64.ofInt (1 : Int) <<< ((Int32.ofInt (j : Int)).toInt64 &&& 63)).toBitVec = BitVec.twoPow 64 j := by decide +kernel
theorem sb_and (w : Int) {j : Nat} (hj : j < 64) : (lAnd w (lShl 1 (j : Int)) = 0) ↔ sb w j = false := by
  unfold lAnd lShl sb
  rw [Int64.ofInt_toInt]
  have h0 : (0 : Int) = (0 : Int64).toInt := by decide
  rw [h0, Int64.toInt_inj, ← Int64.toBitVec_inj, Int64.toBitVec_and, sb_bit j hj, BitVec.and_twoPow]
  cases h : (Int64.ofInt w).toBitVec.getLsbD j
  · simp
  · simp only [if_true]
    constructor
    · intro z
      exfalso
      have := congrArg (fun b : BitVec 64 => b.getLsbD j) z
      simp [BitVec.getLsbD_twoPow, hj] at this
    · intro z
      exact absurd z (by decide)
theorem sb_or (w : Int) {i j : Nat} (hj : j < 64) : sb (lOr w (lShl 1 (j : Int))) i = (sb w i || decide (i = j)) := by
  unfold lOr lShl sb
  rw [Int64.ofInt_toInt, Int64.ofInt_toInt, Int64.toBitVec_or, sb_bit j hj, BitVec.getLsbD_or, BitVec.getLsbD_twoPow]
  simp [hj, eq_comm]
theorem sb_0 (i : Nat) : sb 0 i = false := by
  unfold sb
  simp
/-- the class's Search holds the queue Q -/
def ClsQ (g : Hp) (Q : Qu) : Prop := g 83 2 = (Q.length : Int) ∧ (∀ k : Nat, k < Q.length → g 84 (k : Int) = ((qE Q k).2.1 : Int) * 32768 + pk (qE Q k).1) ∧ g 83 3 = lyS Q ∧ ∀ c : Nat, c < 32000 → (sb (g 85 ((c / 64 : Nat) : Int)) (c % 64) = true ↔ ∃ k, k < Q.length ∧ pk (qE Q k).1 = (c : Int))
def frN (g g' : Hp) : Prop := (∀ a : Nat, a ≠ 83 → a ≠ 84 → a ≠ 85 → g' a = g a) ∧ g' 83 4 = g 83 4
theorem frN.refl (g : Hp) : frN g g := ⟨fun _ _ _ _ => rfl, rfl⟩
theorem Rch_pk {κ : Int → Int} (hI : KI κ) {x : Int} {s : St} (h : Rch κ x s) : (0 ≤ pk s ∧ pk s < 32000) ∧ (0 ≤ s.1 ∧ s.1 < 32) ∧ (0 ≤ s.2.1 ∧ s.2.1 < 10) ∧ (0 ≤ s.2.2.1 ∧ s.2.2.1 < 10) ∧ (0 ≤ s.2.2.2 ∧ s.2.2.2 < 10) := by
  have k0 := hI.1
  have a0 := (h.1.2 0 (by omega) (by omega)).1
  have a1 := (h.1.2 1 (by omega) (by omega)).1
  have a2 := (h.1.2 2 (by omega) (by omega)).1
  rw [qa_0] at a0
  rw [qa_1] at a1
  rw [qa_2] at a2
  have := SVd_ly k0 h.1
  unfold pk
  omega
theorem pk_inj {κ : Int → Int} (hI : KI κ) {x : Int} {s s' : St} (h : Rch κ x s) (h' : Rch κ x s') (e : pk s = pk s') : s = s' := by
  have a := Rch_pk hI h
  have b := Rch_pk hI h'
  have p := pk_dig a.2.2.1 a.2.2.2.1 a.2.2.2.2
  have q := pk_dig b.2.2.1 b.2.2.2.1 b.2.2.2.2
  rw [← p, ← q, e]
theorem or15 {k x : Int} (hk : 0 ≤ k ∧ k < 9000) (hx : 0 ≤ x ∧ x < 32768) : bOr (bShl k 15) x = k * 32768 + x := by
  obtain ⟨m, rfl⟩ := Int.eq_ofNat_of_zero_le hk.1
  obtain ⟨n, rfl⟩ := Int.eq_ofNat_of_zero_le hx.1
  have h1 := bShl_N (a := m) (b := 15) (by omega) (by omega)
  rw [show ((15 : Nat) : Int) = 15 from rfl] at h1
  rw [h1, bOr_N (by omega) (by omega)]
  have := Nat.two_pow_add_eq_or_of_lt (i := 15) (b := n) (by omega) m
  rw [show m * 2 ^ 15 = 2 ^ 15 * m by omega, ← this]
  omega
theorem and15 {x : Int} (h : 0 ≤ x ∧ x < 2147483648) : bAnd x 32767 = x % 32768 := by
  obtain ⟨n, rfl⟩ := Int.eq_ofNat_of_zero_le h.1
  have := bAnd_N (a := n) (b := 32767) (by omega) (by omega)
  rw [show ((32767 : Nat) : Int) = 32767 from rfl] at this
  rw [this, show (32767 : Nat) = 2 ^ 15 - 1 from rfl, Nat.and_two_pow_sub_one_eq_mod]
  omega
theorem shr15 {x : Int} (h : 0 ≤ x ∧ x < 2147483648) : bShr x 15 = x / 32768 := by
  obtain ⟨n, rfl⟩ := Int.eq_ofNat_of_zero_le h.1
  have := bShr_N (a := n) (b := 15) (by omega) (by omega)
  rw [show ((15 : Nat) : Int) = 15 from rfl] at this
  rw [this]
  omega
theorem c_note {κ : Int → Int} (hI : KI κ) {x : Int} {Q : Qu} (hn : (qSt Q).Nodup) (hr : ∀ s ∈ qSt Q, Rch κ x s) {g : Hp} (hC : ClsQ g Q) {s : St} (hs : Rch κ x s) (k d : Nat) (hk : k < 9000) (st : Int) : ∃ g', EV 8 qX9_note 0 [vR 83, vI (pk s), vI (k : Int), vU, vU, vU] [] g = some (none, g') ∧ ClsQ g' (qNote k d Q (s, st)) ∧ frN g g' := by
  have hp := Rch_pk hI hs
  obtain ⟨c, hc⟩ := Int.eq_ofNat_of_zero_le hp.1.1
  have hc32 : c < 32000 := by omega
  obtain ⟨q1, q2, q3, q4⟩ := hC
  have e1 : pk s % 64 = ((c % 64 : Nat) : Int) := by omega
  have e2 : pk s / 64 = ((c / 64 : Nat) : Int) := by omega
  rw [bX9_note_0 _ _ _ (by omega) (by omega), e1, e2, bX9_note_37]
  have hmem : (∃ j, j < Q.length ∧ pk (qE Q j).1 = (c : Int)) ↔ s ∈ qSt Q := by
    rw [mem_qSt]
    constructor
    · rintro ⟨j, hj, ej⟩
      exact ⟨j, hj, pk_inj hI (hr _ (mem_qSt.mpr ⟨j, hj, rfl⟩)) hs (by rw [ej, hc])⟩
    · rintro ⟨j, hj, ej⟩
      exact ⟨j, hj, by rw [ej, hc]⟩
  have key : (lCmp (lAnd (g 85 ((c / 64 : Nat) : Int)) (lShl 1 ((c % 64 : Nat) : Int))) 0 = 0) ↔ ¬ s ∈ qSt Q := by
    rw [lCmp_eq, sb_and _ (by omega), ← hmem, ← q4 c hc32]
    simp
  unfold qNote
  by_cases hin : s ∈ qSt Q
  · refine ⟨g, ?_, by rw [if_pos hin]; exact ⟨q1, q2, q3, q4⟩, frN.refl g⟩
    split
    · rfl
    · rw [bX9_note_23 _ _ _ _ _ (by omega), if_neg (fun z => key.mp z hin), bX9_note_37]
  · have hlen : Q.length + 1 ≤ 9000 := by
      have := rch_len hI (x := x) (qSt Q ++ [s]) (by
        rw [List.nodup_append]
        refine ⟨hn, by simp, fun a ha b hb => ?_⟩
        rw [List.mem_singleton] at hb
        intro e
        exact hin (hb ▸ e ▸ ha)) (fun a ha => by
        rw [List.mem_append, List.mem_singleton] at ha
        rcases ha with ha | rfl
        · exact hr a ha
        · exact hs)
      rw [List.length_append, qSt, List.length_map] at this
      exact this
    rw [if_neg (by omega), bX9_note_23 _ _ _ _ _ (by omega), if_pos (key.mpr hin), bX9_note_38 _ _ _ _ _ (by omega) (by omega) (by omega) (by omega) (by omega), or15 (by omega) (by omega)]
    refine ⟨_, rfl, ?_, ⟨fun a a1 a2 a3 => ?_, ?_⟩⟩
    · rw [if_neg hin]
      refine ⟨?_, fun j hj => ?_, ?_, fun b hb => ?_⟩
      · rw [up_nei (by omega), up_eq, q1, List.length_append]
        simp
      · rw [up_ne (by omega), up_ne (by omega)]
        rw [List.length_append, List.length_singleton] at hj
        by_cases ej : j = Q.length
        · subst ej
          rw [qE_end, ← q1, up_eq]
        · rw [up_nei (by rw [q1]; omega), up_ne (by omega), qE_lt (by omega)]
          exact q2 j (by omega)
      · rw [up_eq, lyS_app, q3, show pk s / 1000 = s.1 by unfold pk; omega]
      · rw [up_ne (by omega), up_ne (by omega), up_ne (by omega)]
        have ex : (∃ k', k' < (Q ++ [((s, st).1, k, d, (s, st).2)]).length ∧ pk (qE (Q ++ [((s, st).1, k, d, (s, st).2)]) k').1 = (b : Int)) ↔ ((∃ k', k' < Q.length ∧ pk (qE Q k').1 = (b : Int)) ∨ b = c) := by
          constructor
          · rintro ⟨j, hj, ej⟩
            rw [List.length_append, List.length_singleton] at hj
            by_cases e : j = Q.length
            · subst e
              rw [qE_end] at ej
              right
              have : pk s = (b : Int) := ej
              omega
            · rw [qE_lt (by omega)] at ej
              exact Or.inl ⟨j, by omega, ej⟩
          · rintro (⟨j, hj, ej⟩ | rfl)
            · refine ⟨j, by rw [List.length_append]; omega, ?_⟩
              rw [qE_lt hj]
              exact ej
            · refine ⟨Q.length, by rw [List.length_append, List.length_singleton]; omega, ?_⟩
              rw [qE_end]
              exact hc
        rw [ex, ← q4 b hb]
        by_cases e : ((b / 64 : Nat) : Int) = ((c / 64 : Nat) : Int)
        · rw [e, up_eq, sb_or _ (by omega)]
          simp only [Bool.or_eq_true, decide_eq_true_eq]
          constructor
          · rintro (z | z)
            · exact Or.inl z
            · exact Or.inr (by omega)
          · rintro (z | z)
            · exact Or.inl z
            · exact Or.inr (by omega)
        · rw [up_nei e]
          constructor
          · intro z
            exact Or.inl z
          · rintro (z | z)
            · exact z
            · exact absurd (by rw [z]) e
    · rw [show up (up (up (up g 85 ((c / 64 : Nat) : Int) _) 84 _ _) 83 2 _) 83 3 _ a = g a from ?_]
      funext i
      rw [up_ne a1, up_ne a1, up_ne a2, up_ne a3]
    · rw [up_nei (by omega), up_nei (by omega), up_ne (by omega), up_ne (by omega)]
/-- seen is empty -/
def fil (g : Hp) (n : Int) : Hp := fun a i => if a = 85 ∧ 0 ≤ i ∧ i < n then 0 else g a i
theorem fil_succ (g : Hp) (n : Int) (hn : 0 ≤ n) : up (fil g n) 85 n 0 = fil g (n + 1) := by
  funext a i
  unfold up fil
  by_cases ha : a = 85
  · subst ha
    by_cases hi : i = n
    · subst hi
      rw [if_pos ⟨rfl, rfl⟩, if_pos ⟨rfl, hn, by omega⟩]
    · rw [if_neg (fun h => hi h.2)]
      by_cases h2 : 0 ≤ i ∧ i < n
      · rw [if_pos ⟨rfl, h2⟩, if_pos ⟨rfl, by omega⟩]
      · rw [if_neg (fun h => h2 h.2), if_neg (fun h => by omega)]
  · rw [if_neg (fun h => ha h.1), if_neg (fun h => ha h.1), if_neg (fun h => ha h.1)]
theorem c_fill (g : Hp) : EV 8 qJ7_fill_d0a16 0 [vR 85, vL 0, vU, vU, vU] [] g = some (none, fil g 500) := by
  have hl : ((aLen 85 g : Nat) : Int) = 500 := by
    unfold aLen
    rw [if_neg (by omega), if_neg (by omega), cl_85]
    rfl
  have loop : ∀ (m : Nat) (n : Int), 0 ≤ n → n + m = 500 → EV 8 qJ7_fill_d0a16 6 [vR 85, vL 0, vU, vI n, vI 500] [] (fil g n) = some (none, fil g 500) := by
    intro m
    induction m with
    | zero =>
      intro n h0 hn
      rw [bJ7_fill_d0a16_6, if_pos (by omega), bJ7_fill_d0a16_22, show n = 500 by omega]
    | succ m ih =>
      intro n h0 hn
      rw [bJ7_fill_d0a16_6, if_neg (by omega), bJ7_fill_d0a16_12 _ _ _ _ (by omega) (by omega), fil_succ g n h0]
      exact ih (n + 1) (by omega) (by omega)
  rw [bJ7_fill_d0a16_0, hl]
  have h0 : g = fil g 0 := by
    funext a i
    unfold fil
    rw [if_neg (by omega)]
  have := loop 500 0 (by omega) (by omega)
  rw [← h0] at this
  exact this
theorem c_begin {κ : Int → Int} (hI : KI κ) {s : St} (hs : Rch κ s.1 s) (g : Hp) : ∃ g', EV 9 qX9_begin 0 [vR 83, vI (pk s)] [] g = some (none, g') ∧ ClsQ g' (qRun κ s 0) ∧ ∀ a : Nat, a ≠ 83 → a ≠ 84 → a ≠ 85 → g' a = g a := by
  have hC : ClsQ (up (up (up (fil g 500) 83 2 0) 83 3 0) 83 4 0) [] := by
    refine ⟨?_, fun k hk => absurd hk (by simp), ?_, fun c hc => ?_⟩
    · rw [up_nei (by omega), up_nei (by omega), up_eq]
      rfl
    · rw [up_nei (by omega), up_eq]
      rfl
    · rw [up_ne (by omega), up_ne (by omega), up_ne (by omega)]
      unfold fil
      rw [if_pos ⟨rfl, by omega⟩, sb_0]
      simp
  obtain ⟨g', h1, h2, h3⟩ := c_note hI (x := s.1) (by simp [qSt]) (by simp [qSt]) hC hs 0 0 (by omega) 0
  refine ⟨g', ?_, ?_, fun a a1 a2 a3 => ?_⟩
  · rw [bX9_begin_0, c_fill, bnd_some]
    show EV 9 qX9_begin 8 _ [] _ = _
    rw [bX9_begin_8]
    refine (congrArg (fun z => bnd z _) h1).trans ?_
    rw [bnd_some]
    exact bX9_begin_29 _ _
  · unfold qNote at h2
    rw [if_neg (by simp [qSt])] at h2
    exact h2
  · rw [h3.1 a a1 a2 a3]
    funext i
    rw [up_ne a1, up_ne a1, up_ne a1]
    unfold fil
    rw [if_neg (fun z => a3 z.1)]
theorem c_stateAt {g : Hp} {Q : Qu} (hC : ClsQ g Q) {k : Nat} (hk : k < Q.length) (h9 : Q.length ≤ 9000) (hp : (qE Q k).2.1 < 9000) (hs : 0 ≤ pk (qE Q k).1 ∧ pk (qE Q k).1 < 32000) : EV 8 qX9_stateAt 0 [vR 83, vI (k : Int)] [] g = some (some (vI (pk (qE Q k).1)), g) := by
  rw [bX9_stateAt_0 _ _ (by omega), hC.2.1 k hk, and15 (by omega)]
  exact ans_eq (by omega)
theorem c_before {g : Hp} {Q : Qu} (hC : ClsQ g Q) {k : Nat} (hk : k < Q.length) (h9 : Q.length ≤ 9000) (hp : (qE Q k).2.1 < 9000) (hs : 0 ≤ pk (qE Q k).1 ∧ pk (qE Q k).1 < 32000) : EV 8 qX9_before 0 [vR 83, vI (k : Int)] [] g = some (some (vI ((qE Q k).2.1 : Int)), g) := by
  rw [bX9_before_0 _ _ (by omega), hC.2.1 k hk, shr15 (by omega)]
  exact ans_eq (by omega)
