/-! the reference: the first state that will do, how many steps it is away -/
theorem qE_inj {κ : Int → Int} {s0 : St} {Q : Qu} (h : QI κ s0 Q) {i j : Nat} (hi : i < Q.length) (hj : j < Q.length) (e : (qE Q i).1 = (qE Q j).1) : i = j := by
  have hn := h.1
  unfold List.Nodup at hn
  rw [List.pairwise_iff_getElem] at hn
  have g1 : ∀ k (hk : k < Q.length), (qSt Q)[k]'(by unfold qSt; rw [List.length_map]; exact hk) = (qE Q k).1 := fun k hk => by
    unfold qSt qE
    rw [List.getElem_map, List.getD_eq_getElem?_getD, List.getElem?_eq_getElem hk]
    rfl
  rcases Nat.lt_trichotomy i j with z | z | z
  · exfalso
    have := hn i j (by unfold qSt; rw [List.length_map]; exact hi) (by unfold qSt; rw [List.length_map]; exact hj) z
    rw [g1 i hi, g1 j hj] at this
    exact this e
  · exact z
  · exfalso
    have := hn j i (by unfold qSt; rw [List.length_map]; exact hj) (by unfold qSt; rw [List.length_map]; exact hi) z
    rw [g1 i hi, g1 j hj] at this
    exact this e.symm
theorem m_stepsTo {κ : Int → Int} (hI : KI κ) {s0 : St} {t : Int} (hcn : κ 29 = cn t) {Q : Qu} (hQ : QI κ s0 Q) {g : Hp} (hM : ModQ g t Q) (c : Int) : ∀ (k : Nat) (n : Int), k < Q.length → 0 ≤ n → n + (k : Int) < 100000 → EV 8 qX12_stepsTo 4 [vR 86, vI c, vI n, vI (mco t (qE Q k).1)] [] g = some (some (vI (n + ((qE Q k).2.2.1 : Int))), g) := by
  intro k
  induction k using Nat.strongRecOn with
  | ind k ih =>
    intro n hk hn hb
    have k0 := hI.1
    have hpos := hQ.2.2.1.1
    have h00 := hM.2.1 0 hpos
    rw [show ((0 : Nat) : Int) = 0 from rfl] at h00
    rw [bX12_stepsTo_4, h00]
    by_cases e : k = 0
    · subst e
      rw [if_pos rfl, bX12_stepsTo_30, hQ.2.2.1.2]
      exact ans_eq (by simp)
    · have hk0 : 0 < k := by omega
      have hR : Rch κ s0.1 (qE Q k).1 := hQ.2.1 _ (mem_qSt.mpr ⟨k, hk, rfl⟩)
      have hR0 : Rch κ s0.1 (qE Q 0).1 := hQ.2.1 _ (mem_qSt.mpr ⟨0, hpos, rfl⟩)
      have hq := hQ.2.2.2 k hk0 hk
      have hRp : Rch κ s0.1 (qE Q (qE Q k).2.1).1 := hQ.2.1 _ (mem_qSt.mpr ⟨_, by omega, rfl⟩)
      have hm := mco_le (t := t) k0 hR.1
      have hmp := mco_le (t := t) k0 hRp.1
      obtain ⟨st, s1, s2, _⟩ := hM.2.2.2.1 k hk0 hk
      rw [if_neg (fun z => e (qE_inj hQ hk hpos (mco_inj k0 hcn hR.1 hR0.1 z))), bX12_stepsTo_14 _ _ _ _ (by omega) hm (by omega), s2, show (32 * mco t (qE Q (qE Q k).2.1).1 + st) / 32 = mco t (qE Q (qE Q k).2.1).1 by omega]
      rw [ih _ hq.1 (n + 1) (by omega) (by omega) (by omega), hq.2.1]
      exact ans_eq (by omega)
/-- all of some are in the room, as the reference asks it -/
abbrev mIn (g : Hp) (sm room : Int) : Prop := (0 < g 87 29 ∧ dnB sm 0 → g 95 0 = room) ∧ (1 < g 87 29 ∧ dnB sm 1 → g 95 1 = room) ∧ (2 < g 87 29 ∧ dnB sm 2 → g 95 2 = room)
theorem m_fw_it (g : Hp) (sm room k is p : Int) (hp : 0 ≤ p ∧ p < 3) (hlt : p < g 87 29) (h01 : is = 0 ∨ is = 1) : EV 12 qX12_findWay 30 [vR 86, vI sm, vI room, vI k, vI is, vI p] [] g = EV 12 qX12_findWay 30 [vR 86, vI sm, vI room, vI k, vI (b01 (is = 1 ∧ (dnB sm p → g 95 p = room))), vI (p + 1)] [] g := by
  rw [bX12_findWay_30, if_neg (by omega), bX12_findWay_42]
  unfold b01
  by_cases e : is = 0
  · rw [if_pos e, bX12_findWay_71, bX12_findWay_72 _ _ _ _ _ _ _ (by omega), if_neg (by omega)]
  · rw [if_neg e, bX12_findWay_47, m_has, bnd_some]
    show EV 12 qX12_findWay 53 _ [vI _] g = _
    rw [bX12_findWay_53]
    by_cases d : dnB sm p
    · rw [if_neg (b01_pos d), bX12_findWay_56 _ _ _ _ _ _ hp]
      by_cases r : g 95 p = room
      · rw [if_pos r, bX12_findWay_67, bX12_findWay_72 _ _ _ _ _ _ _ (by omega), if_pos ⟨by omega, fun _ => r⟩]
      · rw [if_neg r, bX12_findWay_71, bX12_findWay_72 _ _ _ _ _ _ _ (by omega), if_neg (fun z => r (z.2 d))]
    · rw [if_pos (b01_neg d), bX12_findWay_67, bX12_findWay_72 _ _ _ _ _ _ _ (by omega), if_pos ⟨by omega, fun z => absurd z d⟩]
theorem b01_1 {c : Prop} [Decidable c] : b01 c = 1 ↔ c := by
  unfold b01
  split <;> simp_all
theorem m_fw_end (g : Hp) (sm room k is p : Int) (hge : g 87 29 ≤ p) (hk : 0 ≤ k ∧ k < 32000) (c : Prop) [Decidable c] (h : is = 1 ↔ c) : EV 12 qX12_findWay 30 [vR 86, vI sm, vI room, vI k, vI is, vI p] [] g = if c then some (some (vI (g 99 k)), g) else if is = 0 then EV 12 qX12_findWay 6 [vR 86, vI sm, vI room, vI (k + 1), vI is, vI p] [] g else some (some (vI (g 99 k)), g) := by
  rw [bX12_findWay_30, if_pos hge, bX12_findWay_80]
  by_cases e : is = 0
  · rw [if_pos e, bX12_findWay_92 _ _ _ _ _ _ (by omega), if_neg (fun z => by have := h.mpr z; omega), if_pos e]
  · rw [if_neg e, bX12_findWay_85 _ _ _ _ _ _ hk, if_neg e]
    split <;> rfl
theorem m_fw_one (g : Hp) (sm room k : Int) (hw : 0 ≤ g 87 29 ∧ g 87 29 ≤ 3) (hk : 0 ≤ k ∧ k < 32000) : ∃ v4 v5, EV 12 qX12_findWay 30 [vR 86, vI sm, vI room, vI k, vI 1, vI 0] [] g = if mIn g sm room then some (some (vI (g 99 k)), g) else EV 12 qX12_findWay 6 [vR 86, vI sm, vI room, vI (k + 1), v4, v5] [] g := by
  have fin : ∀ (is p : Int), (is = 0 ∨ is = 1) → g 87 29 ≤ p → (is = 1 ↔ mIn g sm room) → ∃ v4 v5, EV 12 qX12_findWay 30 [vR 86, vI sm, vI room, vI k, vI is, vI p] [] g = if mIn g sm room then some (some (vI (g 99 k)), g) else EV 12 qX12_findWay 6 [vR 86, vI sm, vI room, vI (k + 1), v4, v5] [] g := fun is p h01 hge h => by
    refine ⟨vI is, vI p, ?_⟩
    rw [m_fw_end g sm room k is p hge hk (mIn g sm room) h]
    by_cases c : mIn g sm room
    · rw [if_pos c, if_pos c]
    · rw [if_neg c, if_neg c, if_pos (by have := fun z => c (h.mp z); omega)]
  rcases (by omega : g 87 29 = 0 ∨ g 87 29 = 1 ∨ g 87 29 = 2 ∨ g 87 29 = 3) with e | e | e | e
  · exact fin 1 0 (Or.inr rfl) (by omega) ⟨fun _ => ⟨fun z => by omega, fun z => by omega, fun z => by omega⟩, fun _ => rfl⟩
  · rw [m_fw_it _ _ _ _ _ _ (by omega) (by omega) (Or.inr rfl)]
    refine fin _ _ (b01_or _) (by omega) ?_
    rw [b01_1]
    constructor
    · intro z
      exact ⟨fun y => z.2 y.2, fun y => by omega, fun y => by omega⟩
    · intro z
      exact ⟨rfl, fun y => z.1 ⟨by omega, y⟩⟩
  · rw [m_fw_it _ _ _ _ _ _ (by omega) (by omega) (Or.inr rfl), show (0 : Int) + 1 = 1 from rfl, m_fw_it _ _ _ _ _ _ (by omega) (by omega) (b01_or _)]
    refine fin _ _ (b01_or _) (by omega) ?_
    rw [b01_1, b01_1]
    constructor
    · intro z
      exact ⟨fun y => z.1.2 y.2, fun y => z.2 y.2, fun y => by omega⟩
    · intro z
      exact ⟨⟨rfl, fun y => z.1 ⟨by omega, y⟩⟩, fun y => z.2.1 ⟨by omega, y⟩⟩
  · rw [m_fw_it _ _ _ _ _ _ (by omega) (by omega) (Or.inr rfl), show (0 : Int) + 1 = 1 from rfl, m_fw_it _ _ _ _ _ _ (by omega) (by omega) (b01_or _), show (1 : Int) + 1 = 2 from rfl, m_fw_it _ _ _ _ _ _ (by omega) (by omega) (b01_or _)]
    refine fin _ _ (b01_or _) (by omega) ?_
    rw [b01_1, b01_1, b01_1]
    constructor
    · intro z
      exact ⟨fun y => z.1.1.2 y.2, fun y => z.1.2 y.2, fun y => z.2 y.2⟩
    · intro z
      exact ⟨⟨⟨rfl, fun y => z.1 ⟨by omega, y⟩⟩, fun y => z.2.1 ⟨by omega, y⟩⟩, fun y => z.2.2 ⟨by omega, y⟩⟩
/-- which of those there are meant: sm by the reference's numbers, sc by the class's -/
def SmR (g : Hp) (t sm sc : Int) : Prop := ∀ p, 0 ≤ p → p < 3 → ((p < g 87 29 ∧ dnB sm p) ↔ (dnB t p ∧ dnB sc (rk t p)))
theorem mIn_aIn {g : Hp} {κ : Int → Int} {t : Int} {s : St} (hcn : κ 29 = cn t) (hS : ModS g t s) {sm sc : Int} (h : SmR g t sm sc) (room : Int) : mIn g sm room ↔ aIn κ s sc room := by
  have h0 := h 0 (by omega) (by omega)
  have h1 := h 1 (by omega) (by omega)
  have h2 := h 2 (by omega) (by omega)
  have l0 := hS.2 0 (by omega) (by omega)
  have l1 := hS.2 1 (by omega) (by omega)
  have l2 := hS.2 2 (by omega) (by omega)
  unfold mIn aIn
  rw [hcn, h0, h1, h2]
  clear h h0 h1 h2 hcn hS
  unfold cn
  unfold rk at *
  by_cases d0 : dnB t 0 <;> by_cases d1 : dnB t 1 <;> by_cases d2 : dnB t 2 <;> simp [dnB, d0, d1, d2, qa] at * <;> simp [*]
theorem m_fw_loop {κ : Int → Int} (hI : KI κ) {s0 : St} {t : Int} {Q : Qu} (hQ : QI κ s0 Q) {sm sc room : Int} : ∀ (n k : Nat) (g : Hp) (u4 u5 : SV), k + n = Q.length → ModC g κ t → ModQ g t Q → SmR g t sm sc → ∃ r g', EV 12 qX12_findWay 6 [vR 86, vI sm, vI room, vI (k : Int), u4, u5] [] g = some (some (vI r), g') ∧ ModC g' κ t ∧ ModQ g' t Q ∧ frH g g' ∧ ((∃ j, (k ≤ j ∧ j < Q.length) ∧ aIn κ (qE Q j).1 sc room ∧ (∀ i, k ≤ i → i < j → ¬ aIn κ (qE Q i).1 sc room) ∧ r = mco t (qE Q j).1) ∨ (r = -1 ∧ ∀ i, k ≤ i → i < Q.length → ¬ aIn κ (qE Q i).1 sc room)) := by
  intro n
  induction n with
  | zero =>
    intro k g u4 u5 hn hC hM hsm
    refine ⟨-1, g, ?_, hC, hM, frH.refl g, Or.inr ⟨rfl, fun i i1 i2 => by omega⟩⟩
    rw [bX12_findWay_6, if_pos (by rw [hM.1]; omega), bX12_findWay_98]
  | succ n ih =>
    intro k g u4 u5 hn hC hM hsm
    have k0 := hI.1
    have h9 := QI_len hI hQ
    have hk : k < Q.length := by omega
    have hR : Rch κ s0.1 (qE Q k).1 := hQ.2.1 _ (mem_qSt.mpr ⟨k, hk, rfl⟩)
    have hcn := hC.2.2.2.2.2.2.1
    have hC1 := ModC_dcd hC (qE Q k).1.1 (mpl t (qE Q k).1 0) (mpl t (qE Q k).1 1) (mpl t (qE Q k).1 2)
    have hS1 := ModS_dcd g t (qE Q k).1
    generalize hg1 : dcd g (qE Q k).1.1 (mpl t (qE Q k).1 0) (mpl t (qE Q k).1 1) (mpl t (qE Q k).1 2) = g1 at *
    have f1 : frH g g1 := by
      subst hg1
      refine ⟨fun a a1 a2 a3 a4 => ?_, fun i i1 i2 => ?_⟩
      · funext i
        unfold dcd
        rw [up_ne a2, up_ne a2, up_ne a2, up_ne a1]
      · unfold dcd
        rw [up_ne (by omega), up_ne (by omega), up_ne (by omega), up_nei i1]
    have e98 : g1 98 = g 98 := by subst hg1; funext i; unfold dcd; rw [up_ne (by omega), up_ne (by omega), up_ne (by omega), up_ne (by omega)]
    have e99 : g1 99 = g 99 := by subst hg1; funext i; unfold dcd; rw [up_ne (by omega), up_ne (by omega), up_ne (by omega), up_ne (by omega)]
    have e20 : g1 86 20 = g 86 20 := by subst hg1; unfold dcd; rw [up_ne (by omega), up_ne (by omega), up_ne (by omega), up_nei (by omega)]
    have hM1 : ModQ g1 t Q := by
      unfold ModQ at *
      rw [e98, e99, e20]
      exact hM
    have e29 : g1 87 29 = g 87 29 := by rw [f1.1 87 (by omega) (by omega) (by omega) (by omega)]
    have hsm1 : SmR g1 t sm sc := by
      unfold SmR at *
      rw [e29]
      exact hsm
    have st : EV 12 qX12_findWay 6 [vR 86, vI sm, vI room, vI (k : Int), u4, u5] [] g = EV 12 qX12_findWay 30 [vR 86, vI sm, vI room, vI (k : Int), vI 1, vI 0] [] g1 := by
      rw [bX12_findWay_6, if_neg (by rw [hM.1]; omega), bX12_findWay_14 _ _ _ _ _ _ (by omega), hM.2.1 k hk, m_decode k0 hR.1, bnd_some, hg1]
      show EV 12 qX12_findWay 24 _ [] _ = _
      rw [bX12_findWay_24]
    obtain ⟨v4, v5, b1⟩ := m_fw_one g1 sm room (k : Int) (by rw [e29]; exact hC.2.2.2.2.1) (by omega)
    have hiff := mIn_aIn hcn hS1 hsm1 room
    rw [st, b1]
    by_cases c : aIn κ (qE Q k).1 sc room
    · rw [if_pos (hiff.mpr c)]
      exact ⟨_, g1, rfl, hC1, hM1, f1, Or.inl ⟨k, ⟨Nat.le_refl k, hk⟩, c, fun i i1 i2 => by omega, hM1.2.1 k hk⟩⟩
    · rw [if_neg (fun z => c (hiff.mp z))]
      obtain ⟨r, g', a1, a2, a3, a4, a5⟩ := ih (k + 1) g1 v4 v5 (by omega) hC1 hM1 hsm1
      refine ⟨r, g', ?_, a2, a3, f1.trans a4, ?_⟩
      · rw [show (k : Int) + 1 = ((k + 1 : Nat) : Int) by omega]
        exact a1
      · rcases a5 with ⟨j, j1, j2, j3, j4⟩ | ⟨j1, j2⟩
        · refine Or.inl ⟨j, ⟨by omega, j1.2⟩, j2, fun i i1 i2 => ?_, j4⟩
          by_cases e : i = k
          · rw [e]; exact c
          · exact j3 i (by omega) i2
        · refine Or.inr ⟨j1, fun i i1 i2 => ?_⟩
          by_cases e : i = k
          · rw [e]; exact c
          · exact j2 i (by omega) i2
theorem QI_F {κ : Int → Int} (hI : KI κ) {s0 : St} (hV : SVd κ s0) : QI κ s0 (qF κ s0) := by
  rw [qF_eq]
  exact QI_run hI (SVd_ly hI.1 hV) hV 9000
theorem m_findWay {κ : Int → Int} (hI : KI κ) {s0 : St} (hV : SVd κ s0) {t : Int} {g : Hp} (hC : ModC g κ t) (hN : ModN g t s0) {sm sc : Int} (hsm : SmR g t sm sc) (room : Int) : ∃ r g', EV 12 qX12_findWay 0 [vR 86, vI sm, vI room, vU, vU, vU] [] g = some (some (vI r), g') ∧ ModC g' κ t ∧ ModQ g' t (qF κ s0) ∧ frH g g' ∧ ((∃ j, j < (qF κ s0).length ∧ aIn κ (qE (qF κ s0) j).1 sc room ∧ (∀ i, i < j → ¬ aIn κ (qE (qF κ s0) i).1 sc room) ∧ r = mco t (qE (qF κ s0) j).1) ∨ (r = -1 ∧ ∀ i, i < (qF κ s0).length → ¬ aIn κ (qE (qF κ s0) i).1 sc room)) := by
  obtain ⟨g1, a1, a2, a3, a4⟩ := m_goAll hI hV hC hN
  have hsm1 : SmR g1 t sm sc := by
    unfold SmR at *
    rw [a4.1 87 (by omega) (by omega) (by omega) (by omega)]
    exact hsm
  obtain ⟨r, g', b1, b2, b3, b4, b5⟩ := m_fw_loop hI (QI_F hI hV) (sm := sm) (sc := sc) (room := room) (qF κ s0).length 0 g1 vU vU (Nat.zero_add _) a2 a3 hsm1
  refine ⟨r, g', ?_, b2, b3, a4.trans b4, ?_⟩
  · rw [bX12_findWay_0, a1, bnd_some]
    show EV 12 qX12_findWay 4 _ [] _ = _
    rw [bX12_findWay_4]
    exact b1
  · rcases b5 with ⟨j, j1, j2, j3, j4⟩ | ⟨j1, j2⟩
    · exact Or.inl ⟨j, j1.2, j2, fun i hi => j3 i (Nat.zero_le i) hi, j4⟩
    · exact Or.inr ⟨j1, fun i hi => j2 i (Nat.zero_le i) hi⟩
theorem m_stepsOf {κ : Int → Int} (hI : KI κ) {s0 : St} (hV : SVd κ s0) {t : Int} {g : Hp} (hC : ModC g κ t) (hN : ModN g t s0) {sm sc : Int} (hsm : SmR g t sm sc) (room : Int) : ∃ g', EV 13 qX12_stepsOf 0 [vR 86, vI sm, vI room, vU] [] g = some (some (vI (DS κ s0 sc room)), g') ∧ ModC g' κ t ∧ frH g g' := by
  obtain ⟨r, g', a1, a2, a3, a4, a5⟩ := m_findWay hI hV hC hN hsm room
  have k0 := hI.1
  have hQI : QI κ s0 (qF κ s0) := QI_F hI hV
  have h9 := QI_len hI hQI
  refine ⟨g', ?_, a2, a4⟩
  rw [bX12_stepsOf_0, a1, bnd_some]
  show EV 13 qX12_stepsOf 6 _ [vI _] _ = _
  rw [bX12_stepsOf_6]
  rcases a5 with ⟨j, j1, j2, j3, j4⟩ | ⟨j1, j2⟩
  · have hm := mco_le (t := t) k0 (hQI.2.1 _ (mem_qSt.mpr ⟨j, j1, rfl⟩)).1
    have d : DS κ s0 sc room = ((qE (qF κ s0) j).2.2.1 : Int) := dsL_first _ j j1 j2 j3
    rw [if_pos (by omega), bX12_stepsOf_16, bX12_stepsTo_0, j4, m_stepsTo hI a2.2.2.2.2.2.2.1 hQI a3 _ j 0 j1 (by omega) (by omega), bnd_some, d]
    show EV 13 qX12_stepsOf 21 _ [vI _] _ = _
    rw [bX12_stepsOf_21, Int.zero_add]
  · have d : DS κ s0 sc room = 100000 := dsL_none _ j2
    rw [if_neg (by omega), bX12_stepsOf_11, bX12_stepsOf_21, d]
theorem m_lyings {κ : Int → Int} (hI : KI κ) {s0 : St} {t : Int} {Q : Qu} (hQ : QI κ s0 Q) {g : Hp} (hM : ModQ g t Q) : EV 8 qX12_lyings 0 [vR 86, vU, vU] [] g = some (some (vI (lyS Q)), g) := by
  have k0 := hI.1
  have h9 := QI_len hI hQ
  have loop : ∀ (n k : Nat), k + n = Q.length → EV 8 qX12_lyings 4 [vR 86, vI (lyS (Q.take k)), vI (k : Int)] [] g = some (some (vI (lyS Q)), g) := by
    intro n
    induction n with
    | zero =>
      intro k hk
      rw [bX12_lyings_4, if_pos (by rw [hM.1]; omega), bX12_lyings_32, List.take_of_length_le (by omega)]
    | succ n ih =>
      intro k hk
      have hkl : k < Q.length := by omega
      have hR : Rch κ s0.1 (qE Q k).1 := hQ.2.1 _ (mem_qSt.mpr ⟨k, hkl, rfl⟩)
      have hm := mco_le (t := t) k0 hR.1
      have hl := SVd_ly k0 hR.1
      have e : (Q.take k) ++ [qE Q k] = Q.take (k + 1) := by
        unfold qE
        rw [List.getD_eq_getElem?_getD, List.getElem?_eq_getElem hkl, Option.getD_some, List.take_append_getElem hkl]
      rw [bX12_lyings_4, if_neg (by rw [hM.1]; omega), bX12_lyings_12 _ _ _ (by omega) (by omega), hM.2.1 k hkl, and31 (by omega), show mco t (qE Q k).1 % 32 = (qE Q k).1.1 by unfold mco; omega, ← lyS_app, e, show (k : Int) + 1 = ((k + 1 : Nat) : Int) by omega]
      exact ih (k + 1) (by omega)
  rw [bX12_lyings_0]
  exact loop Q.length 0 (by omega)
