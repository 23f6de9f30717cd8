/-! the reference: going through all -/
def fullT (t : Int) : Prop := ∀ p, 0 ≤ p → p < 3 → dnB t p → rk t p = p
def ModQ (g : Hp) (t : Int) (Q : Qu) : Prop :=
  g 86 20 = (Q.length : Int) ∧ (∀ k : Nat, k < Q.length → g 99 (k : Int) = mco t (qE Q k).1) ∧ g 98 (mco t (qE Q 0).1) = 0 ∧
  (∀ k : Nat, 0 < k → k < Q.length → ∃ st : Int, (0 ≤ st ∧ st < 32) ∧ g 98 (mco t (qE Q k).1) = 32 * mco t (qE Q (qE Q k).2.1).1 + st ∧ (fullT t → st = (qE Q k).2.2.2)) ∧
  ∀ c : Int, 0 ≤ c → c < 32000 → (∀ k : Nat, k < Q.length → mco t (qE Q k).1 ≠ c) → g 98 c = -1
def frH (g g' : Hp) : Prop := (∀ a : Nat, a ≠ 86 → a ≠ 95 → a ≠ 98 → a ≠ 99 → g' a = g a) ∧ ∀ i : Int, i ≠ 12 → i ≠ 20 → g' 86 i = g 86 i
theorem frH.refl (g : Hp) : frH g g := ⟨fun _ _ _ _ _ => rfl, fun _ _ _ => rfl⟩
theorem frH.trans {g g' g'' : Hp} (h : frH g g') (h' : frH g' g'') : frH g g'' := ⟨fun a a1 a2 a3 a4 => (h'.1 a a1 a2 a3 a4).trans (h.1 a a1 a2 a3 a4), fun i i1 i2 => (h'.2 i i1 i2).trans (h.2 i i1 i2)⟩
theorem ModC.keep {g g' : Hp} {κ : Int → Int} {t : Int} (h : ModC g κ t) (hf : frH g g') : ModC g' κ t := by
  unfold ModC at *
  rw [hf.1 87 (by omega) (by omega) (by omega) (by omega), hf.1 91 (by omega) (by omega) (by omega) (by omega), hf.1 92 (by omega) (by omega) (by omega) (by omega), hf.1 93 (by omega) (by omega) (by omega) (by omega), hf.1 94 (by omega) (by omega) (by omega) (by omega), hf.2 6 (by omega) (by omega), hf.2 10 (by omega) (by omega)]
  exact h
theorem mco_inj {κ : Int → Int} {t : Int} (h0 : 0 ≤ κ 0 ∧ κ 0 ≤ 5) (hcn : κ 29 = cn t) {s s' : St} (h : SVd κ s) (h' : SVd κ s') (e : mco t s = mco t s') : s = s' := by
  have l := SVd_ly h0 h
  have l' := SVd_ly h0 h'
  have a0 := mpl_le (t := t) h0 h 0
  have a1 := mpl_le (t := t) h0 h 1
  have a2 := mpl_le (t := t) h0 h 2
  have b0 := mpl_le (t := t) h0 h' 0
  have b1 := mpl_le (t := t) h0 h' 1
  have b2 := mpl_le (t := t) h0 h' 2
  unfold mco at e
  have e3 : s.1 = s'.1 := by omega
  have e0 : mpl t s 0 = mpl t s' 0 := by omega
  have e1 : mpl t s 1 = mpl t s' 1 := by omega
  have e2 : mpl t s 2 = mpl t s' 2 := by omega
  have z0 := (h.2 0 (by omega) (by omega)).2
  have z1 := (h.2 1 (by omega) (by omega)).2
  have z2 := (h.2 2 (by omega) (by omega)).2
  have y0 := (h'.2 0 (by omega) (by omega)).2
  have y1 := (h'.2 1 (by omega) (by omega)).2
  have y2 := (h'.2 2 (by omega) (by omega)).2
  rw [hcn] at z0 z1 z2 y0 y1 y2
  rw [qa_0] at z0 y0
  rw [qa_1] at z1 y1
  rw [qa_2] at z2 y2
  clear a0 a1 a2 b0 b1 b2 e h h' l l'
  unfold mpl rk at e0 e1 e2
  unfold cn at *
  refine Prod.ext e3 (Prod.ext ?_ (Prod.ext ?_ ?_))
  all_goals
    by_cases d0 : dnB t 0 <;> by_cases d1 : dnB t 1 <;> by_cases d2 : dnB t 2 <;> simp [dnB, d0, d1, d2, qa] at * <;> omega
/-- one noted -/
theorem m_note {κ : Int → Int} (hI : KI κ) {s0 : St} {t : Int} (hcn : κ 29 = cn t) {Q : Qu} (hQ : QI κ s0 Q) {g : Hp} (hM : ModQ g t Q) {s : St} (hs : Rch κ s0.1 s) {k : Nat} (hk : k < Q.length) (d : Nat) (p to stp : Int) (hp : 0 ≤ p ∧ p < 3) (ht : 0 ≤ to ∧ to ≤ 9) (hst : fullT t → stp = 10 * p + to) (u4 : SV) : ∃ g' v4, EV 11 qX12_goAll 127 [vR 86, vI (k : Int), vI (mco t (qE Q k).1), vI (10 * p + to), u4] [vI (mco t s)] g = EV 11 qX12_goAll 173 [vR 86, vI (k : Int), vI (mco t (qE Q k).1), vI (10 * p + to), v4] [] g' ∧ ModQ g' t (qNote k d Q (s, stp)) ∧ frH g g' := by
  have k0 := hI.1
  have h9 := QI_len hI hQ
  have hm := mco_le (t := t) k0 hs.1
  have hRk : Rch κ s0.1 (qE Q k).1 := hQ.2.1 _ (mem_qSt.mpr ⟨k, hk, rfl⟩)
  have hmk := mco_le (t := t) k0 hRk.1
  have hpos := hQ.2.2.1.1
  obtain ⟨q1, q2, q3, q4, q5⟩ := hM
  have hmem : (∃ j : Nat, j < Q.length ∧ mco t (qE Q j).1 = mco t s) ↔ s ∈ qSt Q := by
    rw [mem_qSt]
    constructor
    · rintro ⟨j, hj, ej⟩
      exact ⟨j, hj, mco_inj k0 hcn (hQ.2.1 _ (mem_qSt.mpr ⟨j, hj, rfl⟩)).1 hs.1 ej⟩
    · rintro ⟨j, hj, ej⟩
      exact ⟨j, hj, by rw [ej]⟩
  rw [bX12_goAll_127 _ _ _ _ _ _ hm]
  unfold qNote
  by_cases hin : s ∈ qSt Q
  · refine ⟨g, vI (mco t s), ?_, by rw [if_pos hin]; exact ⟨q1, q2, q3, q4, q5⟩, frH.refl g⟩
    rw [if_pos]
    obtain ⟨j, hj, ej⟩ := hmem.mpr hin
    rw [← ej]
    by_cases e : j = 0
    · subst e
      omega
    · obtain ⟨st, s1, s2, _⟩ := q4 j (by omega) hj
      have hpar := hQ.2.2.2 j (by omega) hj
      have := mco_le (t := t) k0 (hQ.2.1 _ (mem_qSt.mpr ⟨(qE Q j).2.1, by omega, rfl⟩)).1
      omega
  · have hno : ∀ j : Nat, j < Q.length → mco t (qE Q j).1 ≠ mco t s := fun j hj z => hin (hmem.mp ⟨j, hj, z⟩)
    have hneg := q5 (mco t s) hm.1 hm.2 hno
    have hlen : Q.length + 1 ≤ 9000 := by
      have := rch_len hI (x := s0.1) (qSt Q ++ [s]) (by
        rw [List.nodup_append]
        refine ⟨hQ.1, by simp, fun a ha b hb => ?_⟩
        rw [List.mem_singleton] at hb
        intro e
        exact hin (hb ▸ e ▸ ha)) (fun a ha => by
        rw [List.mem_append, List.mem_singleton] at ha
        rcases ha with ha | rfl
        · exact hQ.2.1 a ha
        · exact hs)
      rw [List.length_append, qSt, List.length_map] at this
      exact this
    rw [if_neg (by omega), bX12_goAll_139 _ _ _ _ _ (by omega) (by omega) hm (by omega) (by omega)]
    refine ⟨_, vI (mco t s), rfl, ?_, ⟨fun a a1 a2 a3 a4 => ?_, fun i i1 i2 => ?_⟩⟩
    · rw [if_neg hin]
      have hl : (Q ++ [((s, stp).1, k, d, (s, stp).2)]).length = Q.length + 1 := by rw [List.length_append, List.length_singleton]
      refine ⟨?_, fun j hj => ?_, ?_, fun j j0 hj => ?_, fun c c0 c1 hc => ?_⟩
      · rw [up_eq, q1, hl]
        omega
      · rw [up_ne (by omega)]
        by_cases ej : j = Q.length
        · subst ej
          rw [qE_end, q1, up_eq]
        · rw [up_nei (by rw [q1]; omega), up_ne (by omega), qE_lt (by omega)]
          exact q2 j (by omega)
      · rw [up_ne (by omega), up_ne (by omega), qE_lt hpos, up_nei (hno 0 hpos)]
        exact q3
      · rw [up_ne (by omega), up_ne (by omega)]
        by_cases ej : j = Q.length
        · subst ej
          rw [qE_end]
          refine ⟨10 * p + to, by omega, ?_, fun f => (hst f).symm⟩
          show up g 98 (mco t s) _ 98 (mco t s) = 32 * mco t (qE (Q ++ [(s, k, d, stp)]) k).1 + (10 * p + to)
          rw [up_eq, qE_lt hk]
        · have hj' : j < Q.length := by omega
          obtain ⟨st, s1, s2, s3⟩ := q4 j j0 hj'
          have hpar := hQ.2.2.2 j j0 hj'
          rw [qE_lt hj', qE_lt (by omega), up_nei (hno j hj')]
          exact ⟨st, s1, s2, s3⟩
      · rw [up_ne (by omega), up_ne (by omega)]
        have h1 := hc Q.length (by omega)
        rw [qE_end] at h1
        rw [up_nei (fun z => h1 z.symm)]
        refine q5 c c0 c1 (fun j hj => ?_)
        have := hc j (by omega)
        rw [qE_lt hj] at this
        exact this
    · funext i
      rw [up_ne a1, up_ne a4, up_ne a3]
    · rw [up_nei i2, up_ne (by omega), up_ne (by omega)]
def candP (κ : Int → Int) (t : Int) (s : St) (p : Int) (n : Nat) : List (St × Int) := if dnB t p then candI κ s (rk t p) n else []
/-- one step tried -/
theorem m_try {κ : Int → Int} (hI : KI κ) {s0 : St} (hx : 0 ≤ s0.1 ∧ s0.1 < 32) {t : Int} {Q : Qu} (hQ : QI κ s0 Q) {g : Hp} (hC : ModC g κ t) (hM : ModQ g t Q) {k : Nat} (hk : k < Q.length) {s : St} (hs : (qE Q k).1 = s) {p to : Int} (hp : 0 ≤ p ∧ p < 3) (hw : p < g 87 29) (ht : 0 ≤ to ∧ to ≤ 9) (u4 : SV) : ∃ g' v4, EV 11 qX12_goAll 72 [vR 86, vI (k : Int), vI (mco t s), vI (10 * p + to), u4] [] g = EV 11 qX12_goAll 72 [vR 86, vI (k : Int), vI (mco t s), vI (10 * p + to + 1), v4] [] g' ∧ ModC g' κ t ∧ ModQ g' t (if dnB t p ∧ aCan κ s (rk t p) to then qNote k ((qE Q k).2.2.1 + 1) Q (aGo κ s (rk t p) to, 10 * rk t p + to) else Q) ∧ frH g g' := by
  have k0 := hI.1
  have i29 := hI.2.2.2.2.2.1
  have h29 := hC.2.2.2.2.1
  have hcn := hC.2.2.2.2.2.2.1
  have hR : Rch κ s0.1 s := hQ.2.1 s (mem_qSt.mpr ⟨k, hk, hs⟩)
  have hC1 := ModC_dcd hC s.1 (mpl t s 0) (mpl t s 1) (mpl t s 2)
  have hS1 := ModS_dcd g t s
  have hZ1 := ModZ_dcd g t s
  have f1 : frH g (dcd g s.1 (mpl t s 0) (mpl t s 1) (mpl t s 2)) := by
    refine ⟨fun a a1 a2 a3 a4 => ?_, fun i i1 i2 => ?_⟩
    · funext i
      unfold dcd
      rw [up_ne a2, up_ne a2, up_ne a2, up_ne a1]
    · unfold dcd
      rw [up_ne (by omega), up_ne (by omega), up_ne (by omega), up_nei i1]
  have hM1 : ModQ (dcd g s.1 (mpl t s 0) (mpl t s 1) (mpl t s 2)) t Q := by
    unfold ModQ at *
    rw [show dcd g s.1 (mpl t s 0) (mpl t s 1) (mpl t s 2) 98 = g 98 by funext i; unfold dcd; rw [up_ne (by omega), up_ne (by omega), up_ne (by omega), up_ne (by omega)], show dcd g s.1 (mpl t s 0) (mpl t s 1) (mpl t s 2) 99 = g 99 by funext i; unfold dcd; rw [up_ne (by omega), up_ne (by omega), up_ne (by omega), up_ne (by omega)], show dcd g s.1 (mpl t s 0) (mpl t s 1) (mpl t s 2) 86 20 = g 86 20 by unfold dcd; rw [up_ne (by omega), up_ne (by omega), up_ne (by omega), up_nei (by omega)]]
    exact hM
  have st : EV 11 qX12_goAll 72 [vR 86, vI (k : Int), vI (mco t s), vI (10 * p + to), u4] [] g = EV 11 qX12_goAll 91 [vR 86, vI (k : Int), vI (mco t s), vI (10 * p + to), u4] [] (dcd g s.1 (mpl t s 0) (mpl t s 1) (mpl t s 2)) := by
    rw [bX12_goAll_72 _ _ _ _ _ (by omega), if_neg (by omega), bX12_goAll_86, m_decode k0 hR.1, bnd_some]
    rfl
  have ed : (10 * p + to) / 10 = p := by omega
  have em : (10 * p + to) % 10 = to := by omega
  have z : ∀ (y : Int) (h : Hp), EV 11 qX12_goAll 103 [vR 86, vI (k : Int), vI (mco t s), vI (10 * p + to), u4] ((some (vI y)).toList ++ []) h = if y = 0 then EV 11 qX12_goAll 173 [vR 86, vI (k : Int), vI (mco t s), vI (10 * p + to), u4] [] h else EV 11 qX12_goAll 106 [vR 86, vI (k : Int), vI (mco t s), vI (10 * p + to), u4] [] h := fun y h => bX12_goAll_103 _ _ _ _ _ _
  rw [st, bX12_goAll_91 _ _ _ _ _ (by omega) (by omega), ed, em]
  by_cases hd : dnB t p
  · have r1 := rk_le (t := t) (p := p)
    have r2 := rk_lt hp hd
    have hq := (hR.1.2 (rk t p) r1.1 (by omega)).1
    rw [m_mayStep hC1 hS1 hI hp hd (by omega) hq, bnd_some, z]
    by_cases hc : aCan κ s (rk t p) to
    · have hR' := Rch_go hI hx hR (i := rk t p) (by omega) ht.1 hc
      have hC2 := ModC_pl hC1 p to
      have hS2 := ModS_pl hS1 (v := to) hp hd
      have hC3 := ModC_ly hC2 (aTA κ (qs s (rk t p) to))
      have hS3 := ModS_ly hS2 (aTA κ (qs s (rk t p) to))
      have hZ3 : ModZ (up (up (dcd g s.1 (mpl t s 0) (mpl t s 1) (mpl t s 2)) 95 p to) 86 12 (aTA κ (qs s (rk t p) to))) t := fun q q0 q1 qd => by
        have hqp : q ≠ p := fun w => qd (by rw [w]; exact hd)
        rw [up_ne (by omega), up_nei hqp]
        exact hZ1 q q0 q1 qd
      have hM3 : ModQ (up (up (dcd g s.1 (mpl t s 0) (mpl t s 1) (mpl t s 2)) 95 p to) 86 12 (aTA κ (qs s (rk t p) to))) t Q := by
        unfold ModQ at *
        rw [show up (up (dcd g s.1 (mpl t s 0) (mpl t s 1) (mpl t s 2)) 95 p to) 86 12 (aTA κ (qs s (rk t p) to)) 98 = dcd g s.1 (mpl t s 0) (mpl t s 1) (mpl t s 2) 98 by funext i; rw [up_ne (by omega), up_ne (by omega)], show up (up (dcd g s.1 (mpl t s 0) (mpl t s 1) (mpl t s 2)) 95 p to) 86 12 (aTA κ (qs s (rk t p) to)) 99 = dcd g s.1 (mpl t s 0) (mpl t s 1) (mpl t s 2) 99 by funext i; rw [up_ne (by omega), up_ne (by omega)], up_nei (by omega), up_ne (by omega)]
        exact hM1
      have f3 : frH (dcd g s.1 (mpl t s 0) (mpl t s 1) (mpl t s 2)) (up (up (dcd g s.1 (mpl t s 0) (mpl t s 1) (mpl t s 2)) 95 p to) 86 12 (aTA κ (qs s (rk t p) to))) := ⟨fun a a1 a2 _ _ => by funext i; rw [up_ne a1, up_ne a2], fun i i1 _ => by rw [up_nei i1, up_ne (by omega)]⟩
      obtain ⟨g', v4, n1, n2, n3⟩ := m_note hI hcn hQ hM3 hR' hk ((qE Q k).2.2.1 + 1) p to (10 * rk t p + to) hp ht (fun f => by rw [f p hp.1 hp.2 hd]) u4
      refine ⟨g', v4, ?_, hC3.keep n3, ?_, (f1.trans f3).trans n3⟩
      · rw [if_neg (b01_pos hc), bX12_goAll_106 _ _ _ _ _ (by omega) (by omega) (by omega), ed, em, m_tipAll hC2 hS2 hI, bnd_some]
        show EV 11 qX12_goAll 123 _ [] _ = _
        rw [bX12_goAll_123, m_codeNow (s := aGo κ s (rk t p) to) k0 hR'.1 hS3 hZ3, bnd_some]
        rw [hs] at n1
        refine Eq.trans n1 ?_
        rw [bX12_goAll_173 _ _ _ _ _ (by omega)]
      · rw [if_pos ⟨hd, hc⟩]
        exact n2
    · refine ⟨_, u4, ?_, hC1, ?_, f1⟩
      · rw [if_pos (b01_neg hc), bX12_goAll_173 _ _ _ _ _ (by omega)]
      · rw [if_neg (fun w => hc w.2)]
        exact hM1
  · have hq : 0 ≤ dcd g s.1 (mpl t s 0) (mpl t s 1) (mpl t s 2) 95 p ∧ dcd g s.1 (mpl t s 0) (mpl t s 1) (mpl t s 2) 95 p < 10 := by
      rw [hZ1 p hp.1 hp.2 hd]
      omega
    rw [m_mayStep_no hp (by omega) hq (by rw [hC1.2.2.2.2.2.1]; exact hd), bnd_some, z]
    refine ⟨_, u4, ?_, hC1, ?_, f1⟩
    · rw [if_pos rfl, bX12_goAll_173 _ _ _ _ _ (by omega)]
    · rw [if_neg (fun w => hd w.1)]
      exact hM1
theorem m_go_p {κ : Int → Int} (hI : KI κ) {s0 : St} (hx : 0 ≤ s0.1 ∧ s0.1 < 32) {t : Int} {k : Nat} {s : St} {p : Int} (hp : 0 ≤ p ∧ p < 3) : ∀ (n : Nat) (Q : Qu) (g : Hp) (u4 : SV), n ≤ 10 → QI κ s0 Q → k < Q.length → (qE Q k).1 = s → ModC g κ t → ModQ g t Q → p < g 87 29 → ∃ g' v4, EV 11 qX12_goAll 72 [vR 86, vI (k : Int), vI (mco t s), vI (10 * p + (10 - (n : Int))), u4] [] g = EV 11 qX12_goAll 72 [vR 86, vI (k : Int), vI (mco t s), vI (10 * (p + 1)), v4] [] g' ∧ ModC g' κ t ∧ ModQ g' t (qAll k ((qE Q k).2.2.1 + 1) Q (candP κ t s p n)) ∧ frH g g' := by
  intro n
  induction n with
  | zero =>
    intro Q g u4 _ hQ hk hs hC hM hw
    refine ⟨g, u4, by rw [show 10 * p + (10 - ((0 : Nat) : Int)) = 10 * (p + 1) by omega], hC, ?_, frH.refl g⟩
    unfold candP
    split <;> exact hM
  | succ n ih =>
    intro Q g u4 hn hQ hk hs hC hM hw
    have i29 := hI.2.2.2.2.2.1
    have hcn := hC.2.2.2.2.2.2.1
    have e1 : 10 * p + (10 - ((n + 1 : Nat) : Int)) = 10 * p + (9 - (n : Int)) := by omega
    have e2 : 10 * p + (9 - (n : Int)) + 1 = 10 * p + (10 - (n : Int)) := by omega
    obtain ⟨g1, v4, a1, a2, a3, a4⟩ := m_try hI hx hQ hC hM hk hs hp hw (to := 9 - (n : Int)) (by omega) u4
    have hw1 : p < g1 87 29 := by rw [a4.1 87 (by omega) (by omega) (by omega) (by omega)]; exact hw
    rw [e1, a1, e2]
    by_cases hc : dnB t p ∧ aCan κ s (rk t p) (9 - (n : Int))
    · rw [if_pos hc] at a3
      have r1 := rk_le (t := t) (p := p)
      have r2 := rk_lt hp hc.1
      have q1 := QI_note hI hx hQ hk (c := (aGo κ s (rk t p) (9 - (n : Int)), 10 * rk t p + (9 - (n : Int)))) ⟨rk t p, 9 - (n : Int), by omega, by omega, rfl, by rw [hs]; exact hc.2, by rw [hs]⟩
      have q2 := qNote_lt (k := k) (d := (qE Q k).2.2.1 + 1) (c := (aGo κ s (rk t p) (9 - (n : Int)), 10 * rk t p + (9 - (n : Int)))) hk
      obtain ⟨g', w4, r1, r2, r3, r4⟩ := ih _ g1 v4 (by omega) q1 (Nat.lt_of_lt_of_le hk (pre_len (qNote_pre _ _ _ _))) (by rw [q2]; exact hs) a2 a3 hw1
      refine ⟨g', w4, r1, r2, ?_, a4.trans r4⟩
      rw [q2] at r3
      unfold candP at r3 ⊢
      rw [if_pos hc.1] at r3 ⊢
      rw [candI, if_pos hc.2]
      exact r3
    · rw [if_neg hc] at a3
      obtain ⟨g', w4, r1, r2, r3, r4⟩ := ih Q g1 v4 (by omega) hQ hk hs a2 a3 hw1
      refine ⟨g', w4, r1, r2, ?_, a4.trans r4⟩
      unfold candP at r3 ⊢
      by_cases hd : dnB t p
      · rw [if_pos hd] at r3 ⊢
        rw [candI, if_neg (fun w => hc ⟨hd, w⟩)]
        exact r3
      · rw [if_neg hd] at r3 ⊢
        exact r3
theorem candP_all {κ : Int → Int} {t : Int} (hcn : κ 29 = cn t) (s : St) : candP κ t s 0 10 ++ (candP κ t s 1 10 ++ candP κ t s 2 10) = cands κ s := by
  unfold candP cands
  rw [hcn]
  unfold cn rk
  by_cases d0 : dnB t 0 <;> by_cases d1 : dnB t 1 <;> by_cases d2 : dnB t 2 <;> simp [dnB, d0, d1, d2]
