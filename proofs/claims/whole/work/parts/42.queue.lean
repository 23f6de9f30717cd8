/-! going through all, breadth first, as a list: state, place of the one ahead, how many steps, the step -/
abbrev El : Type := St × Nat × Nat × Int
abbrev Qu : Type := List El
def e0 : El := ((0, 0, 0, 0), 0, 0, 0)
def qE (Q : Qu) (k : Nat) : El := Q.getD k e0
def qSt (Q : Qu) : List St := Q.map (fun e => e.1)
def qNote (k d : Nat) (Q : Qu) (c : St × Int) : Qu := if c.1 ∈ qSt Q then Q else Q ++ [(c.1, k, d, c.2)]
def qAll (k d : Nat) (Q : Qu) (l : List (St × Int)) : Qu := l.foldl (qNote k d) Q
def candI (κ : Int → Int) (s : St) (i : Int) : Nat → List (St × Int)
  | 0 => []
  | n + 1 => (if aCan κ s i (9 - (n : Int)) then [(aGo κ s i (9 - (n : Int)), 10 * i + (9 - (n : Int)))] else []) ++ candI κ s i n
def cands (κ : Int → Int) (s : St) : List (St × Int) := (if 0 < κ 29 then candI κ s 0 10 else []) ++ ((if 1 < κ 29 then candI κ s 1 10 else []) ++ (if 2 < κ 29 then candI κ s 2 10 else []))
def qExp (κ : Int → Int) (Q : Qu) (k : Nat) : Qu := if k < Q.length then qAll k ((qE Q k).2.2.1 + 1) Q (cands κ (qE Q k).1) else Q
def qRun (κ : Int → Int) (s0 : St) : Nat → Qu
  | 0 => [(s0, 0, 0, 0)]
  | k + 1 => qExp κ (qRun κ s0 k) k
theorem qE_lt {Q R : Qu} {k : Nat} (h : k < Q.length) : qE (Q ++ R) k = qE Q k := by
  unfold qE
  rw [List.getD_eq_getElem?_getD, List.getD_eq_getElem?_getD, List.getElem?_append_left h]
theorem qE_end (Q : Qu) (e : El) : qE (Q ++ [e]) Q.length = e := by
  unfold qE
  rw [List.getD_eq_getElem?_getD]
  simp
theorem qE_mem {Q : Qu} {k : Nat} (h : k < Q.length) : qE Q k ∈ Q := by
  unfold qE
  rw [List.getD_eq_getElem?_getD, List.getElem?_eq_getElem h]
  exact List.getElem_mem h
theorem mem_qE {Q : Qu} {e : El} (h : e ∈ Q) : ∃ k, k < Q.length ∧ qE Q k = e := by
  obtain ⟨k, hk, he⟩ := List.mem_iff_getElem.mp h
  refine ⟨k, hk, ?_⟩
  unfold qE
  rw [List.getD_eq_getElem?_getD, List.getElem?_eq_getElem hk]
  exact he
theorem mem_qSt {Q : Qu} {s : St} : s ∈ qSt Q ↔ ∃ k, k < Q.length ∧ (qE Q k).1 = s := by
  unfold qSt
  rw [List.mem_map]
  constructor
  · rintro ⟨e, he, rfl⟩
    obtain ⟨k, hk, rfl⟩ := mem_qE he
    exact ⟨k, hk, rfl⟩
  · rintro ⟨k, hk, rfl⟩
    exact ⟨_, qE_mem hk, rfl⟩
theorem pre_lt {Q Q' : Qu} (h : Q <+: Q') {k : Nat} (hk : k < Q.length) : qE Q' k = qE Q k := by
  obtain ⟨R, rfl⟩ := h
  exact qE_lt hk
theorem qNote_pre (k d : Nat) (Q : Qu) (c : St × Int) : Q <+: qNote k d Q c := by
  unfold qNote
  split
  · exact List.prefix_refl _
  · exact List.prefix_append _ _
theorem qAll_pre (k d : Nat) : ∀ (l : List (St × Int)) (Q : Qu), Q <+: qAll k d Q l := by
  intro l
  induction l with
  | nil => intro Q; exact List.prefix_refl _
  | cons c l ih => intro Q; exact (qNote_pre k d Q c).trans (ih _)
theorem qExp_pre (κ : Int → Int) (Q : Qu) (k : Nat) : Q <+: qExp κ Q k := by
  unfold qExp
  split
  · exact qAll_pre _ _ _ _
  · exact List.prefix_refl _
theorem qRun_pre (κ : Int → Int) (s0 : St) {j k : Nat} (h : j ≤ k) : qRun κ s0 j <+: qRun κ s0 k := by
  induction h with
  | refl => exact List.prefix_refl _
  | step _ ih => exact ih.trans (qExp_pre _ _ _)
/-- what all elements are: apart, each can be, each behind the one ahead of it -/
def QI (κ : Int → Int) (s0 : St) (Q : Qu) : Prop :=
  (qSt Q).Nodup ∧ (∀ s ∈ qSt Q, Rch κ s0.1 s) ∧ (0 < Q.length ∧ qE Q 0 = (s0, 0, 0, 0)) ∧
  ∀ k, 0 < k → k < Q.length → (qE Q k).2.1 < k ∧ (qE Q k).2.2.1 = (qE Q (qE Q k).2.1).2.2.1 + 1 ∧ ∃ i to, (0 ≤ i ∧ i < κ 29) ∧ (0 ≤ to ∧ to ≤ 9) ∧ (qE Q k).2.2.2 = 10 * i + to ∧ aCan κ (qE Q (qE Q k).2.1).1 i to ∧ (qE Q k).1 = aGo κ (qE Q (qE Q k).2.1).1 i to
/-- what may be noted behind the element k -/
def CI (κ : Int → Int) (s : St) (c : St × Int) : Prop := ∃ i to, (0 ≤ i ∧ i < κ 29) ∧ (0 ≤ to ∧ to ≤ 9) ∧ c.2 = 10 * i + to ∧ aCan κ s i to ∧ c.1 = aGo κ s i to
theorem QI_note {κ : Int → Int} (hI : KI κ) {s0 : St} (hx : 0 ≤ s0.1 ∧ s0.1 < 32) {Q : Qu} (h : QI κ s0 Q) {k : Nat} (hk : k < Q.length) {c : St × Int} (hc : CI κ (qE Q k).1 c) : QI κ s0 (qNote k ((qE Q k).2.2.1 + 1) Q c) := by
  unfold qNote
  split
  · exact h
  · rename_i hn
    obtain ⟨h1, h2, h3, h4⟩ := h
    obtain ⟨i, to, hi, ht, he, hcan, hgo⟩ := hc
    have hr : Rch κ s0.1 c.1 := by
      rw [hgo]
      exact Rch_go hI hx (h2 _ (mem_qSt.mpr ⟨k, hk, rfl⟩)) hi ht.1 hcan
    have hq : qSt (Q ++ [(c.1, k, (qE Q k).2.2.1 + 1, c.2)]) = qSt Q ++ [c.1] := by
      unfold qSt
      rw [List.map_append]
      rfl
    refine ⟨?_, fun s hs => ?_, ?_, fun j j0 j1 => ?_⟩
    · rw [hq, List.nodup_append]
      refine ⟨h1, by simp, fun a ha b hb => ?_⟩
      rw [List.mem_singleton] at hb
      intro e
      exact hn (hb ▸ e ▸ ha)
    · rw [hq, List.mem_append, List.mem_singleton] at hs
      rcases hs with hs | rfl
      · exact h2 s hs
      · exact hr
    · rw [List.length_append, qE_lt h3.1]
      exact ⟨by omega, h3.2⟩
    · rw [List.length_append, List.length_singleton] at j1
      by_cases e : j < Q.length
      · have q := h4 j j0 e
        rw [qE_lt e, qE_lt (by omega)]
        exact q
      · have e' : j = Q.length := by omega
        subst e'
        rw [qE_end]
        show k < Q.length ∧ _
        rw [qE_lt hk]
        exact ⟨hk, rfl, i, to, hi, ht, he, hcan, hgo⟩
theorem qNote_lt {k d : Nat} {Q : Qu} {c : St × Int} {j : Nat} (hj : j < Q.length) : qE (qNote k d Q c) j = qE Q j := pre_lt (qNote_pre k d Q c) hj
theorem pre_len {Q Q' : Qu} (h : Q <+: Q') : Q.length ≤ Q'.length := h.length_le
theorem QI_all {κ : Int → Int} (hI : KI κ) {s0 : St} (hx : 0 ≤ s0.1 ∧ s0.1 < 32) {k : Nat} : ∀ (l : List (St × Int)) (Q : Qu), QI κ s0 Q → k < Q.length → (∀ c ∈ l, CI κ (qE Q k).1 c) → QI κ s0 (qAll k ((qE Q k).2.2.1 + 1) Q l) := by
  intro l
  induction l with
  | nil => intro Q h _ _; exact h
  | cons c l ih =>
    intro Q h hk hc
    have h1 := QI_note hI hx h hk (hc c (List.mem_cons_self ..))
    have e := qNote_lt (k := k) (d := (qE Q k).2.2.1 + 1) (c := c) hk
    have := ih _ h1 (Nat.lt_of_lt_of_le hk (pre_len (qNote_pre _ _ _ _))) (fun c' hc' => by rw [e]; exact hc c' (List.mem_cons_of_mem _ hc'))
    rw [e] at this
    exact this
theorem candI_CI {κ : Int → Int} {s : St} {i : Int} (hi : 0 ≤ i ∧ i < κ 29) : ∀ (n : Nat), n ≤ 10 → ∀ c ∈ candI κ s i n, CI κ s c := by
  intro n
  induction n with
  | zero => intro _ c hc; exact absurd hc List.not_mem_nil
  | succ n ih =>
    intro hn c hc
    rw [candI, List.mem_append] at hc
    rcases hc with hc | hc
    · by_cases a : aCan κ s i (9 - (n : Int))
      · rw [if_pos a, List.mem_singleton] at hc
        subst hc
        exact ⟨i, 9 - (n : Int), hi, by omega, rfl, a, rfl⟩
      · rw [if_neg a] at hc
        exact absurd hc List.not_mem_nil
    · exact ih (by omega) c hc
theorem cands_CI {κ : Int → Int} {s : St} : ∀ c ∈ cands κ s, CI κ s c := by
  intro c hc
  unfold cands at hc
  rw [List.mem_append, List.mem_append] at hc
  rcases hc with hc | hc | hc
  · by_cases a : 0 < κ 29
    · rw [if_pos a] at hc
      exact candI_CI (by omega) 10 (by omega) c hc
    · rw [if_neg a] at hc
      exact absurd hc List.not_mem_nil
  · by_cases a : 1 < κ 29
    · rw [if_pos a] at hc
      exact candI_CI (by omega) 10 (by omega) c hc
    · rw [if_neg a] at hc
      exact absurd hc List.not_mem_nil
  · by_cases a : 2 < κ 29
    · rw [if_pos a] at hc
      exact candI_CI (by omega) 10 (by omega) c hc
    · rw [if_neg a] at hc
      exact absurd hc List.not_mem_nil
theorem QI_run {κ : Int → Int} (hI : KI κ) {s0 : St} (hx : 0 ≤ s0.1 ∧ s0.1 < 32) (hR : SVd κ s0) : ∀ k, QI κ s0 (qRun κ s0 k) := by
  intro k
  induction k with
  | zero =>
    refine ⟨by simp [qRun, qSt], fun s hs => ?_, ⟨by simp [qRun], rfl⟩, fun k h0 h1 => ?_⟩
    · simp [qRun, qSt] at hs
      subst hs
      exact ⟨hR, nine_self _ _⟩
    · simp [qRun] at h1
      omega
  | succ k ih =>
    rw [qRun]
    unfold qExp
    split
    · exact QI_all hI hx _ _ ih ‹_› cands_CI
    · exact ih
theorem QI_len {κ : Int → Int} (hI : KI κ) {s0 : St} {Q : Qu} (h : QI κ s0 Q) : Q.length ≤ 9000 := by
  have := rch_len hI (qSt Q) h.1 h.2.1
  rw [qSt, List.length_map] at this
  exact this
theorem qRun_stop {κ : Int → Int} {s0 : St} {k : Nat} (h : (qRun κ s0 k).length ≤ k) : ∀ m, k ≤ m → qRun κ s0 m = qRun κ s0 k := by
  intro m hm
  induction hm with
  | refl => rfl
  | step hm' ih =>
    rename_i m
    rw [qRun, ih]
    unfold qExp
    have : k ≤ m := hm'
    rw [if_neg (by omega)]
/-- all, to the end -/
theorem qF_ex (κ : Int → Int) (s0 : St) : ∃ Q : Qu, Q = qRun κ s0 9000 := ⟨_, rfl⟩
noncomputable def qF (κ : Int → Int) (s0 : St) : Qu := Classical.choose (qF_ex κ s0)
theorem qF_eq (κ : Int → Int) (s0 : St) : qF κ s0 = qRun κ s0 9000 := Classical.choose_spec (qF_ex κ s0)
theorem qF_pre (κ : Int → Int) (s0 : St) {k : Nat} (h : k ≤ 9000) : qRun κ s0 k <+: qF κ s0 := by
  rw [qF_eq]
  exact qRun_pre κ s0 h
theorem qF_stop {κ : Int → Int} {s0 : St} {k : Nat} (hk : k ≤ 9000) (h : (qRun κ s0 k).length ≤ k) : qRun κ s0 k = qF κ s0 := by
  rw [qF_eq]
  exact (qRun_stop h 9000 hk).symm
/-- the steps of elements never fall -/
theorem qAll_dep {k d : Nat} : ∀ (l : List (St × Int)) (Q : Qu) (j : Nat), Q.length ≤ j → j < (qAll k d Q l).length → (qE (qAll k d Q l) j).2.2.1 = d := by
  intro l
  induction l with
  | nil => intro Q j h1 h2; exact absurd h2 (by show ¬ j < Q.length; omega)
  | cons c l ih =>
    intro Q j h1 h2
    show (qE (qAll k d (qNote k d Q c) l) j).2.2.1 = d
    by_cases e : (qNote k d Q c).length ≤ j
    · exact ih _ j e h2
    · have e' : j < (qNote k d Q c).length := by omega
      rw [pre_lt (qAll_pre k d l _) e']
      unfold qNote at e' ⊢
      split
      · rename_i hh
        rw [if_pos hh] at e'
        omega
      · rename_i hh
        rw [if_neg hh, List.length_append, List.length_singleton] at e'
        rw [show j = Q.length by omega, qE_end]
theorem qRun_dep (κ : Int → Int) (s0 : St) {k j : Nat} (hk : k < (qRun κ s0 k).length) (h1 : (qRun κ s0 k).length ≤ j) (h2 : j < (qRun κ s0 (k + 1)).length) : (qE (qRun κ s0 (k + 1)) j).2.2.1 = (qE (qRun κ s0 k) k).2.2.1 + 1 := by
  rw [qRun] at h2 ⊢
  unfold qExp at h2 ⊢
  rw [if_pos hk] at h2 ⊢
  exact qAll_dep _ _ _ h1 h2
theorem qRun_sort (κ : Int → Int) (s0 : St) : ∀ k : Nat, (∀ i j, i ≤ j → j < (qRun κ s0 k).length → (qE (qRun κ s0 k) i).2.2.1 ≤ (qE (qRun κ s0 k) j).2.2.1) ∧ (k < (qRun κ s0 k).length → ∀ j, j < (qRun κ s0 k).length → (qE (qRun κ s0 k) j).2.2.1 ≤ (qE (qRun κ s0 k) k).2.2.1 + 1) := by
  intro k
  induction k with
  | zero =>
    refine ⟨fun i j h1 h2 => ?_, fun _ j h2 => ?_⟩
    · simp [qRun] at h2
      rw [show i = j by omega]
      exact Nat.le_refl _
    · simp [qRun] at h2
      subst h2
      omega
  | succ k ih =>
    by_cases hk : k < (qRun κ s0 k).length
    · have key : ∀ i j, i ≤ j → j < (qRun κ s0 (k + 1)).length → (qE (qRun κ s0 (k + 1)) i).2.2.1 ≤ (qE (qRun κ s0 (k + 1)) j).2.2.1 := fun i j h1 h2 => by
        have pr := qRun_pre κ s0 (Nat.le_succ k)
        by_cases e : j < (qRun κ s0 k).length
        · rw [pre_lt pr e, pre_lt pr (show i < _ by omega)]
          exact ih.1 i j h1 e
        · rw [qRun_dep κ s0 hk (show _ ≤ j by omega) h2]
          by_cases e' : i < (qRun κ s0 k).length
          · rw [pre_lt pr e']
            exact ih.2 hk i e'
          · rw [qRun_dep κ s0 hk (show _ ≤ i by omega) (by omega)]
            exact Nat.le_refl _
      refine ⟨key, fun hk1 j h2 => ?_⟩
      have pr := qRun_pre κ s0 (Nat.le_succ k)
      have up1 : (qE (qRun κ s0 (k + 1)) j).2.2.1 ≤ (qE (qRun κ s0 k) k).2.2.1 + 1 := by
        by_cases e : j < (qRun κ s0 k).length
        · rw [pre_lt pr e]
          exact ih.2 hk j e
        · rw [qRun_dep κ s0 hk (show _ ≤ j by omega) h2]
          exact Nat.le_refl _
      have lo := key k (k + 1) (Nat.le_succ k) hk1
      rw [pre_lt pr hk] at lo
      omega
    · have e : qRun κ s0 (k + 1) = qRun κ s0 k := by
        rw [qRun]
        unfold qExp
        rw [if_neg hk]
      rw [e]
      exact ⟨ih.1, fun z => absurd z (by omega)⟩
theorem qF_sort (κ : Int → Int) (s0 : St) {i j : Nat} (h1 : i ≤ j) (h2 : j < (qF κ s0).length) : (qE (qF κ s0) i).2.2.1 ≤ (qE (qF κ s0) j).2.2.1 := by
  rw [qF_eq] at h2 ⊢
  exact (qRun_sort κ s0 9000).1 i j h1 h2
theorem QI_dep {κ : Int → Int} {s0 : St} {Q : Qu} (h : QI κ s0 Q) : ∀ k, k < Q.length → (qE Q k).2.2.1 ≤ k := by
  intro k
  induction k using Nat.strongRecOn with
  | ind k ih =>
    intro hk
    by_cases e : k = 0
    · subst e
      rw [h.2.2.1.2]
      exact Nat.le_refl _
    · have q := h.2.2.2 k (by omega) hk
      have := ih _ q.1 (by omega)
      omega
/-- the fewest steps until all of some are in a room; 100000: none -/
def dsL (κ : Int → Int) (sm room : Int) : Qu → Int
  | [] => 100000
  | e :: Q => if aIn κ e.1 sm room then (e.2.2.1 : Int) else dsL κ sm room Q
theorem dsL_first {κ : Int → Int} {sm room : Int} : ∀ (Q : Qu) (k : Nat), k < Q.length → aIn κ (qE Q k).1 sm room → (∀ j, j < k → ¬ aIn κ (qE Q j).1 sm room) → dsL κ sm room Q = ((qE Q k).2.2.1 : Int) := by
  intro Q
  induction Q with
  | nil => intro k hk; simp at hk
  | cons e Q ih =>
    intro k hk ha hj
    cases k with
    | zero =>
      have ha' : aIn κ e.1 sm room := ha
      rw [dsL, if_pos ha']
      rfl
    | succ k =>
      have ha' : ¬ aIn κ e.1 sm room := hj 0 (by omega)
      rw [dsL, if_neg ha']
      exact ih k (by simpa using hk) ha (fun j hj' => hj (j + 1) (by omega))
theorem dsL_none {κ : Int → Int} {sm room : Int} : ∀ (Q : Qu), (∀ k, k < Q.length → ¬ aIn κ (qE Q k).1 sm room) → dsL κ sm room Q = 100000 := by
  intro Q
  induction Q with
  | nil => intro _; rfl
  | cons e Q ih =>
    intro h
    have ha' : ¬ aIn κ e.1 sm room := h 0 (by simp)
    rw [dsL, if_neg ha']
    exact ih (fun k hk => h (k + 1) (by simpa using hk))
noncomputable def DS (κ : Int → Int) (s0 : St) (sm room : Int) : Int := dsL κ sm room (qF κ s0)
/-- which lyings there are -/
def lyS (Q : Qu) : Int := Q.foldl (fun a e => bOr a (bShl 1 e.1.1)) 0
theorem lyS_app (Q : Qu) (e : El) : lyS (Q ++ [e]) = bOr (lyS Q) (bShl 1 e.1.1) := by
  unfold lyS
  rw [List.foldl_append]
  rfl
