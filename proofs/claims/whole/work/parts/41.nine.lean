/-! at most nine lyings, at most 9000 states -/
theorem tp_lt0 : ∀ n : Nat, n < 6 → ∀ h : Nat, h < n → ∀ l : Nat, l < n → ∀ x : Nat, x < 2 ^ n → 0 ≤ tpB (x : Int) (h : Int) (l : Int) ∧ tpB (x : Int) (h : Int) (l : Int) < ((2 ^ n : Nat) : Int) := by decide +kernel
theorem tp_ab0 : ∀ h : Nat, h < 5 → ∀ l : Nat, l < 5 → h ≠ l → ∀ x : Nat, x < 32 → tpB (tpB (x : Int) (h : Int) (l : Int)) (h : Int) (l : Int) = tpB (x : Int) (h : Int) (l : Int) ∧ tpB (tpB (x : Int) (l : Int) (h : Int)) (h : Int) (l : Int) = tpB (x : Int) (h : Int) (l : Int) := by decide +kernel
def coB (h l a b : Nat) : Bool := (h == l || a == h || a == l || b == h || b == l || a == b) || (List.range 32).all (fun x => decide (tpB (tpB (x : Int) (h : Int) (l : Int)) (a : Int) (b : Int) = tpB (tpB (x : Int) (a : Int) (b : Int)) (h : Int) (l : Int)))
theorem tp_coB : ∀ h : Nat, h < 5 → ∀ l : Nat, l < 5 → ∀ a : Nat, a < 5 → ∀ b : Nat, b < 5 → coB h l a b = true := by decide +kernel
theorem tp_co0 (h : Nat) (hh : h < 5) (l : Nat) (hl : l < 5) (a : Nat) (ha : a < 5) (b : Nat) (hb : b < 5) (hc : h ≠ l ∧ a ≠ h ∧ a ≠ l ∧ b ≠ h ∧ b ≠ l ∧ a ≠ b) (x : Nat) (hx : x < 32) : tpB (tpB (x : Int) (h : Int) (l : Int)) (a : Int) (b : Int) = tpB (tpB (x : Int) (a : Int) (b : Int)) (h : Int) (l : Int) := by
  have q := tp_coB h hh l hl a ha b hb
  unfold coB at q
  simp only [hc.1, hc.2.1, hc.2.2.1, hc.2.2.2.1, hc.2.2.2.2.1, hc.2.2.2.2.2, beq_iff_eq, Bool.or_eq_true, or_false, false_or, List.all_eq_true, List.mem_range, decide_eq_true_eq] at q
  exact q x hx
theorem tp_lt {n x h l : Int} (hn : 0 ≤ n ∧ n ≤ 5) (hh : 0 ≤ h ∧ h < n) (hl : 0 ≤ l ∧ l < n) (hx : 0 ≤ x ∧ x < pw2 n) : 0 ≤ tpB x h l ∧ tpB x h l < pw2 n := by
  obtain ⟨m, rfl⟩ := Int.eq_ofNat_of_zero_le hn.1
  obtain ⟨y, rfl⟩ := Int.eq_ofNat_of_zero_le hx.1
  obtain ⟨a, rfl⟩ := Int.eq_ofNat_of_zero_le hh.1
  obtain ⟨b, rfl⟩ := Int.eq_ofNat_of_zero_le hl.1
  have e : pw2 (m : Int) = ((2 ^ m : Nat) : Int) := by unfold pw2; simp
  rw [e] at hx ⊢
  exact tp_lt0 m (by omega) a (by omega) b (by omega) y (by omega)
theorem tp_ab {x h l : Int} (hh : 0 ≤ h ∧ h < 5) (hl : 0 ≤ l ∧ l < 5) (hn : h ≠ l) (hx : 0 ≤ x ∧ x < 32) : tpB (tpB x h l) h l = tpB x h l ∧ tpB (tpB x l h) h l = tpB x h l := by
  obtain ⟨y, rfl⟩ := Int.eq_ofNat_of_zero_le hx.1
  obtain ⟨a, rfl⟩ := Int.eq_ofNat_of_zero_le hh.1
  obtain ⟨b, rfl⟩ := Int.eq_ofNat_of_zero_le hl.1
  exact tp_ab0 a (by omega) b (by omega) (by omega) y (by omega)
theorem tp_co {x h l a b : Int} (hh : 0 ≤ h ∧ h < 5) (hl : 0 ≤ l ∧ l < 5) (ha : 0 ≤ a ∧ a < 5) (hb : 0 ≤ b ∧ b < 5) (hn : h ≠ l) (h1 : a ≠ h) (h2 : a ≠ l) (h3 : b ≠ h) (h4 : b ≠ l) (h5 : a ≠ b) (hx : 0 ≤ x ∧ x < 32) : tpB (tpB x h l) a b = tpB (tpB x a b) h l := by
  obtain ⟨y, rfl⟩ := Int.eq_ofNat_of_zero_le hx.1
  obtain ⟨h, rfl⟩ := Int.eq_ofNat_of_zero_le hh.1
  obtain ⟨l, rfl⟩ := Int.eq_ofNat_of_zero_le hl.1
  obtain ⟨a, rfl⟩ := Int.eq_ofNat_of_zero_le ha.1
  obtain ⟨b, rfl⟩ := Int.eq_ofNat_of_zero_le hb.1
  exact tp_co0 h (by omega) l (by omega) a (by omega) b (by omega) (by omega) y (by omega)
def tri (h l x : Int) : List Int := [x, tpB x h l, tpB x l h]
def nine (κ : Int → Int) (x : Int) : List Int := if κ 22 = 2 then (tri (κ 23) (κ 25) x).flatMap (tri (κ 24) (κ 26)) else if κ 22 = 1 then tri (κ 23) (κ 25) x else [x]
theorem tri_cl {h l x y : Int} (hh : 0 ≤ h ∧ h < 5) (hl : 0 ≤ l ∧ l < 5) (hn : h ≠ l) (hx : 0 ≤ x ∧ x < 32) (hy : y ∈ tri h l x) : tpB y h l = tpB x h l ∧ tpB y l h = tpB x l h := by
  have a := tp_ab hh hl hn hx
  have b := tp_ab hl hh hn.symm hx
  simp only [tri, List.mem_cons, List.not_mem_nil, or_false] at hy
  rcases hy with rfl | rfl | rfl
  · exact ⟨rfl, rfl⟩
  · exact ⟨a.1, b.2⟩
  · exact ⟨a.2, b.1⟩
theorem tp_lt5 {x h l : Int} (hh : 0 ≤ h ∧ h < 5) (hl : 0 ≤ l ∧ l < 5) (hx : 0 ≤ x ∧ x < 32) : 0 ≤ tpB x h l ∧ tpB x h l < 32 := tp_lt (n := 5) (by omega) hh hl (by rw [pw2_5]; exact hx)
theorem tri_lt {h l x y : Int} (hh : 0 ≤ h ∧ h < 5) (hl : 0 ≤ l ∧ l < 5) (hx : 0 ≤ x ∧ x < 32) (hy : y ∈ tri h l x) : 0 ≤ y ∧ y < 32 := by
  simp only [tri, List.mem_cons, List.not_mem_nil, or_false] at hy
  rcases hy with rfl | rfl | rfl
  · exact hx
  · exact tp_lt5 hh hl hx
  · exact tp_lt5 hl hh hx
theorem tri_co {h l a b x y : Int} (hh : 0 ≤ h ∧ h < 5) (hl : 0 ≤ l ∧ l < 5) (ha : 0 ≤ a ∧ a < 5) (hb : 0 ≤ b ∧ b < 5) (hn : h ≠ l) (h1 : a ≠ h) (h2 : a ≠ l) (h3 : b ≠ h) (h4 : b ≠ l) (h5 : a ≠ b) (hx : 0 ≤ x ∧ x < 32) (hy : y ∈ tri a b x) : tpB y h l ∈ tri a b (tpB x h l) := by
  simp only [tri, List.mem_cons, List.not_mem_nil, or_false] at hy ⊢
  rcases hy with rfl | rfl | rfl
  · exact Or.inl rfl
  · exact Or.inr (Or.inl (tp_co ha hb hh hl h5 h1.symm h3.symm h2.symm h4.symm hn hx))
  · exact Or.inr (Or.inr (tp_co hb ha hh hl h5.symm h3.symm h1.symm h4.symm h2.symm hn hx))
theorem tri_in {h l x : Int} : tpB x h l ∈ tri h l x ∧ tpB x l h ∈ tri h l x ∧ x ∈ tri h l x := by simp [tri]
theorem nine_cl {κ : Int → Int} (hI : KI κ) {x y : Int} (hx : 0 ≤ x ∧ x < 32) (hy : y ∈ nine κ x) {c : Int} (hc : 0 ≤ c ∧ c < κ 22) : tpB y (κ (23 + c)) (κ (25 + c)) ∈ nine κ x ∧ tpB y (κ (25 + c)) (κ (23 + c)) ∈ nine κ x := by
  obtain ⟨i0, ib, i22, ic, ic2, i29, ip⟩ := hI
  unfold nine at *
  have r0 := ic 0 (by omega) (by omega)
  rw [show (23 : Int) + 0 = 23 from rfl, show (25 : Int) + 0 = 25 from rfl] at r0
  by_cases e : κ 22 = 2
  · rw [if_pos e] at *
    have r1 := ic 1 (by omega) (by omega)
    rw [show (23 : Int) + 1 = 24 from rfl, show (25 : Int) + 1 = 26 from rfl] at r1
    have rr := ic2 e
    rw [List.mem_flatMap] at hy
    obtain ⟨z, hz, hy⟩ := hy
    have zl := tri_lt (by omega) (by omega) hx hz
    have zc := tri_cl (by omega) (by omega) r0.2.2.1 hx hz
    rw [List.mem_flatMap, List.mem_flatMap]
    rcases (by omega : c = 0 ∨ c = 1) with rfl | rfl
    · rw [show (23 : Int) + 0 = 23 from rfl, show (25 : Int) + 0 = 25 from rfl]
      refine ⟨⟨tpB z (κ 23) (κ 25), by rw [zc.1]; exact tri_in.1, tri_co (by omega) (by omega) (by omega) (by omega) r0.2.2.1 rr.1.symm rr.2.2.1.symm rr.2.1.symm rr.2.2.2.symm r1.2.2.1 zl hy⟩, ⟨tpB z (κ 25) (κ 23), by rw [zc.2]; exact tri_in.2.1, tri_co (by omega) (by omega) (by omega) (by omega) r0.2.2.1.symm rr.2.2.1.symm rr.1.symm rr.2.2.2.symm rr.2.1.symm r1.2.2.1 zl hy⟩⟩
    · rw [show (23 : Int) + 1 = 24 from rfl, show (25 : Int) + 1 = 26 from rfl]
      have yc := tri_cl (by omega) (by omega) r1.2.2.1 zl hy
      exact ⟨⟨z, hz, by rw [yc.1]; exact tri_in.1⟩, ⟨z, hz, by rw [yc.2]; exact tri_in.2.1⟩⟩
  · have e1 : κ 22 = 1 := by omega
    have c0 : c = 0 := by omega
    subst c0
    rw [if_neg e, if_pos e1] at *
    rw [show (23 : Int) + 0 = 23 from rfl, show (25 : Int) + 0 = 25 from rfl]
    have yc := tri_cl (by omega) (by omega) r0.2.2.1 hx hy
    rw [yc.1, yc.2]
    exact ⟨tri_in.1, tri_in.2.1⟩
theorem nine_self (κ : Int → Int) (x : Int) : x ∈ nine κ x := by
  unfold nine
  split
  · rw [List.mem_flatMap]
    exact ⟨x, tri_in.2.2, tri_in.2.2⟩
  · split
    · exact tri_in.2.2
    · simp
theorem nine_len (κ : Int → Int) (x : Int) : (nine κ x).length ≤ 9 := by
  unfold nine
  split
  · simp [tri]
  · split <;> simp [tri]
theorem aTip_or (κ : Int → Int) (ly h l : Int) : aTip κ ly h l = ly ∨ aTip κ ly h l = tpB ly h l := by
  unfold aTip
  split
  · exact Or.inr rfl
  · exact Or.inl rfl
theorem aT1_or (κ : Int → Int) (s : St) (c ly : Int) : aT1 κ s c ly = ly ∨ aT1 κ s c ly = tpB ly (κ (23 + c)) (κ (25 + c)) ∨ aT1 κ s c ly = tpB ly (κ (25 + c)) (κ (23 + c)) := by
  unfold aT1
  split
  · rcases aTip_or κ ly (κ (23 + c)) (κ (25 + c)) with h | h
    · exact Or.inl h
    · exact Or.inr (Or.inl h)
  · split
    · rcases aTip_or κ ly (κ (25 + c)) (κ (23 + c)) with h | h
      · exact Or.inl h
      · exact Or.inr (Or.inr h)
    · exact Or.inl rfl
theorem aT1_ok {κ : Int → Int} (hI : KI κ) {x : Int} (hx : 0 ≤ x ∧ x < 32) (s : St) {c ly : Int} (hc : 0 ≤ c ∧ c < κ 22) (hl : 0 ≤ ly ∧ ly < pw2 (κ 0)) (hn : ly ∈ nine κ x) : (0 ≤ aT1 κ s c ly ∧ aT1 κ s c ly < pw2 (κ 0)) ∧ aT1 κ s c ly ∈ nine κ x := by
  have r := hI.2.2.2.1 c hc.1 hc.2
  have q := nine_cl hI hx hn hc
  rcases aT1_or κ s c ly with h | h | h
  · rw [h]; exact ⟨hl, hn⟩
  · rw [h]; exact ⟨tp_lt hI.1 (by omega) (by omega) hl, q.1⟩
  · rw [h]; exact ⟨tp_lt hI.1 (by omega) (by omega) hl, q.2⟩
theorem aTA_ok {κ : Int → Int} (hI : KI κ) {x : Int} (hx : 0 ≤ x ∧ x < 32) (s : St) (hl : 0 ≤ s.1 ∧ s.1 < pw2 (κ 0)) (hn : s.1 ∈ nine κ x) : (0 ≤ aTA κ s ∧ aTA κ s < pw2 (κ 0)) ∧ aTA κ s ∈ nine κ x := by
  unfold aTA
  have i22 := hI.2.2.1
  split
  · have h0 := aT1_ok hI hx s (c := 0) (by omega) hl hn
    exact aT1_ok hI hx s (c := 1) (by omega) h0.1 h0.2
  · split
    · exact aT1_ok hI hx s (c := 0) (by omega) hl hn
    · exact ⟨hl, hn⟩
/-- a state that steps from one with the lying x can lead to -/
def Rch (κ : Int → Int) (x : Int) (s : St) : Prop := SVd κ s ∧ s.1 ∈ nine κ x
theorem Rch_go {κ : Int → Int} (hI : KI κ) {x : Int} (hx : 0 ≤ x ∧ x < 32) {s : St} (h : Rch κ x s) {i to : Int} (hi : 0 ≤ i ∧ i < κ 29) (ht : 0 ≤ to) (hc : aCan κ s i to) : Rch κ x (aGo κ s i to) := by
  have i29 := hI.2.2.2.2.2.1
  have q := aTA_ok hI hx (qs s i to) (by rw [qs_1]; exact h.1.1) (by rw [qs_1]; exact h.2)
  have hv := h.1.2
  have k0 := hI.1
  refine ⟨⟨q.1, fun j j0 j1 => ?_⟩, q.2⟩
  rw [qa_go (by omega) ⟨j0, j1⟩]
  have hj := hv j j0 j1
  by_cases e : j = i
  · rw [if_pos e]
    refine ⟨⟨ht, ?_⟩, fun _ => by omega⟩
    rcases hc with c | c
    · exact c.2.2.1
    · omega
  · rw [if_neg e]
    exact hj
theorem nodup_len {α : Type} [DecidableEq α] : ∀ (l m : List α), l.Nodup → (∀ a ∈ l, a ∈ m) → l.length ≤ m.length := by
  intro l
  induction l with
  | nil => intro m _ _; exact Nat.zero_le _
  | cons a t ih =>
    intro m hn hs
    rw [List.nodup_cons] at hn
    have ha : a ∈ m := hs a (List.mem_cons_self ..)
    have := ih (m.erase a) hn.2 (fun b hb => by
      have hb' := hs b (List.mem_cons_of_mem _ hb)
      have hne : b ≠ a := fun z => hn.1 (z ▸ hb)
      exact (List.mem_erase_of_ne hne).mpr hb')
    rw [List.length_erase_of_mem ha] at this
    have hp : 0 < m.length := List.length_pos_of_mem ha
    rw [List.length_cons]
    omega
def trip : List (Int × Int × Int) := (List.range 1000).map (fun n => (((n / 100 : Nat) : Int), ((n / 10 % 10 : Nat) : Int), ((n % 10 : Nat) : Int)))
theorem trip_mem {a b c : Int} (ha : 0 ≤ a ∧ a < 10) (hb : 0 ≤ b ∧ b < 10) (hc : 0 ≤ c ∧ c < 10) : (a, b, c) ∈ trip := by
  unfold trip
  rw [List.mem_map]
  refine ⟨(100 * a + 10 * b + c).toNat, ?_, ?_⟩
  · rw [List.mem_range]
    omega
  · refine Prod.ext ?_ (Prod.ext ?_ ?_) <;> simp only <;> omega
theorem trip_len : trip.length = 1000 := by unfold trip; rw [List.length_map, List.length_range]
theorem fm_len : ∀ (l : List Int), (l.flatMap (fun y => trip.map (fun q => ((y, q) : St)))).length = 1000 * l.length := by
  intro l
  induction l with
  | nil => rfl
  | cons a t ih =>
    rw [List.flatMap_cons, List.length_append, ih, List.length_map, trip_len, List.length_cons]
    omega
theorem rch_len {κ : Int → Int} (hI : KI κ) {x : Int} (l : List St) (hn : l.Nodup) (h : ∀ s ∈ l, Rch κ x s) : l.length ≤ 9000 := by
  have := nodup_len l ((nine κ x).flatMap (fun y => trip.map (fun q => ((y, q) : St)))) hn (fun s hs => by
    have r := h s hs
    have k0 := hI.1
    rw [List.mem_flatMap]
    refine ⟨s.1, r.2, ?_⟩
    rw [List.mem_map]
    have a0 := (r.1.2 0 (by omega) (by omega)).1
    have a1 := (r.1.2 1 (by omega) (by omega)).1
    have a2 := (r.1.2 2 (by omega) (by omega)).1
    rw [qa_0] at a0
    rw [qa_1] at a1
    rw [qa_2] at a2
    exact ⟨s.2, trip_mem (a := s.2.1) (b := s.2.2.1) (c := s.2.2.2) (by omega) (by omega) (by omega), rfl⟩)
  rw [fm_len] at this
  have := nine_len κ x
  omega
