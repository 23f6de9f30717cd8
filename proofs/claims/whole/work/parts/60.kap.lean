/-! the fort with some of its people, with other ballast -/
def kap (φ : Int → Int) (w : Int) (ι st : Int → Int) : Int → Int := fun k => if k = 29 then w else if 30 ≤ k ∧ k < 33 then φ (30 + ι (k - 30)) else if 16 ≤ k ∧ k < 21 then st (k - 16) else φ k
def stI (φ : Int → Int) (w : Int) (ι : Int → Int) : St := (φ 21, if 0 < w then φ (33 + ι 0) else 0, if 1 < w then φ (33 + ι 1) else 0, if 2 < w then φ (33 + ι 2) else 0)
theorem kap_29 (φ : Int → Int) (w : Int) (ι st : Int → Int) : kap φ w ι st 29 = w := by unfold kap; rw [if_pos rfl]
theorem kap_L (φ : Int → Int) (w : Int) (ι st : Int → Int) {i : Int} (h : 0 ≤ i ∧ i < 3) : kap φ w ι st (30 + i) = φ (30 + ι i) := by
  unfold kap
  rw [if_neg (by omega), if_pos (by omega), show 30 + i - 30 = i by omega]
theorem kap_S (φ : Int → Int) (w : Int) (ι st : Int → Int) {b : Int} (h : 0 ≤ b ∧ b < 5) : kap φ w ι st (16 + b) = st b := by
  unfold kap
  rw [if_neg (by omega), if_neg (by omega), if_pos (by omega), show 16 + b - 16 = b by omega]
theorem kap_o (φ : Int → Int) (w : Int) (ι st : Int → Int) {k : Int} (h : k < 16 ∨ (21 ≤ k ∧ k < 29)) : kap φ w ι st k = φ k := by
  unfold kap
  rw [if_neg (by omega), if_neg (by omega), if_neg (by omega)]
theorem KI_kap {φ : Int → Int} (hI : FI φ) {w : Int} {ι st : Int → Int} (hw : 0 ≤ w ∧ w ≤ 3) (hι : ∀ i, 0 ≤ i → i < w → 0 ≤ ι i ∧ ι i < φ 29) (hst : ∀ b, 0 ≤ b → b < φ 0 → 0 ≤ st b ∧ st b ≤ 40) : KI (kap φ w ι st) := by
  obtain ⟨h0, hbb, hl, hc, hch, hch2, hp, hpp, hs, hss⟩ := hI
  unfold KI
  rw [kap_29, kap_o (k := 0) _ _ _ _ (by omega), kap_o (k := 22) _ _ _ _ (by omega), kap_o (k := 23) _ _ _ _ (by omega), kap_o (k := 24) _ _ _ _ (by omega), kap_o (k := 25) _ _ _ _ (by omega), kap_o (k := 26) _ _ _ _ (by omega)]
  refine ⟨h0, fun k k0 k1 => ?_, hc, fun c c0 c1 => ?_, hch2, hw, fun p p0 p1 => ?_⟩
  · rw [kap_o _ _ _ _ (by omega), kap_o _ _ _ _ (by omega), kap_o _ _ _ _ (by omega), kap_S _ _ _ _ (by omega)]
    have := hbb k k0 k1
    have := hst k k0 k1
    omega
  · rw [kap_o _ _ _ _ (by omega), kap_o _ _ _ _ (by omega), kap_o _ _ _ _ (by omega)]
    exact hch c c0 c1
  · rw [kap_L _ _ _ _ (by omega)]
    have := hι p p0 p1
    exact (hpp (ι p) this.1 this.2).1
theorem stI_qa {φ : Int → Int} {w : Int} {ι : Int → Int} {i : Int} (hi : 0 ≤ i ∧ i < 3) : qa (stI φ w ι) i = if i < w then φ (33 + ι i) else 0 := by
  rcases (by omega : i = 0 ∨ i = 1 ∨ i = 2) with rfl | rfl | rfl <;> rfl
theorem SVd_kap {φ : Int → Int} (hI : FI φ) {w : Int} {ι st : Int → Int} (hι : ∀ i, 0 ≤ i → i < w → 0 ≤ ι i ∧ ι i < φ 29) : SVd (kap φ w ι st) (stI φ w ι) := by
  obtain ⟨h0, hbb, hl, hc, hch, hch2, hp, hpp, hs, hss⟩ := hI
  unfold SVd
  rw [kap_29, kap_o (k := 0) _ _ _ _ (by omega)]
  refine ⟨hl, fun i i0 i1 => ?_⟩
  rw [stI_qa ⟨i0, i1⟩]
  by_cases e : i < w
  · rw [if_pos e]
    have := hι i i0 e
    exact ⟨(hpp (ι i) this.1 this.2).2, fun z => by omega⟩
  · rw [if_neg e]
    exact ⟨by omega, fun _ => rfl⟩
theorem ClsK_kap {g1 h : Hp} {φ : Int → Int} (hI : FI φ) (hC : ClsF g1 20 φ) {w : Int} {ι st : Int → Int} (hw : 0 ≤ w ∧ w ≤ 3) (e20 : ∀ i, i ≠ 11 → h 20 i = g1 20 i) (e11 : h 20 11 = w) (eo : ∀ a : Nat, 28 ≤ a → a ≤ 34 → a ≠ 31 → h a = g1 a) (e31 : ∀ b, 0 ≤ b → b < φ 0 → h 31 b = st b) (ep : ∀ i, 0 ≤ i → i < w → h 35 i = φ (30 + ι i) ∧ h 36 i = φ (33 + ι i)) : ClsK h 20 (kap φ w ι st) (stI φ w ι) := by
  obtain ⟨c0, c1, c2, c3, c4, c5, c6, c7, c8⟩ := hC
  obtain ⟨h0, hbb, hl, hc, hch, hch2, hp, hpp, hs, hss⟩ := hI
  unfold ClsK
  rw [kap_29, kap_o (k := 0) _ _ _ _ (by omega), kap_o (k := 22) _ _ _ _ (by omega), e20 1 (by omega), e20 6 (by omega), e20 7 (by omega)]
  refine ⟨c0, fun k k0 k1 => ?_, c2, c3, fun c k0 k1 => ?_, e11, fun p p0 p1 => ?_⟩
  · rw [kap_o _ _ _ _ (by omega), kap_o _ _ _ _ (by omega), kap_o _ _ _ _ (by omega), kap_S _ _ _ _ (by omega)]
    have q := c1 k k0 k1
    refine ⟨?_, ?_, ?_, e31 k k0 k1⟩
    · exact (congrFun (eo 28 (by omega) (by omega) (by omega)) k).trans q.1
    · exact (congrFun (eo 29 (by omega) (by omega) (by omega)) k).trans q.2.1
    · exact (congrFun (eo 30 (by omega) (by omega) (by omega)) k).trans q.2.2.1
  · rw [kap_o _ _ _ _ (by omega), kap_o _ _ _ _ (by omega), kap_o _ _ _ _ (by omega)]
    have q := c4 c k0 k1
    refine ⟨?_, ?_, ?_⟩
    · exact (congrFun (eo 32 (by omega) (by omega) (by omega)) c).trans q.1
    · exact (congrFun (eo 33 (by omega) (by omega) (by omega)) c).trans q.2.1
    · exact (congrFun (eo 34 (by omega) (by omega) (by omega)) c).trans q.2.2
  · rw [kap_L _ _ _ _ (by omega), stI_qa (by omega), if_pos p1]
    exact ep p p0 p1
theorem ModC_kap {g g' h : Hp} (hL : Laid g g') (hI : FI (rg g 0)) {w t : Int} {ι st : Int → Int} (e87 : h 87 = g' 87) (e6 : h 86 6 = g' 86 6) (e92 : h 92 = g' 92) (e93 : h 93 = g' 93) (e94 : h 94 = g' 94) (e91 : ∀ b, 0 ≤ b → b < g 87 0 → h 91 b = st b) (e10 : h 86 10 = t) (hcn : w = cn t) (hmap : ∀ p, 0 ≤ p → p < 3 → dnB t p → p < g 87 29 ∧ ι (rk t p) = p) : ModC h (kap (rg g 0) w ι st) t := by
  obtain ⟨l1, l2, l3, l4, l5, l6⟩ := hL
  obtain ⟨h0, hbb, hl, hc, hch, hch2, hp, hpp, hs, hss⟩ := hI
  have f87 := l5 87 (by omega) (by omega) (by omega) (by omega) (by omega)
  simp only [rg0] at *
  unfold ModC
  rw [e87, e6, e92, e93, e94, f87, l2, kap_29, kap_o (k := 0) _ _ _ _ (by omega), kap_o (k := 22) _ _ _ _ (by omega)]
  simp only [rg0]
  refine ⟨trivial, fun k k0 k1 => ?_, trivial, fun c c0 c1 => ?_, hp, e10, hcn, fun p p0 p1 d => ?_⟩
  · rw [kap_o _ _ _ _ (by omega), kap_o _ _ _ _ (by omega), kap_o _ _ _ _ (by omega), kap_S _ _ _ _ (by omega), rg0, rg0, rg0]
    exact ⟨rfl, rfl, rfl, e91 k k0 k1⟩
  · rw [kap_o _ _ _ _ (by omega), kap_o _ _ _ _ (by omega), kap_o _ _ _ _ (by omega), rg0, rg0, rg0]
    exact l3 c c0 c1
  · have q := hmap p p0 p1 d
    have r := rk_le (t := t) (p := p)
    rw [kap_L _ _ _ _ (by omega), rg0, q.2]
    exact ⟨q.1, rfl⟩
theorem ModN_kap {g g' h : Hp} (hL : Laid g g') {w t : Int} {ι : Int → Int} (e87 : h 87 = g' 87) (e10 : h 86 10 = t) (hcn : w = cn t) (hmap : ∀ p, 0 ≤ p → p < 3 → dnB t p → p < g 87 29 ∧ ι (rk t p) = p) : ModN h t (stI (rg g 0) w ι) := by
  have f87 := hL.2.2.2.2.1 87 (by omega) (by omega) (by omega) (by omega) (by omega)
  refine ⟨by rw [e87, f87]; exact (rg0 g 21).symm, fun p p0 p1 => ?_⟩
  unfold asP mpl
  rw [e87, f87, e10]
  by_cases d : dnB t p
  · have q := hmap p p0 p1 d
    have r := rk_le (t := t) (p := p)
    have r2 := rk_lt ⟨p0, p1⟩ d
    rw [if_pos ⟨q.1, d⟩, if_pos d, stI_qa (by omega), if_pos (by omega), q.2, rg0]
  · rw [if_neg (fun z => d z.2), if_neg d]
/-! the class's changes of the trial Fort -/
theorem c_addStones (bits v : Int) (hv : 0 ≤ v ∧ v ≤ 9) : ∀ (m : Nat) (b : Int) (g : Hp), 0 ≤ b → b + m = g 20 1 → g 20 1 ≤ 5 → (∀ k, b ≤ k → k < g 20 1 → 0 ≤ g 31 k ∧ g 31 k ≤ 20) → ∃ g', EV 8 qX2_addStones 2 [vR 20, vI bits, vI v, vI b] [] g = some (none, g') ∧ (∀ k, b ≤ k → k < g 20 1 → g' 31 k = g 31 k + if dnB bits k then v else 0) ∧ (∀ k, k < b → g' 31 k = g 31 k) ∧ ∀ a : Nat, a ≠ 31 → g' a = g a := by
  intro m
  induction m with
  | zero =>
    intro b g h0 h h5 hr
    refine ⟨g, ?_, fun k k0 k1 => by omega, fun _ _ => rfl, fun _ _ => rfl⟩
    rw [bX2_addStones_2 hF20, if_pos (by omega), bX2_addStones_35 hF20]
  | succ m ih =>
    intro b g h0 h h5 hr
    have hb := hr b (by omega) (by omega)
    rw [bX2_addStones_2 hF20, if_neg (by omega), bX2_addStones_10 hF20]
    by_cases d : dnB bits b
    · generalize hg1 : up g 31 b (g 31 b + v) = g1
      have e20 : g1 20 = g 20 := by subst hg1; funext i; rw [up_ne (by omega)]
      have e31 : ∀ k, g1 31 k = if k = b then g 31 b + v else g 31 k := fun k => by
        subst hg1
        by_cases e : k = b
        · rw [e, up_eq, if_pos rfl]
        · rw [up_nei e, if_neg e]
      obtain ⟨g', a1, a2, a3, a4⟩ := ih (b + 1) g1 (by omega) (by rw [e20]; omega) (by rw [e20]; exact h5) (fun k k0 k1 => by
        rw [e31, if_neg (by omega)]
        exact hr k (by omega) (by rw [e20] at k1; exact k1))
      rw [e20] at a2
      have st : EV 8 qX2_addStones 19 [vR 20, vI bits, vI v, vI b] [] g = EV 8 qX2_addStones 29 [vR 20, vI bits, vI v, vI b] [] g1 := by
        rw [bX2_addStones_19 hF20 _ _ _ _ (by omega) (by show -2147483648 ≤ g 31 b + v ∧ g 31 b + v < 2147483648; omega) (by omega), ← hg1]
      refine ⟨g', ?_, fun k k0 k1 => ?_, fun k k0 => ?_, fun a ha => ?_⟩
      · rw [if_pos d, st, bX2_addStones_29 hF20 _ _ _ _ (by omega)]
        exact a1
      · by_cases e : k = b
        · rw [e, a3 b (by omega), e31, if_pos rfl, if_pos d]
        · rw [a2 k (by omega) k1, e31, if_neg e]
      · rw [a3 k (by omega), e31, if_neg (by omega)]
      · rw [a4 a ha]
        subst hg1
        funext i
        rw [up_ne ha]
    · obtain ⟨g', a1, a2, a3, a4⟩ := ih (b + 1) g (by omega) (by omega) h5 (fun k k0 k1 => hr k (by omega) k1)
      refine ⟨g', ?_, fun k k0 k1 => ?_, fun k k0 => a3 k (by omega), a4⟩
      · rw [if_neg d, bX2_addStones_29 hF20 _ _ _ _ (by omega)]
        exact a1
      · by_cases e : k = b
        · rw [e, a3 b (by omega), if_neg d, Int.add_zero]
        · exact a2 k (by omega) k1
theorem c_leaveAlone (g : Hp) (p : Int) (hp : 0 ≤ p ∧ p < 3) : ∃ g', EV 8 qX2_leaveAlone 0 [vR 20, vI p] [] g = some (none, g') ∧ g' 20 11 = 1 ∧ (∀ i, i ≠ 11 → g' 20 i = g 20 i) ∧ g' 35 0 = g 35 p ∧ g' 36 0 = g 36 p ∧ ∀ a : Nat, a ≠ 20 → a ≠ 35 → a ≠ 36 → g' a = g a := by
  rw [bX2_leaveAlone_0 hF20 _ _ hp (by omega)]
  refine ⟨_, rfl, up_eq, fun i hi => ?_, ?_, ?_, fun a a1 a2 a3 => ?_⟩
  · rw [up_nei hi, up_ne (by omega), up_ne (by omega)]
  · rw [up_ne (by omega), up_ne (by omega)]
    exact up_eq
  · rw [up_ne (by omega)]
    exact up_eq
  · funext i
    rw [up_ne a1, up_ne a3, up_ne a2]
/-- two rows, one place back from p on -/
def bk (g : Hp) (p n : Int) : Hp := fun a i => if (a = 35 ∨ a = 36) ∧ p ≤ i ∧ i < n then g a (i + 1) else g a i
theorem bk_succ (g : Hp) {p n : Int} (hn : p ≤ n) : up (up (bk g p n) 35 n (bk g p n 35 (n + 1))) 36 n (bk g p n 36 (n + 1)) = bk g p (n + 1) := by
  funext a i
  unfold up bk
  by_cases a36 : a = 36
  · subst a36
    by_cases hi : i = n
    · subst hi
      rw [if_pos ⟨rfl, rfl⟩, if_neg (by omega), if_pos (by omega)]
    · rw [if_neg (fun z => hi z.2), if_neg (by omega)]
      by_cases h2 : p ≤ i ∧ i < n
      · rw [if_pos (by omega), if_pos (by omega)]
      · rw [if_neg (by omega), if_neg (by omega)]
  · rw [if_neg (fun z => a36 z.1)]
    by_cases a35 : a = 35
    · subst a35
      by_cases hi : i = n
      · subst hi
        rw [if_pos ⟨rfl, rfl⟩, if_neg (by omega), if_pos (by omega)]
      · rw [if_neg (fun z => hi z.2)]
        by_cases h2 : p ≤ i ∧ i < n
        · rw [if_pos (by omega), if_pos (by omega)]
        · rw [if_neg (by omega), if_neg (by omega)]
    · rw [if_neg (fun z => a35 z.1), if_neg (by omega), if_neg (by omega)]
theorem c_leaveOut (g : Hp) (p : Int) (hw : 0 ≤ g 20 11 ∧ g 20 11 ≤ 3) (hp : 0 ≤ p ∧ p < g 20 11) : EV 8 qX2_leaveOut 0 [vR 20, vI p, vU] [] g = some (none, bk (up g 20 11 (g 20 11 - 1)) p (g 20 11 - 1)) := by
  generalize hg1 : up g 20 11 (g 20 11 - 1) = g1
  have e11 : ∀ n, bk g1 p n 20 11 = g 20 11 - 1 := fun n => by
    unfold bk
    rw [if_neg (by omega)]
    subst hg1
    exact up_eq
  have loop : ∀ (m : Nat) (n : Int), p ≤ n → n + m = g 20 11 - 1 → EV 8 qX2_leaveOut 12 [vR 20, vI p, vI n] [] (bk g1 p n) = some (none, bk g1 p (g 20 11 - 1)) := by
    intro m
    induction m with
    | zero =>
      intro n h0 h
      rw [bX2_leaveOut_12 hF20, if_pos (by rw [e11]; omega), bX2_leaveOut_54 hF20, show n = g 20 11 - 1 by omega]
    | succ m ih =>
      intro n h0 h
      rw [bX2_leaveOut_12 hF20, if_neg (by rw [e11]; omega), bX2_leaveOut_20 hF20 _ _ _ (by omega) (by omega) (by omega) (by omega) (by omega) (by omega) (by omega)]
      show EV 8 qX2_leaveOut 12 [vR 20, vI p, vI (n + 1)] [] (up (up (bk g1 p n) 35 n (bk g1 p n 35 (n + 1))) 36 n (bk g1 p n 36 (n + 1))) = _
      rw [bk_succ g1 h0]
      exact ih (n + 1) (by omega) (by omega)
  rw [bX2_leaveOut_0 hF20 _ _ (by omega), hg1]
  have h0 : g1 = bk g1 p p := by
    funext a i
    unfold bk
    rw [if_neg (by omega)]
  have := loop (g 20 11 - 1 - p).toNat p (by omega) (by omega)
  rw [← h0] at this
  exact this
