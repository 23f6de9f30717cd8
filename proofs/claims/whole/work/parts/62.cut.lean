/-! cut, tie -/
def fDrop (φ : Int → Int) (c : Int) : Int → Int := fu (fu (fu (fu φ 23 (if c = 0 then φ 24 else φ 23)) 25 (if c = 0 then φ 26 else φ 25)) 27 (if c = 0 then φ 28 else φ 27)) 22 (φ 22 - 1)
theorem fDrop_22 (φ : Int → Int) (c : Int) : fDrop φ c 22 = φ 22 - 1 := fu_eq
theorem fDrop_o (φ : Int → Int) (c : Int) {k : Int} (h : k < 22 ∨ 28 ≤ k) : fDrop φ c k = φ k := by
  unfold fDrop
  rw [fu_ne (by omega), fu_ne (by omega), fu_ne (by omega), fu_ne (by omega)]
theorem fDrop_0 (φ : Int → Int) (c : Int) : fDrop φ c 23 = (if c = 0 then φ 24 else φ 23) ∧ fDrop φ c 25 = (if c = 0 then φ 26 else φ 25) ∧ fDrop φ c 27 = (if c = 0 then φ 28 else φ 27) := by
  unfold fDrop
  refine ⟨?_, ?_, ?_⟩
  · rw [fu_ne (by omega), fu_ne (by omega), fu_ne (by omega), fu_eq]
  · rw [fu_ne (by omega), fu_ne (by omega), fu_eq]
  · rw [fu_ne (by omega), fu_eq]
theorem FI_fDrop {φ : Int → Int} (hI : FI φ) {c : Int} (hc : 0 ≤ c ∧ c < φ 22) : FI (fDrop φ c) := by
  obtain ⟨h0, hbb, hl, hcc, hch, hch2, hp, hpp, hs, hss⟩ := hI
  obtain ⟨d1, d2, d3⟩ := fDrop_0 φ c
  unfold FI
  rw [fDrop_22, fDrop_o (k := 0) _ _ (by omega), fDrop_o (k := 21) _ _ (by omega), fDrop_o (k := 29) _ _ (by omega), fDrop_o (k := 36) _ _ (by omega)]
  refine ⟨h0, fun k k0 k1 => ?_, hl, by omega, fun e e0 e1 => ?_, fun e => by omega, hp, fun p p0 p1 => ?_, hs, fun s s0 s1 => ⟨?_, fun p p0 p1 => ?_⟩⟩
  · rw [fDrop_o _ _ (by omega), fDrop_o _ _ (by omega), fDrop_o _ _ (by omega), fDrop_o _ _ (by omega)]
    exact hbb k k0 k1
  · have : e = 0 := by omega
    subst this
    rw [show (23 : Int) + 0 = 23 from rfl, show (25 : Int) + 0 = 25 from rfl, show (27 : Int) + 0 = 27 from rfl, d1, d2, d3]
    by_cases z : c = 0
    · rw [if_pos z, if_pos z, if_pos z]
      have := hch 1 (by omega) (by omega)
      exact this
    · rw [if_neg z, if_neg z, if_neg z]
      have := hch 0 (by omega) (by omega)
      exact this
  · rw [fDrop_o _ _ (by omega), fDrop_o _ _ (by omega)]
    exact hpp p p0 p1
  · rw [fDrop_o _ _ (by omega)]
    exact (hss s s0 s1).1
  · rw [fDrop_o _ _ (by omega)]
    exact (hss s s0 s1).2 p p0 p1
theorem stF_eq {φ ψ : Int → Int} (h21 : ψ 21 = φ 21) (h29 : ψ 29 = φ 29) (h33 : ψ 33 = φ 33) (h34 : ψ 34 = φ 34) (h35 : ψ 35 = φ 35) : stF ψ = stF φ := by
  unfold stF
  rw [h21, h29, h33, h34, h35]
theorem stF_drop (φ : Int → Int) (c : Int) : stF (fDrop φ c) = stF φ := stF_eq (fDrop_o _ _ (by omega)) (fDrop_o _ _ (by omega)) (fDrop_o _ _ (by omega)) (fDrop_o _ _ (by omega)) (fDrop_o _ _ (by omega))
theorem c_dropChain {g : Hp} {φ : Int → Int} (hI : FI φ) (hC : ClsF g 20 φ) {c : Int} (hc : 0 ≤ c ∧ c < φ 22) : ∃ g', EV 8 qX2_dropChain 0 [vR 20, vI c, vU] [] g = some (none, g') ∧ ClsF g' 20 (fDrop φ c) ∧ ∀ a : Nat, (a < 20 ∨ 38 < a) → g' a = g a := by
  have hcc := hI.2.2.2.1
  have h0 := hI.1
  have hp := hI.2.2.2.2.2.2.1
  obtain ⟨c0, c1, c2, c3, c4, c5, c6, c7, c8⟩ := hC
  have e7 : g 20 7 = φ 22 := c3
  obtain ⟨d1, d2, d3⟩ := fDrop_0 φ c
  have fin : ∀ g' : Hp, g' 20 7 = φ 22 - 1 → (∀ i, i ≠ 7 → g' 20 i = g 20 i) → (∀ a : Nat, a ≠ 20 → a ≠ 32 → a ≠ 33 → a ≠ 34 → g' a = g a) → (1 < φ 22 → g' 32 0 = fDrop φ c 23 ∧ g' 33 0 = fDrop φ c 25 ∧ g' 34 0 = fDrop φ c 27) → ClsF g' 20 (fDrop φ c) := fun g' f7 f20 fo fc => by
    unfold ClsF
    rw [fDrop_22, fDrop_o (k := 0) _ _ (by omega), fDrop_o (k := 21) _ _ (by omega), fDrop_o (k := 29) _ _ (by omega), fDrop_o (k := 36) _ _ (by omega), f20 1 (by omega), f20 6 (by omega), f20 11 (by omega)]
    refine ⟨c0, fun k k0 k1 => ?_, c2, f7, fun e e0 e1 => ?_, c5, fun p p0 p1 => ?_, ?_, fun s s0 s1 => ?_⟩
    · rw [fDrop_o _ _ (by omega), fDrop_o _ _ (by omega), fDrop_o _ _ (by omega), fDrop_o _ _ (by omega), fo (20 + 8) (by omega) (by omega) (by omega) (by omega), fo (20 + 9) (by omega) (by omega) (by omega) (by omega), fo (20 + 10) (by omega) (by omega) (by omega) (by omega), fo (20 + 11) (by omega) (by omega) (by omega) (by omega)]
      exact c1 k k0 k1
    · have : e = 0 := by omega
      subst this
      exact fc (by omega)
    · rw [fDrop_o _ _ (by omega), fDrop_o _ _ (by omega), fo (20 + 15) (by omega) (by omega) (by omega) (by omega), fo (20 + 16) (by omega) (by omega) (by omega) (by omega)]
      exact c6 p p0 p1
    · rw [fo (20 + 17) (by omega) (by omega) (by omega) (by omega)]
      exact c7
    · rw [fDrop_o _ _ (by omega), fDrop_o _ _ (by omega), fDrop_o _ _ (by omega), fDrop_o _ _ (by omega), fo (20 + 18) (by omega) (by omega) (by omega) (by omega)]
      exact c8 s s0 s1
  have q7 : up g 20 7 (g 20 7 - 1) 20 7 = φ 22 - 1 := by rw [up_eq, e7]
  rw [bX2_dropChain_0 hF20 _ _ (by omega), bX2_dropChain_12 hF20, q7]
  by_cases z : c = 0 ∧ φ 22 = 2
  · have k0 := c4 0 (by omega) (by omega)
    have k1 := c4 1 (by omega) (by omega)
    rw [if_neg (by omega), bX2_dropChain_20 hF20 _ _ _ (by omega) (by omega) (by omega) (by omega) (by omega) (by omega) (by omega) (by omega) (by omega) (by omega), z.1, show (0 : Int) + 1 = 1 from rfl]
    generalize hg2 : up (up (up (up g 20 7 (g 20 7 - 1)) (20 + 12) 0 _) (20 + 13) 0 _) (20 + 14) 0 _ = g2
    have q72 : g2 20 7 = φ 22 - 1 := by
      subst hg2
      rw [up_ne (by omega), up_ne (by omega), up_ne (by omega), q7]
    refine ⟨g2, by rw [bX2_dropChain_12 hF20, if_pos (by omega), bX2_dropChain_68 hF20], ?_, fun a ha => ?_⟩
    · rw [← z.1]
      refine fin g2 q72 (fun i hi => ?_) (fun a x1 x2 x3 x4 => ?_) (fun _ => ?_)
      · subst hg2
        rw [up_ne (by omega), up_ne (by omega), up_ne (by omega), up_nei hi]
      · subst hg2
        funext i
        rw [up_ne (by omega), up_ne (by omega), up_ne (by omega), up_ne x1]
      · rw [d1, d2, d3, if_pos z.1, if_pos z.1, if_pos z.1]
        subst hg2
        refine ⟨?_, ?_, ?_⟩
        · rw [up_ne (by omega), up_ne (by omega)]
          refine up_eq.trans ?_
          rw [up_ne (by omega)]
          exact k1.1
        · rw [up_ne (by omega)]
          refine up_eq.trans ?_
          rw [up_ne (by omega)]
          exact k1.2.1
        · refine up_eq.trans ?_
          rw [up_ne (by omega)]
          exact k1.2.2
    · subst hg2
      funext i
      rw [up_ne (by omega), up_ne (by omega), up_ne (by omega), up_ne (by omega)]
  · refine ⟨_, by rw [if_pos (by omega), bX2_dropChain_68 hF20], fin _ q7 (fun i hi => by rw [up_nei hi]) (fun a x1 _ _ _ => by funext i; rw [up_ne x1]) (fun w => ?_), fun a ha => by funext i; rw [up_ne (by omega)]⟩
    have k0 := c4 0 (by omega) (by omega)
    rw [d1, d2, d3, if_neg (by omega), if_neg (by omega), if_neg (by omega), up_ne (by omega), up_ne (by omega), up_ne (by omega)]
    exact k0
noncomputable def DCt (φ : Int → Int) (sm room c : Int) : Int := DS (fDrop φ c) (stF φ) sm room
/-- the reference's rows for looking ahead, but for the chains -/
def LdB (g h : Hp) : Prop := (∀ k, 0 ≤ k → k < 5 → h 91 k = g 87 (16 + k)) ∧ h 86 10 = tF (g 87 29) ∧ h 87 = g 87
theorem LdB.keep {g h h' : Hp} (hL : LdB g h) (hf : frH h h') : LdB g h' := by
  obtain ⟨a, b, c⟩ := hL
  unfold LdB
  rw [hf.1 91 (by omega) (by omega) (by omega) (by omega), hf.2 10 (by omega) (by omega), hf.1 87 (by omega) (by omega) (by omega) (by omega)]
  exact ⟨a, b, c⟩
theorem Laid.B {g h : Hp} (hL : Laid g h) : LdB g h := ⟨hL.1, hL.2.2.2.1, hL.2.2.2.2.1 87 (by omega) (by omega) (by omega) (by omega) (by omega)⟩
/-- other chains: ψ is φ but for them -/
theorem ModC_B {g h : Hp} {φ ψ : Int → Int} (hL : LdB g h) (hφ : rg g 0 = φ) (hI : FI φ) (hψ : ∀ k, k < 22 ∨ (29 ≤ k ∧ k < 33) → ψ k = φ k) (e6 : h 86 6 = ψ 22) (hc : ∀ c, 0 ≤ c → c < ψ 22 → h 92 c = ψ (23 + c) ∧ h 93 c = ψ (25 + c) ∧ h 94 c = ψ (27 + c)) : ModC h ψ (tF (g 87 29)) := by
  obtain ⟨a, b, c⟩ := hL
  have hp := hI.2.2.2.2.2.2.1
  have h0 := hI.1
  subst hφ
  rw [rg0] at hp h0
  unfold ModC
  rw [c, hψ 0 (by omega), hψ 29 (by omega)]
  refine ⟨(rg0 g 0).symm, fun k k0 k1 => ?_, e6, hc, hp, b, by rw [rg0]; exact (tF_cn hp).symm, fun p p0 p1 d => ?_⟩
  · rw [rg0] at k1
    rw [hψ (1 + k) (by omega), hψ (6 + k) (by omega), hψ (11 + k) (by omega), hψ (16 + k) (by omega), rg0, rg0, rg0, rg0]
    exact ⟨rfl, rfl, rfl, a k k0 (by omega)⟩
  · have q := (tF_dn hp ⟨p0, p1⟩).mp d
    rw [tF_rk hp ⟨p0, p1⟩ q, hψ (30 + p) (by omega), rg0]
    exact ⟨q, rfl⟩
theorem ModN_B {g h : Hp} {φ : Int → Int} (hL : LdB g h) (hφ : rg g 0 = φ) (hI : FI φ) : ModN h (tF (g 87 29)) (stF φ) := by
  obtain ⟨a, b, c⟩ := hL
  have hp := hI.2.2.2.2.2.2.1
  subst hφ
  rw [rg0] at hp
  refine ⟨by rw [c]; exact (rg0 g 21).symm, fun p p0 p1 => ?_⟩
  unfold asP mpl
  rw [c, b]
  have dd := tF_dn hp ⟨p0, p1⟩
  by_cases e : p < g 87 29
  · rw [if_pos ⟨e, dd.mpr e⟩, if_pos (dd.mpr e), tF_rk hp ⟨p0, p1⟩ e, stF_qa ⟨p0, p1⟩, rg0, rg0, if_pos e]
  · rw [if_neg (fun z => e z.1), if_neg (fun z => e (dd.mp z))]
theorem c_cut_it {g : Hp} {φ : Int → Int} (hI : FI φ) (hC : ClsF g 1 φ) (sm room c : Int) (hr : room ≠ -1) (hc : 0 ≤ c ∧ c < φ 22) (x : Int × Int) (hx : x.1 = 100000 ∨ (0 ≤ x.1 ∧ x.1 < 9000)) (u6 : SV) : ∃ g' v6, EV 15 qX11_cut 38 [vR 0, vI sm, vI room, vI (cl x.1), vI x.2, vI c, u6] [] g = EV 15 qX11_cut 38 [vR 0, vI sm, vI room, vI (cl (updB (DCt φ sm room) x c).1), vI (updB (DCt φ sm room) x c).2, vI (c + 1), v6] [] g' ∧ frT g g' := by
  have hI' := FI_fDrop hI hc
  have hK := KI_F hI'
  have hV := SVd_F hI'
  have h22 := hI.2.2.2.1
  obtain ⟨g1, a1, a2, a3⟩ := c_trial hI hC
  obtain ⟨g2, b1, b2, b3⟩ := c_dropChain hI a2 hc
  obtain ⟨r, g3, c1, c2, c3⟩ := c_search hK hV (ClsK_F hI' b2) sm room x.1 hr hx
  rw [stF_drop] at c3
  have fr : frT g g3 := ((frT_of a3).trans (frT_of b3)).trans c2
  have e17 : g 1 7 = φ 22 := hC.2.2.2.1
  refine ⟨g3, vI r, ?_, fr⟩
  have st : EV 15 qX11_cut 38 [vR 0, vI sm, vI room, vI (cl x.1), vI x.2, vI c, u6] [] g = EV 15 qX11_cut 84 [vR 0, vI sm, vI room, vI (cl x.1), vI x.2, vI c, u6] [vI r] g3 := by
    rw [bX11_cut_38, if_neg (by omega), bX11_cut_50, a1, bnd_some]
    show EV 15 qX11_cut 61 _ [] _ = _
    rw [bX11_cut_61, b1, bnd_some]
    show EV 15 qX11_cut 70 _ [] _ = _
    rw [bX11_cut_70, c1, bnd_some]
    rfl
  have hD := DS_le hK (SVd_ly hK.1 hV) hV sm room
  rw [stF_drop] at hD
  rw [st, bX11_cut_84]
  unfold updB
  rcases c3 with ⟨z1, z2, z3⟩ | ⟨z1, z2⟩
  · have z1' : DCt φ sm room c < x.1 := z1
    have e : cl (DCt φ sm room c) = r := by
      unfold cl
      rw [if_neg (by omega)]
      exact z2.symm
    rw [if_neg z3, bX11_cut_92, bX11_cut_99 _ _ _ _ _ _ _ (by omega), if_pos z1', e]
  · have z1' : ¬ DCt φ sm room c < x.1 := z1
    rw [if_pos z2, bX11_cut_99 _ _ _ _ _ _ _ (by omega), if_neg z1']
theorem m_cut_it {g h : Hp} {φ : Int → Int} (hI : FI φ) (hφ : rg g 0 = φ) (hL : LdB g h) (sm room c : Int) (hc : 0 ≤ c ∧ c < φ 22) (x : Int × Int) (u6 : SV) : ∃ h' v6, EV 14 qX12_cut 37 [vR 86, vI sm, vI room, vI x.1, vI x.2, vI c, u6] [] h = EV 14 qX12_cut 37 [vR 86, vI sm, vI room, vI (updB (DCt φ sm room) x c).1, vI (updB (DCt φ sm room) x c).2, vI (c + 1), v6] [] h' ∧ LdB g h' ∧ frS h h' := by
  have hI' := FI_fDrop hI hc
  have hK := KI_F hI'
  have hV := SVd_F hI'
  have h22 := hI.2.2.2.1
  have h29 := hI.2.2.2.2.2.2.1
  have e22 : h 87 22 = φ 22 := by rw [hL.2.2, ← hφ, rg0]
  have e29 : g 87 29 = φ 29 := by rw [← hφ, rg0]
  have ek : ∀ k, h 87 k = φ k := fun k => by rw [hL.2.2, ← hφ, rg0]
  obtain ⟨d1, d2, d3⟩ := fDrop_0 φ c
  have lay : ∃ (h2 : Hp) (v6 : Int), EV 14 qX12_cut 37 [vR 86, vI sm, vI room, vI x.1, vI x.2, vI c, u6] [] h = EV 14 qX12_cut 116 [vR 86, vI sm, vI room, vI x.1, vI x.2, vI c, vI v6] [] h2 ∧ h2 86 6 = φ 22 - 1 ∧ (φ 22 = 2 → h2 92 0 = fDrop φ c 23 ∧ h2 93 0 = fDrop φ c 25 ∧ h2 94 0 = fDrop φ c 27) ∧ (∀ a : Nat, a ≠ 86 → a ≠ 92 → a ≠ 93 → a ≠ 94 → h2 a = h a) ∧ ∀ i, i ≠ 6 → h2 86 i = h 86 i := by
    rw [bX12_cut_37, if_neg (by omega), bX12_cut_49]
    generalize hh1 : up h 86 6 0 = h1
    have q6 : h1 86 6 = 0 := by subst hh1; exact up_eq
    have qo : ∀ a : Nat, a ≠ 86 → h1 a = h a := fun a ha => by subst hh1; funext i; rw [up_ne ha]
    have q86 : ∀ i, i ≠ 6 → h1 86 i = h 86 i := fun i hi => by subst hh1; rw [up_nei hi]
    have w22 : h1 87 22 = φ 22 := by rw [qo 87 (by omega)]; exact e22
    have skip : ∀ (y : Hp) (k : Int), y 87 22 = φ 22 → 0 ≤ k → k < φ 22 → k = c → EV 14 qX12_cut 57 [vR 86, vI sm, vI room, vI x.1, vI x.2, vI c, vI k] [] y = EV 14 qX12_cut 57 [vR 86, vI sm, vI room, vI x.1, vI x.2, vI c, vI (k + 1)] [] y := fun y k e k0 k1 kc => by
      rw [bX12_cut_57, if_neg (by omega), bX12_cut_69, if_pos kc, bX12_cut_110 _ _ _ _ _ _ _ (by omega)]
    have addc : ∀ (y : Hp) (k n : Int), y 87 22 = φ 22 → y 86 6 = n → 0 ≤ n ∧ n < 3 → 0 ≤ k → k < φ 22 → k ≠ c → EV 14 qX12_cut 57 [vR 86, vI sm, vI room, vI x.1, vI x.2, vI c, vI k] [] y = EV 14 qX12_cut 57 [vR 86, vI sm, vI room, vI x.1, vI x.2, vI c, vI (k + 1)] [] (tm y n (y 87 (23 + k)) (y 87 (25 + k)) (y 87 (27 + k))) := fun y k n e en hn k0 k1 kc => by
      rw [bX12_cut_57, if_neg (by omega), bX12_cut_69, if_neg kc, bX12_cut_76 _ _ _ _ _ _ _ (by omega) (by omega) (by omega) (by omega) (by omega) (by omega), m_tieMore _ n _ _ _ hn en, bnd_some]
      show EV 14 qX12_cut 110 _ [] _ = _
      rw [bX12_cut_110 _ _ _ _ _ _ _ (by omega)]
    have stop : ∀ (y : Hp) (k : Int), y 87 22 = φ 22 → φ 22 ≤ k → EV 14 qX12_cut 57 [vR 86, vI sm, vI room, vI x.1, vI x.2, vI c, vI k] [] y = EV 14 qX12_cut 116 [vR 86, vI sm, vI room, vI x.1, vI x.2, vI c, vI k] [] y := fun y k e hk => by
      rw [bX12_cut_57, if_pos (by omega)]
    rcases (by omega : φ 22 = 1 ∨ (φ 22 = 2 ∧ c = 0) ∨ (φ 22 = 2 ∧ c = 1)) with e | ⟨e, ec⟩ | ⟨e, ec⟩
    · have : c = 0 := by omega
      subst this
      refine ⟨h1, 1, ?_, by omega, fun z => by omega, fun a x1 _ _ _ => qo a x1, q86⟩
      rw [skip h1 0 w22 (by omega) (by omega) rfl, show (0 : Int) + 1 = 1 from rfl, stop h1 1 w22 (by omega)]
    · subst ec
      obtain ⟨t1, t2, t3, t4, t5, t6⟩ := tm_e h1 0 (h1 87 (23 + 1)) (h1 87 (25 + 1)) (h1 87 (27 + 1))
      refine ⟨tm h1 0 (h1 87 (23 + 1)) (h1 87 (25 + 1)) (h1 87 (27 + 1)), 2, ?_, by rw [t4]; omega, fun _ => ?_, fun a x1 x2 x3 x4 => by rw [t6 a x1 x2 x3 x4, qo a x1], fun i hi => by rw [t5 i hi, q86 i hi]⟩
      · rw [skip h1 0 w22 (by omega) (by omega) rfl, show (0 : Int) + 1 = 1 from rfl, addc h1 1 0 w22 q6 (by omega) (by omega) (by omega) (by omega), show (1 : Int) + 1 = 2 from rfl, stop _ 2 (by rw [t6 87 (by omega) (by omega) (by omega) (by omega)]; exact w22) (by omega)]
      · rw [t1, t2, t3, if_pos rfl, if_pos rfl, if_pos rfl, d1, d2, d3, if_pos rfl, if_pos rfl, if_pos rfl, qo 87 (by omega), ek, ek, ek]
        exact ⟨rfl, rfl, rfl⟩
    · subst ec
      obtain ⟨t1, t2, t3, t4, t5, t6⟩ := tm_e h1 0 (h1 87 (23 + 0)) (h1 87 (25 + 0)) (h1 87 (27 + 0))
      refine ⟨tm h1 0 (h1 87 (23 + 0)) (h1 87 (25 + 0)) (h1 87 (27 + 0)), 2, ?_, by rw [t4]; omega, fun _ => ?_, fun a x1 x2 x3 x4 => by rw [t6 a x1 x2 x3 x4, qo a x1], fun i hi => by rw [t5 i hi, q86 i hi]⟩
      · have w22' := t6 87 (by omega) (by omega) (by omega) (by omega)
        rw [addc h1 0 0 w22 q6 (by omega) (by omega) (by omega) (by omega), show (0 : Int) + 1 = 1 from rfl, skip _ 1 (by rw [w22']; exact w22) (by omega) (by omega) rfl, show (1 : Int) + 1 = 2 from rfl, stop _ 2 (by rw [w22']; exact w22) (by omega)]
      · rw [t1, t2, t3, if_pos rfl, if_pos rfl, if_pos rfl, d1, d2, d3, if_neg (by omega), if_neg (by omega), if_neg (by omega), qo 87 (by omega), ek, ek, ek]
        exact ⟨rfl, rfl, rfl⟩
  obtain ⟨h2, v6, l1, l2, l3, l4, l5⟩ := lay
  have hL2 : LdB g h2 := by
    obtain ⟨a, b, c'⟩ := hL
    unfold LdB
    rw [l4 91 (by omega) (by omega) (by omega) (by omega), l4 87 (by omega) (by omega) (by omega) (by omega), l5 10 (by omega)]
    exact ⟨a, b, c'⟩
  have mC := ModC_B (ψ := fDrop φ c) hL2 hφ hI (fun k hk => fDrop_o _ _ (by omega)) (by rw [fDrop_22]; exact l2) (fun e e0 e1 => by
    rw [fDrop_22] at e1
    have : e = 0 := by omega
    subst this
    exact l3 (by omega))
  have mN := ModN_B hL2 hφ hI
  rw [← stF_drop φ c] at mN
  have q29 : h2 87 29 = g 87 29 := by rw [hL2.2.2]
  obtain ⟨h3, s1, s2, s3⟩ := m_stepsOf hK hV mC mN (SmR_full (by omega) q29 sm) room
  rw [stF_drop] at s1
  refine ⟨h3, vI (DCt φ sm room c), ?_, hL2.keep s3, frS.trans ⟨fun a x1 x2 => l4 a x1 (by omega) (by omega) (by omega), l5 3 (by omega)⟩ s3.S⟩
  rw [l1, bX12_cut_116, s1, bnd_some]
  show EV 14 qX12_cut 122 _ [vI (DCt φ sm room c)] _ = _
  rw [bX12_cut_122]
  unfold updB
  by_cases z : DCt φ sm room c < x.1
  · rw [if_neg (by omega), bX12_cut_130, bX12_cut_137, if_neg (by omega), bX12_cut_145, bX12_cut_151 _ _ _ _ _ _ _ _ (by omega), if_pos z]
  · rw [if_pos (by omega), bX12_cut_135, bX12_cut_137, if_pos (by omega), bX12_cut_150, bX12_cut_151 _ _ _ _ _ _ _ _ (by omega), if_neg z]
theorem c_cut_loop {φ : Int → Int} (hI : FI φ) (sm room : Int) (hr : room ≠ -1) : ∀ (m : Nat) (c : Int) (x : Int × Int) (g : Hp) (u6 : SV), 0 ≤ c → c + m = φ 22 → (x.1 = 100000 ∨ (0 ≤ x.1 ∧ x.1 < 9000)) → ClsF g 1 φ → ∃ g', EV 15 qX11_cut 38 [vR 0, vI sm, vI room, vI (cl x.1), vI x.2, vI c, u6] [] g = some (some (vI (updBN (DCt φ sm room) m c x).2), g') ∧ frT g g' := by
  intro m
  induction m with
  | zero =>
    intro c x g u6 h0 h hx hC
    have e17 : g 1 7 = φ 22 := hC.2.2.2.1
    exact ⟨g, by rw [bX11_cut_38, if_pos (by omega), bX11_cut_105]; rfl, frT.refl g⟩
  | succ m ih =>
    intro c x g u6 h0 h hx hC
    obtain ⟨g1, v6, a1, a2⟩ := c_cut_it hI hC sm room c hr (by omega) x hx u6
    have hD : DCt φ sm room c = 100000 ∨ (0 ≤ DCt φ sm room c ∧ DCt φ sm room c < 9000) := by
      have hI' := FI_fDrop hI (c := c) (by omega)
      have hK := KI_F hI'
      have hV := SVd_F hI'
      have := DS_le hK (SVd_ly hK.1 hV) hV sm room
      rw [stF_drop] at this
      exact this
    have hx' : (updB (DCt φ sm room) x c).1 = 100000 ∨ (0 ≤ (updB (DCt φ sm room) x c).1 ∧ (updB (DCt φ sm room) x c).1 < 9000) := by
      unfold updB
      split
      · exact hD
      · exact hx
    obtain ⟨g', b1, b2⟩ := ih (c + 1) (updB (DCt φ sm room) x c) g1 v6 (by omega) (by omega) hx' (hC.keep (fun a x1 x2 => a2 a (by omega) (by omega)))
    exact ⟨g', by rw [a1, b1]; rfl, a2.trans b2⟩
theorem m_cut_loop {g : Hp} {φ : Int → Int} (hI : FI φ) (hφ : rg g 0 = φ) (sm room : Int) : ∀ (m : Nat) (c : Int) (x : Int × Int) (h : Hp) (u6 : SV), 0 ≤ c → c + m = φ 22 → LdB g h → ∃ h', EV 14 qX12_cut 37 [vR 86, vI sm, vI room, vI x.1, vI x.2, vI c, u6] [] h = some (some (vI (updBN (DCt φ sm room) m c x).2), h') ∧ frS h h' := by
  intro m
  induction m with
  | zero =>
    intro c x h u6 h0 hm hL
    have e22 : h 87 22 = φ 22 := by rw [hL.2.2, ← hφ, rg0]
    exact ⟨h, by rw [bX12_cut_37, if_pos (by omega), bX12_cut_158]; rfl, frS.refl h⟩
  | succ m ih =>
    intro c x h u6 h0 hm hL
    obtain ⟨h1, v6, a1, a2, a3⟩ := m_cut_it hI hφ hL sm room c (by omega) x u6
    obtain ⟨h', b1, b2⟩ := ih (c + 1) (updB (DCt φ sm room) x c) h1 v6 (by omega) (by omega) a2
    exact ⟨h', by rw [a1, b1]; rfl, a3.trans b2⟩
theorem o_cut {g : Hp} {n : Int} (hR : Rel g n) (hn : n < 1000) (sm room : Int) : Opk g n (EV 15 qX11_cut 0 [vR 0, vI sm, vI room, vU, vU, vU, vU] []) (EV 14 qX12_cut 0 [vR 86, vI sm, vI room, vU, vU, vU, vU] []) := by
  have c7 := hR.c7 (by omega)
  obtain ⟨p1, p2, p3⟩ := hR.p29
  have hI := hR.1.1
  have kI := KI_F hI
  have sV := SVd_F hI
  have h22 := hI.2.2.2.1
  by_cases ok : (0 ≤ sm ∧ sm ≤ pw2 (g 87 29) - 1) ∧ (0 ≤ room ∧ room ≤ 4)
  · obtain ⟨r, g1, a1, a2, a3, a4⟩ := c_stepsNow hI hR.1.2 sm room (by omega)
    have hDS := DS_le kI (SVd_ly kI.1 sV) sV sm room
    have hC1 : ClsF g1 1 (rg g 0) := hR.1.2.keep (fun a x1 x2 => a2 a (by omega) (by omega))
    have er : r = cl (DS (rg g 0) (stF (rg g 0)) sm room) := by
      rw [a3]
      unfold cl
      rcases hDS with z | z
      · rw [z, if_neg (by omega), if_pos rfl]
      · rw [if_pos (by omega), if_neg (by omega)]
    obtain ⟨g2, b1, b2⟩ := c_cut_loop hI sm room (by omega) (rg g 0 22).toNat 0 (DS (rg g 0) (stF (rg g 0)) sm room, -1) g1 vU (by omega) (by omega) hDS hC1
    have fr := a2.trans b2
    have e87 : g2 87 = g 87 := fr 87 (by omega) (by omega)
    have erg : rg g2 0 = rg g 0 := by unfold rg; rw [e87]
    obtain ⟨g3, l1, l2⟩ := m_layNow g2 (by rw [e87]; exact hR.h22.1) (by rw [e87]; exact p1)
    have mC := l2.modC (by rw [erg]; exact hI)
    have mN := l2.modN (by rw [erg]; exact hI)
    rw [erg, e87] at mC mN
    have e29 : g3 87 29 = g 87 29 := by rw [l2.S.1 87 (by omega) (by omega), e87]
    obtain ⟨g4, f1, f2, f3⟩ := m_stepsOf kI sV mC mN (SmR_full p1 e29 sm) room
    obtain ⟨g5, h1, h2⟩ := m_cut_loop hI erg sm room (rg g 0 22).toNat 0 (DS (rg g 0) (stF (rg g 0)) sm room, -1) g4 vU (by omega) (by omega) (l2.B.keep f3)
    refine Opk.ro hR (vI (updBN (DCt (rg g 0) sm room) (rg g 0 22).toNat 0 (DS (rg g 0) (stF (rg g 0)) sm room, -1)).2) ?_ ?_ fr ((l2.S.trans f3.S).trans h2)
    · rw [bX11_cut_0, c_areSome hF1 _ _ (by omega), bnd_some, p2]
      show EV 15 qX11_cut 8 _ [vI _] _ = _
      rw [bX11_cut_8, if_neg (b01_pos ok.1), bX11_cut_11, c_isRoom, bnd_some]
      show EV 15 qX11_cut 15 _ [vI _] _ = _
      rw [bX11_cut_15, if_neg (b01_pos ok.2), bX11_cut_25, a1, bnd_some]
      show EV 15 qX11_cut 31 _ [vI _] _ = _
      rw [bX11_cut_31, er]
      exact b1
    · rw [bX12_cut_0, m_areSome _ _ (by rw [e87]; exact p1), bnd_some, e87]
      show EV 14 qX12_cut 5 _ [vI _] _ = _
      rw [bX12_cut_5, if_neg (b01_pos ok.1), bX12_cut_8, e_isRoom, bnd_some]
      show EV 14 qX12_cut 12 _ [vI _] _ = _
      rw [bX12_cut_12, if_neg (b01_pos ok.2), bX12_cut_20, l1, bnd_some]
      show EV 14 qX12_cut 24 _ [] _ = _
      rw [bX12_cut_24, f1, bnd_some]
      show EV 14 qX12_cut 30 _ [vI _] _ = _
      rw [bX12_cut_30]
      exact h1
  · refine Opk.no hR (-2) (by omega) (vI (-2)) ?_ ?_
    · have fin : EV 15 qX11_cut 18 [vR 0, vI sm, vI room, vU, vU, vU, vU] [] g = some (some (vI (-2)), ctH g (-2)) := by
        rw [bX11_cut_18, c_counted _ _ c7, bnd_some]
        exact bX11_cut_24 _ _ _ _
      rw [bX11_cut_0, c_areSome hF1 _ _ (by omega), bnd_some, p2]
      show EV 15 qX11_cut 8 _ [vI _] _ = _
      rw [bX11_cut_8]
      by_cases o1 : 0 ≤ sm ∧ sm ≤ pw2 (g 87 29) - 1
      · rw [if_neg (b01_pos o1), bX11_cut_11, c_isRoom, bnd_some]
        show EV 15 qX11_cut 15 _ [vI _] _ = _
        rw [bX11_cut_15, if_pos (b01_neg (fun z => ok ⟨o1, z⟩)), fin]
      · rw [if_pos (b01_neg o1), fin]
    · have k87 : ctH g (-2) 87 = g 87 := ctH_86 (by omega)
      have fin : EV 14 qX12_cut 15 [vR 86, vI sm, vI room, vU, vU, vU, vU] [] (ctH g (-2)) = some (some (vI (-2)), metH (ctH g (-2)) (-2)) := by
        rw [bX12_cut_15, e_bad _ (hR.m9 (by omega) _), bnd_some]
        exact bX12_cut_19 _ _ _ _
      rw [bX12_cut_0, m_areSome _ _ (by rw [k87]; exact p1), bnd_some, k87]
      show EV 14 qX12_cut 5 _ [vI _] _ = _
      rw [bX12_cut_5]
      by_cases o1 : 0 ≤ sm ∧ sm ≤ pw2 (g 87 29) - 1
      · rw [if_neg (b01_pos o1), bX12_cut_8, e_isRoom, bnd_some]
        show EV 14 qX12_cut 12 _ [vI _] _ = _
        rw [bX12_cut_12, if_pos (b01_neg (fun z => ok ⟨o1, z⟩)), fin]
      · rw [if_pos (b01_neg o1), fin]
