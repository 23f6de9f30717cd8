/-! from the law's entry to its end -/
def gS (L : Nat) (xs : Nat → Int32) : Hp := fun a i => if a = 220 then (if i = 100000 then (L : Int) else (xs i.toNat).toInt) else if a = 210 then numZ i else 0
theorem gS_z (L : Nat) (xs : Nat → Int32) : ∀ a : Nat, a < 102 → gS L xs a = fun _ => 0 := by
  intro a ha
  funext i
  unfold gS
  rw [if_neg (by omega), if_neg (by omega)]
theorem gS_210 (L : Nat) (xs : Nat → Int32) : gS L xs 210 = numZ := by
  funext i
  unfold gS
  rw [if_neg (by decide), if_pos rfl]
theorem gS_len (L : Nat) (xs : Nat → Int32) : gS L xs 220 100000 = (L : Int) := by
  unfold gS
  rw [if_pos rfl, if_pos rfl]
theorem gS_at (L : Nat) (xs : Nat → Int32) {j : Nat} (h : j < 100000) : gS L xs 220 (j : Int) = (xs j).toInt := by
  unfold gS
  rw [if_pos rfl, if_neg (by omega)]
  rfl
theorem ir_lr {x : Int} (h : ir x) : lr x := ⟨by have := h.1; omega, by have := h.2; omega⟩
theorem numZ_ir (i : Int) : ir (numZ i) := by
  unfold numZ
  split
  · decide
  · decide
theorem gS_ok {L : Nat} (hL : L ≤ 2560) (xs : Nat → Int32) : okH (gS L xs) := by
  have key : ∀ a i, ir (gS L xs a i) := by
    intro a i
    unfold gS
    split
    · split
      · exact ⟨by omega, by omega⟩
      · exact ir_of _
    · split
      · exact numZ_ir i
      · decide
  exact fun a i => ⟨fun _ => ir_lr (key a i), fun _ => key a i⟩
theorem gS_N (L : Nat) (xs : Nat → Int32) : N210 (gS L xs) := by
  unfold N210
  rw [gS_210]
  decide
set_option maxHeartbeats 4000000 in
set_option maxRecDepth 100000 in
/-- where the script is read: out of the shadow's run -/
theorem whole_16 {p : Program} {e : Env} {s : State} {m : MethodId} {below : List Frame} {meth : Method} {c : Code} (l : Launch) {b L : Nat} {xs : Nat → Int32} (hL : L ≤ 2560) (C0 : lw_At p s m meth c b L xs) {dC : Nat → ClassId} {dI : Nat → Nat → Nat} {u : Nat → uT} {v : uT} {H : Heap} {locs : List Loc} {cells slots : Nat} {ls : Array Slot} (hc : cells ≤ 600000) (hsl : slots ≤ 7302250)
    (hK : va_K (dC, dI) vwCl (tz (cAL u v)) s) (hP : va_P (dC, dI) vwCl (mbW u ++ wX12 v) H) (hD : va_D (fun q : Nat => s.heap.size ≤ q) (mbW u ++ wX12 v)) (hS : va_S (fun q : Nat => s.heap.size ≤ q) s.heap H locs) (hl : lv_has ls 4 [(2, .ref (v.1 0)), (1, .ref ((u 4).1 0)), (0, .ref b)]) :
    W p l e room_1 s m #[Value.ref b] below meth c H locs cells slots (lw_Z below #[Value.ref b] s) (F0 m 16 ls []) := by
  obtain ⟨hx, hb, hr, hml, hown, hts, hX, hbl, hlocks, hgv⟩ := id C0
  have hs := flat_of_before _ hgv
  have hA0 : ∀ a : Nat, a < s.heap.size → ¬ (fun q : Nat => s.heap.size ≤ q) a := fun a h => Nat.not_le.mpr h
  obtain ⟨nb, hZn, hTn⟩ := st_num (A := fun q : Nat => s.heap.size ≤ q) hts hs hA0
  obtain ⟨adK, adV, hSt, hRf, hZ1, hZ2⟩ := st_str (A := fun q : Nat => s.heap.size ≤ q) hts hs hA0
  obtain ⟨hP, hD⟩ := w_turn (fz := fun k => if k = 220 then b else if k = 210 then nb else adK (k - 200)) hP hD
  obtain ⟨ad, had⟩ : ∃ ad : Nat → Nat, ad = adL u v (fun k => if k = 220 then b else if k = 210 then nb else adK (k - 200)) := ⟨_, rfl⟩
  rw [← had] at hP hD
  have e220 : ad 220 = b := by rw [had]; rfl
  have e210 : ad 210 = nb := by rw [had]; rfl
  have e0 : ad 0 = (u 4).1 0 := by rw [had]; rfl
  have e86 : ad 86 = v.1 0 := by rw [had]; rfl
  have eS : ∀ i, i < 5 → ad (200 + i) = adK i := by
    intro i hi
    rw [had]
    rcases (show i = 0 ∨ i = 1 ∨ i = 2 ∨ i = 3 ∨ i = 4 by omega) with rfl | rfl | rfl | rfl | rfl <;> rfl
  clear had
  generalize cAL u v = cA at hK hP hD
  have hz := gS_z L xs
  rw [← wl_eq hz] at hP hD
  have hinj : ∀ i j, i < cNum → j < cNum → ad i = ad j → i = j := fun i j hi hj h => hD.1 i j _ _ (wl_get ad cA (gS L xs) hi) (wl_get ad cA (gS L xs) hj) h
  have hAB : ∀ q, ShA ad q → s.heap.size ≤ q := by
    rintro q ⟨k, hk, rfl⟩
    exact hD.2 k _ (wl_get ad cA (gS L xs) hk)
  have hSt' : vk_S 5 lenS bytS (fun i => ad (200 + i)) adV (fun q : Nat => s.heap.size ≤ q) s s.heap := by
    refine ⟨fun i hi => ?_, fun i j hi hj h => hSt.2 i j hi hj (by rw [← eS i hi, ← eS j hj]; exact h)⟩
    have := hSt.1 i hi
    rw [← eS i hi] at this
    exact this
  have hX' : va_X (ad 220) (gS L xs 220 100000).toNat (fun i => Int32.ofInt (gS L xs 220 i)) s s.heap := by
    obtain ⟨scr, h1, h2, h3, h4, h5⟩ := hX
    refine ⟨scr, by rw [e220]; exact h1, h2, h3, by rw [gS_len, h4]; rfl, fun j hj => ?_⟩
    rw [gS_len] at hj
    have hj : j < L := hj
    rw [h5 j hj]
    show some (Value.int (xs j)) = some (Value.int (Int32.ofInt (gS L xs 220 (j : Int))))
    rw [gS_at L xs (by omega), o32]
  have hShK : ShK cA dC dI s := ⟨hK.sub (tys' := []) [] rfl, fun k hk h => by
    obtain ⟨i, hi⟩ := List.getElem?_of_mem (tz_in (cA := cA) hk h)
    exact hK.2 i _ hi, st_nest hts⟩
  have hRf' : ∀ q ∈ gTb, vk_R (oNm q.1) q.2.1 (sNm q.2.2) (ad q.2.2) s := by
    intro q hq
    have h1 := hRf q hq
    have h2 : 200 ≤ q.2.2 ∧ q.2.2 < 205 := (show ∀ q ∈ gTb, 200 ≤ q.2.2 ∧ q.2.2 < 205 by decide) q hq
    have h3 := eS (q.2.2 - 200) (by omega)
    rw [show 200 + (q.2.2 - 200) = q.2.2 by omega] at h3
    rw [h3]
    exact h1
  have hShF : ShF ad (gS L xs 210) (gS L xs 220) (SxA ad adV) s := by
    refine ⟨by rw [e210]; exact hZn.narrow hAB, by rw [e210, gS_210]; exact hTn.narrow hAB, hX', by rw [e220]; exact hbl, by rw [e220]; exact fun h => hA0 b hbl (hAB b h), hRf', hSt'.narrow hAB, hZ1.narrow hAB, hZ2.narrow hAB⟩
  obtain ⟨g', hE⟩ := law_ok hz (gS_ok hL xs) (gS_N L xs) (by rw [gS_len]; omega)
  obtain ⟨n, hn⟩ := EV_iff.mp hE
  have hown : s.vm.findClass RL = some m.cls := hown
  have hF : FrC p room_1 s m #[Value.ref b] c qL_law 60 600000 7302250 := ⟨hx, hb, hml, hown, fun w hw => hts w (good_in_tbl hw), ⟨by decide, Nat.le_of_ble_eq_true rfl⟩, Nat.le_of_ble_eq_true rfl, Nat.le_of_ble_eq_true rfl, Nat.le_of_ble_eq_true rfl⟩
  have hl' : lv_has ls 4 (lvl ad [vR 220, vR 0, vR 86, vU]) := by
    rw [show lvl ad [vR 220, vR 0, vR 86, vU] = [(0, .ref (ad 220)), (1, .ref (ad 0)), (2, .ref (ad 86))] from rfl, e220, e0, e86]
    exact lv_sub hl [2, 1, 0] rfl
  refine W.widen (k := 600000) (n := 7302250) hc hsl ?_
  refine va_forget (fun q hq => hS.2.2 q hq) ?_
  refine snd (cA := cA) (dC := dC) (dI := dI) hinj (SxA_mv ad adV) (strLen ad adV) (strAt ad adV) n 60 qL_law 16 [vR 220, vR 0, vR 86, vU] [] (gS L xs) (some (vI 1)) g' hn p l e room_1 s m #[Value.ref b] below meth c H [] 600000 7302250 _ ls hF hShK hShF hP (gS_ok hL xs) rfl rfl ⟨hS.1, fun q h1 _ => hS.2.1 q h1 (hA0 q h1), fun _ h => absurd h List.not_mem_nil⟩ hl' rfl (fun v hv => ?_) (fun v hv => absurd hv List.not_mem_nil) (fun pc' H' locs' ra' hret hP' _ _ _ hS' _ => ?_)
  · simp only [List.mem_cons, List.not_mem_nil, or_false] at hv
    rcases hv with rfl | rfl | rfl | rfl <;> trivial
  · obtain ⟨ins, len, hd, hln, hrx⟩ := hret
    refine va_forget (fun q hq => hAB _ (hS'.2.2 q hq)) ?_
    cases ins with
    | ireturn =>
      have e1 : len = 1 := eq_of_beq (show (len == 1) = true from hln)
      subst e1
      exact lw_ret hx hb hr hlocks hd
    | return_ => simp [rx] at hrx
    | lreturn => simp [rx] at hrx
    | _ => simp [rx] at hrx
set_option maxHeartbeats 4000000 in
set_option maxRecDepth 100000 in
/-- from the entry, for every script of at most 2560 ints, the law comes to its end with true -/
theorem whole_start {p : Program} {e : Env} {s : State} {m : MethodId} {below : List Frame} {meth : Method} {c : Code} (l : Launch) {b L : Nat} {xs : Nat → Int32} (hL : L ≤ 2560) (C0 : lw_At p s m meth c b L xs) : W p l e room_1 s m #[Value.ref b] below meth c s.heap [] 0 0 (lw_Z below #[Value.ref b] s) (entryFrame m ([Value.ref b] : List Value).toArray 4) := by
  obtain ⟨hx, hb, hr, hml, hown, hts, hX, hbl, hlocks, hgv⟩ := id C0
  have hown : s.vm.findClass RL = some m.cls := hown
  have hA : ∀ q : Nat, s.heap.size ≤ q → (fun q : Nat => s.heap.size ≤ q) q := fun _ h => h
  obtain ⟨dC, dI, hK⟩ := st_K hts
  have hNQ := st_NQ hts
  have hS : va_S (fun q : Nat => s.heap.size ≤ q) s.heap s.heap [] := va_S.rf
  have hP : va_P (dC, dI) vwCl [] s.heap := fun k q h => by simp at h
  have hD : va_D (fun q : Nat => s.heap.size ≤ q) [] := ⟨fun i j p q h => by simp at h, fun k q h => by simp at h⟩
  have hl := lv_entry ([.ref b]) (n := 4) (Nat.le_of_ble_eq_true rfl)
  rw [lg_entry_eq]
  generalize (lg_sl ([.ref b]) ++ List.replicate (4 - (lg_sl ([.ref b])).length) Slot.unset).toArray = ls at hl ⊢
  have hl : lv_has ls 4 [(0, .ref b)] := hl
  have hc11 : Cond.code yX11_init cX11_init 1 none ∈ lw_good := inG (by decide +kernel) (by decide +kernel)
  have hG11 : GoodIn lw_tbl (ctWs yX11_init cX11_init) := fun w hw => ⟨good_in_tbl (ctWs_good hc11 w hw).1, (ctWs_good hc11 w hw).2⟩
  have ga11 := hts (.classLink RL 7 RX11) (by decide +kernel)
  have gb11 := hts (.instantiable RX11 10) (by decide +kernel)
  have gc11 := hts (.initialized RX11) (by decide +kernel)
  have gd11 := hts (.methodLink RL 9 yX11_init) (by decide +kernel)
  have ge11 := hts (.instanceMethod yX11_init) (by decide +kernel)
  refine ct_obj (ci := 11) (C := RX11) (T := TX11) (N := 10) (Ts := lw_tbl) (fs0 := [.null, .null, .null, .null, .null, .null, .null, .int 0, .int 0, .int 0]) (mc := 85) (ms := 10004) (post := fun h0 (u : Nat → uT) => (u 4).1 0 = h0) (w1 := fun _ u => mbW u) (t1 := fun u => mbT u) (pre := []) tyX11 hx hb hown hts (fun w hw => good_in_tbl (uw_X11' w hw)) tyX11_ok ga11 gb11 gc11 hNQ hK hP hD hS hA rfl (fun j hj => by rcases (show j = 0 ∨ j = 1 ∨ j = 2 ∨ j = 3 ∨ j = 4 ∨ j = 5 ∨ j = 6 ∨ j = 7 ∨ j = 8 ∨ j = 9 by omega) with rfl | rfl | rfl | rfl | rfl | rfl | rfl | rfl | rfl | rfl <;> rfl) (Nat.le_of_ble_eq_true rfl) (Nat.le_of_ble_eq_true rfl) dL_law_0 dL_law_3 (fun q H1 locs1 hpre => va_runI (As := []) (rest := [.ref q]) (g := F0 m 4 ls [.ref q, .ref q]) ⟨hx, hb, hml, hown, hts⟩ (k_X11 l dC dI q H1.size) (cwI 0 hts hG11 rfl rfl rfl gc11 gd11 ge11 rfl (by decide +kernel) ⟨Nat.le_of_ble_eq_true rfl, Nat.le_of_ble_eq_true rfl⟩) hpre rfl rfl hl.1 rfl (lv_room (Nat.le_of_ble_eq_true rfl)) dL_law_4 ⟨Nat.le_of_ble_eq_true rfl, Nat.le_of_ble_eq_true rfl⟩) (fun q1 u H locs hu hK hP hD hS => ?_)
  subst hu
  rw [List.nil_append] at hP hD hK
  refine lv_astore_n (lv' := [(1, .ref ((u 4).1 0)), (0, .ref b)]) hx hb dL_law_7 rfl hl (by decide) rfl (fun ls hl => ?_)
  have hc12 : Cond.code yX12_init cX12_init 1 none ∈ lw_good := inG (by decide +kernel) (by decide +kernel)
  have hG12 : GoodIn lw_tbl (ctWs yX12_init cX12_init) := fun w hw => ⟨good_in_tbl (ctWs_good hc12 w hw).1, (ctWs_good hc12 w hw).2⟩
  have ga12 := hts (.classLink RL 10 RX12) (by decide +kernel)
  have gb12 := hts (.instantiable RX12 24) (by decide +kernel)
  have gc12 := hts (.initialized RX12) (by decide +kernel)
  have gd12 := hts (.methodLink RL 12 yX12_init) (by decide +kernel)
  have ge12 := hts (.instanceMethod yX12_init) (by decide +kernel)
  refine ct_obj (ci := 12) (C := RX12) (T := TX12) (N := 24) (Ts := lw_tbl) (fs0 := [.null, .null, .null, .int 0, .null, .null, .int 0, .null, .null, .null, .int 0, .null, .int 0, .null, .null, .int 0, .int 0, .int 0, .null, .null, .int 0, .null, .null, .long 0]) (mc := 15) (ms := 85302) (post := fun h0 (u : uT) => u.1 0 = h0) (w1 := fun _ u => wX12 u) (t1 := fun u => tX12 u) (pre := mbW u) tyX12 hx hb hown hts (fun w hw => good_in_tbl (uw_X12' w hw)) tyX12_ok ga12 gb12 gc12 hNQ hK hP hD hS hA rfl (fun j hj => by rcases (show j = 0 ∨ j = 1 ∨ j = 2 ∨ j = 3 ∨ j = 4 ∨ j = 5 ∨ j = 6 ∨ j = 7 ∨ j = 8 ∨ j = 9 ∨ j = 10 ∨ j = 11 ∨ j = 12 ∨ j = 13 ∨ j = 14 ∨ j = 15 ∨ j = 16 ∨ j = 17 ∨ j = 18 ∨ j = 19 ∨ j = 20 ∨ j = 21 ∨ j = 22 ∨ j = 23 by omega) with rfl | rfl | rfl | rfl | rfl | rfl | rfl | rfl | rfl | rfl | rfl | rfl | rfl | rfl | rfl | rfl | rfl | rfl | rfl | rfl | rfl | rfl | rfl | rfl <;> rfl) (Nat.le_of_ble_eq_true rfl) (Nat.le_of_ble_eq_true rfl) dL_law_8 dL_law_11 (fun q H1 locs1 hpre => va_runI (As := []) (rest := [.ref q]) (g := F0 m 12 ls [.ref q, .ref q]) ⟨hx, hb, hml, hown, hts⟩ (k_X12 l dC dI q H1.size) (cwI 0 hts hG12 rfl rfl rfl gc12 gd12 ge12 rfl (by decide +kernel) ⟨Nat.le_of_ble_eq_true rfl, Nat.le_of_ble_eq_true rfl⟩) hpre rfl rfl hl.1 rfl (lv_room (Nat.le_of_ble_eq_true rfl)) dL_law_12 ⟨Nat.le_of_ble_eq_true rfl, Nat.le_of_ble_eq_true rfl⟩) (fun q2 v H locs hv hK hP hD hS => ?_)
  subst hv
  refine lv_astore_n (lv' := [(2, .ref (v.1 0)), (1, .ref ((u 4).1 0)), (0, .ref b)]) hx hb dL_law_15 rfl hl (by decide) rfl (fun ls hl => ?_)
  exact whole_16 l hL C0 (Nat.le_of_ble_eq_true rfl) (Nat.le_of_ble_eq_true rfl) hK hP hD hS hl
