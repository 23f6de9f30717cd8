section SW
variable {ad : Nat → Nat} {cA dC : Nat → ClassId} {dI : Nat → Nat → Nat} {n0 x0 : Int → Int} {Sx : State → Prop}
theorem cGo_spec {d : Nat} {q q' : MI} {a r a' r' : List SV} {d' : Nat} (h : cGo d q a r = some (q', d', a', r')) : q' = q ∧ a' = a ∧ r' = r ∧ d' = rkA q a ∧ (8 ≤ d' ∧ d' < d) ∧ (mkA a).length ≤ q.2.1 ∧ (r.map cat).sum ≤ 8 := by
  unfold cGo at h
  split at h
  · rename_i hc
    cases h
    exact ⟨rfl, rfl, rfl, rfl, hc.1, hc.2.1, hc.2.2⟩
  · cases h
theorem stk_take (ad : Nat → Nat) (st : List SV) (n : Nat) : st.map (rv ad) = ((st.take n).reverse.map (rv ad)).reverse ++ (st.drop n).map (rv ad) := by
  rw [← List.map_reverse, List.reverse_reverse, ← List.map_append, List.take_append_drop]
theorem stk_recv (ad : Nat → Nat) {st : List SV} {n a : Nat} (h : st[n]? = some (.inr (.inr (.inl a)))) : st.map (rv ad) = ((st.take n).reverse.map (rv ad)).reverse ++ .ref (ad a) :: (st.drop (n + 1)).map (rv ad) := by
  rw [← List.map_reverse, List.reverse_reverse]
  have hl := (List.getElem?_eq_some_iff.mp h).1
  have he := (List.getElem?_eq_some_iff.mp h).2
  have : st = st.take n ++ (.inr (.inr (.inl a)) :: st.drop (n + 1)) := by
    rw [← he, ← List.drop_eq_getElem_cons hl, List.take_append_drop]
  conv => lhs; rw [this]
  rw [List.map_append]
  rfl
theorem plain_kind {C : Nat} (h : C < 13) : ∃ T N, vwCl[C]? = some ((clN C).1, T, N) := ⟨(clN C).2.1, (clN C).2.2, clN_get h⟩
set_option maxHeartbeats 8000000 in
theorem snd_call (hinj : ∀ i j, i < cNum → j < cNum → ad i = ad j → i = j) (hSx : SxMv ad Sx) {n : Nat} (ih : SndAt ad cA dC dI n0 x0 Sx n) {d : Nat} {q : MI} {pc : Nat} {st : List SV} {g : Hp} {ins : ClassFile.Instr} {len : Nat} {q' : MI} {d' : Nat} {a rest : List SV} {r : Option SV} {g' : Hp}
    (hcx : cx d q.1 st ins = some (q', d', a, rest)) (hrun : shRun n d' q' 0 (mkL q'.2.1 a) [] g = some (r, g')) {p : Program} {l : Launch} {e : Env} {R : Room} {s : State} {m : MethodId} {args : Array Value} {below : List Frame} {meth : Method} {c : Code} {H : Heap} {locs : List Loc} {cells slots : Nat} {Q : State → Prop} {ra : Array Slot}
    (hF : FrC p R s m args c q d cells slots) (hK : ShK cA dC dI s) (hZ : ShF ad n0 x0 Sx s) (hP : va_P (dC, dI) vwCl (wl ad cA g) H) (hg : okH g) (h210 : g 210 = n0) (h220 : g 220 = x0) (hS : va_S (ShA ad) s.heap H locs) (hl : ra.size = q.2.1) (hst : ∀ v ∈ st, okV v) (hd : decode q.2.2.2.1 pc = .ok (ins, len)) (hln : lnOk ins len = true)
    (kk : ∀ (H1 : Heap) (locs1 : List Loc), va_P (dC, dI) vwCl (wl ad cA g') H1 → va_S (ShA ad) s.heap H1 locs1 → W p l e R s m args below meth c H1 locs1 cells slots Q (F0 m (pc + 3) ra ((r.map (rv ad)).toList ++ rest.map (rv ad)))) : W p l e R s m args below meth c H locs cells slots Q (F0 m pc ra (st.map (rv ad))) := by
  obtain ⟨hx, hb, hml, hown, hts, hfr, hlo, hce, hsl⟩ := hF
  have hCF : CallFix p m c q.2.2.2.1 q.2.1 s args lw_good (oNm q.1) := ⟨hx, hb, hml, hown, hts⟩
  have hpre : ∀ As : List SV, ∀ U : State, U.heap = H → s.WarmedH U.vm → ShPc ad cA dC dI n0 x0 Sx As g (As.map (rv ad)).toArray U := fun As U hU hW => ⟨rfl, ShK.warm hW hK, ShF.warm hSx hW (by rw [hU]; exact hS.1) (fun q h1 h2 => by rw [hU]; exact hS.2.1 q h1 h2) hZ, by rw [hU]; exact hP⟩
  have hroom : ∀ (mx : Nat), mx ≤ 20 → d' < d → (shRm d').frames + 1 ≤ R.frames ∧ 8 + (mx + 11) + (shRm d').locals ≤ R.locals := fun mx h1 h2 => ⟨by show d' + 1 ≤ R.frames; omega, by show 8 + (mx + 11) + 40 * d' ≤ R.locals; omega⟩
  cases ins with
  | invokestatic k =>
    have e1 : len = 3 := eq_of_beq (show (len == 3) = true from hln)
    subst e1
    simp only [cx] at hcx
    split at hcx
    · rename_i kd nn hct
      split at hcx
      · rename_i hkd
        split at hcx
        · rename_i kd' n' q0 hst'
          split at hcx
          · rename_i hc
            obtain ⟨⟨rfl, rfl⟩, hlen⟩ := hc
            obtain ⟨rfl, rfl, rfl, rfl, hd8, hml0, hsum⟩ := cGo_spec hcx
            obtain ⟨f1, f2, f3, f4, f5, f6, f7, f8, f9, f10, f11⟩ := sTab_facts hst'
            have haok : ∀ v ∈ (st.take n').reverse, okV v := fun v hv => hst v (List.mem_of_mem_take (List.mem_reverse.mp hv))
            have hM := met_of ih hrun f5 f4 hd8.1 hml0 hg h210 h220 haok l
            have hn : ((st.take n').reverse.map (rv ad)).length = n' := by simp; omega
            rw [stk_take ad st n']
            rcases hkd with rfl | rfl
            · have w1 : Cond.methodLink (oNm q.1) k q'.2.2.2.2.1 ∈ lw_good := f1 _ (by simp [cWs])
              have w2 : Cond.static q'.2.2.2.2.1 ∈ lw_good := f1 _ (by simp [cWs])
              have w3 : Cond.initialized q'.2.2.2.2.1.cls ∈ lw_good := f1 _ (by simp [cWs])
              have w4 : Cond.code q'.2.2.2.2.1 q'.2.2.2.1 q'.2.1 q'.2.2.2.2.2 ∈ lw_good := f1 _ (by simp [cWs])
              have g1 := hts _ w1
              have g2 := hts _ w2
              have g3 := hts _ w3
              have hcb := callB_of (R := R) n' hts (shWs_good w4) rfl (rm := shRm (rkA q' (st.take n').reverse)) rfl rfl g3 g1 ⟨f2.1, f2.2, f3⟩ (hroom _ f6 hd8.2)
              exact call_go (va_runS hCF hM ⟨hcb, g2⟩ ⟨ShPc.blind hSx, hpre _⟩ rfl hn hl rfl (lv_room (by rw [rv_sum]; exact hsum)) hd ⟨hce, hsl⟩) hS kk
            · have w2 : Cond.static q'.2.2.2.2.1 ∈ lw_good := f1 _ (by simp [cWs])
              have w3 : Cond.initialized q'.2.2.2.2.1.cls ∈ lw_good := f1 _ (by simp [cWs])
              have w4 : Cond.code q'.2.2.2.2.1 q'.2.2.2.1 q'.2.1 q'.2.2.2.2.2 ∈ lw_good := f1 _ (by simp [cWs])
              have g2 := hts _ w2
              have g3 := hts _ w3
              have hnl := hK.2.2 _ (f10 rfl)
              have hcb := va_cnB (R := R) (args := args) n' hts (shWs_good w4) rfl (rm := shRm (rkA q' (st.take n').reverse)) rfl rfl hnl g3 ⟨f2.1, f2.2, f3⟩ (hroom _ f6 hd8.2)
              exact call_go (va_runSN hCF hM ⟨hcb, g2, trivial⟩ ⟨ShPc.blind hSx, hpre _⟩ rfl hn hl rfl (lv_room (by rw [rv_sum]; exact hsum)) hd ⟨hce, hsl⟩) hS kk
          · cases hcx
        · cases hcx
      · cases hcx
    · cases hcx
  | invokevirtual k =>
    have e1 : len = 3 := eq_of_beq (show (len == 3) = true from hln)
    subst e1
    simp only [cx] at hcx
    split at hcx
    · rename_i kd nn hct
      split at hcx
      · rename_i hkd
        split at hcx
        · rename_i b hrec
          split at hcx
          · rename_i kd' n' q0 hst'
            split at hcx
            · rename_i hc
              obtain ⟨rfl, rfl⟩ := hc
              obtain ⟨rfl, rfl, rfl, rfl, hd8, hml0, hsum⟩ := cGo_spec hcx
              obtain ⟨f1, f2, f3, f4, f5, f6, f7, f8, f9, f10, f11⟩ := sTab_facts hst'
              have haok : ∀ v ∈ (Sum.inr (Sum.inr (Sum.inl b)) : SV) :: (st.take n').reverse, okV v := ok_c trivial (fun v hv => hst v (List.mem_of_mem_take (List.mem_reverse.mp hv)))
              have hM := met_of ih hrun f5 f4 hd8.1 hml0 hg h210 h220 haok l
              have hlen := (List.getElem?_eq_some_iff.mp hrec).1
              have hn : ((st.take n').reverse.map (rv ad)).length = n' := by simp; omega
              rw [stk_recv ad hrec]
              rcases hkd with rfl | rfl
              · obtain ⟨f8a, f8b, f8c⟩ := f8 rfl
                have hbc : b < cNum := cK_lt (by omega)
                have hrv : ∃ cellB : Cell, H[ad b]? = some cellB ∧ cellB.vm.isStatics = false ∧ s.vm.findClass (oNm (cK b)) = some cellB.cls := by
                  have := va_recv hK.1 hP (q0 := b) (ci := cK b) (clN_get f8b) (by rw [wl_get ad cA g hbc, ent_o rfl f8b])
                  rw [f8c]
                  exact this
                have w1 : Cond.methodLink (oNm q.1) k q'.2.2.2.2.1 ∈ lw_good := f1 _ (by simp [cWs])
                have w2 : Cond.instanceMethod q'.2.2.2.2.1 ∈ lw_good := f1 _ (by simp [cWs])
                have w2b : Cond.selects (oNm (cK b)) q'.2.2.2.2.1 q'.2.2.2.2.1 ∈ lw_good := f1 _ (by simp [cWs])
                have w3 : Cond.initialized q'.2.2.2.2.1.cls ∈ lw_good := f1 _ (by simp [cWs])
                have w4 : Cond.code q'.2.2.2.2.1 q'.2.2.2.1 q'.2.1 q'.2.2.2.2.2 ∈ lw_good := f1 _ (by simp [cWs])
                have g1 := hts _ w1
                have g2 := hts _ w2
                have g2b := hts _ w2b
                have g3 := hts _ w3
                have hcb := callB_of (R := R) n' hts (shWs_good w4) rfl (rm := shRm (rkA q' (.inr (.inr (.inl b)) :: (st.take n').reverse))) rfl rfl g3 g1 ⟨f2.1, f2.2, f3⟩ (hroom _ f6 hd8.2)
                exact call_go (va_runV (C := oNm (cK b)) hCF hM ⟨hcb, g2, g2b⟩ ⟨ShPc.blind hSx, hrv, hpre (.inr (.inr (.inl b)) :: (st.take n').reverse)⟩ rfl hn hl rfl (lv_room (by rw [rv_sum]; exact hsum)) hd ⟨hce, hsl⟩) hS kk
              · obtain ⟨f9b, f9c⟩ := f9 rfl
                have hbc : b < cNum := cK_lt (by omega)
                have hrv : ∃ cellB : Cell, H[ad b]? = some cellB ∧ cellB.vm.isStatics = false ∧ s.vm.findClass (oNm (cK b)) = some cellB.cls := by
                  have := va_recv hK.1 hP (q0 := b) (ci := cK b) (clN_get f9b) (by rw [wl_get ad cA g hbc, ent_o rfl f9b])
                  rw [f9c]
                  exact this
                have w1 : Cond.methodLink (oNm q.1) k (xNm q'.2.2.2.2.1) ∈ lw_good := f1 _ (by simp [cWs])
                have w1b : Cond.sameMethod RX7 RX7 q'.2.2.2.2.1.name q'.2.2.2.2.1.desc ∈ lw_good := f1 _ (by simp [cWs])
                have w1c : Cond.instanceMethod (xNm q'.2.2.2.2.1) ∈ lw_good := f1 _ (by simp [cWs])
                have w2 : Cond.instanceMethod q'.2.2.2.2.1 ∈ lw_good := f1 _ (by simp [cWs])
                have w2b : Cond.selects (oNm (cK b)) (xNm q'.2.2.2.2.1) q'.2.2.2.2.1 ∈ lw_good := f1 _ (by simp [cWs])
                have w3 : Cond.initialized q'.2.2.2.2.1.cls ∈ lw_good := f1 _ (by simp [cWs])
                have w4 : Cond.code q'.2.2.2.2.1 q'.2.2.2.1 q'.2.1 q'.2.2.2.2.2 ∈ lw_good := f1 _ (by simp [cWs])
                have w5 : xCd q'.2.2.2.2.1 ∈ lw_good := f1 _ (by simp [cWs])
                have g1 := hts _ w1
                have g1b := hts _ w1b
                have g1c := hts _ w1c
                have g2 := hts _ w2
                have g2b := hts _ w2b
                have g3 := hts _ w3
                have g4 := hts _ w4
                have g5 := hts _ w5
                have hdec : va_Decl s (xNm q'.2.2.2.2.1) := by
                  unfold xCd at g5
                  split at g5
                  · exact va_Decl.of g1c g5
                  · split at g5
                    · exact va_Decl.of g1c g5
                    · exact va_Decl.of g1c g5
                have hG := shWs_good w4
                have hrm := hroom _ f6 hd8.2
                have hcu : va_CU R s args (oNm q.1) (oNm (cK b)) RX7 k (xNm q'.2.2.2.2.1) q'.2.2.2.2.1 q'.2.2.2.1 q'.2.1 q'.2.2.2.2.2 (shWs q') (shRm (rkA q' (.inr (.inr (.inl b)) :: (st.take n').reverse))) 0 0 n' := by
                  refine ⟨⟨rfl, rfl, hrm.1, hrm.2, pay_in hts hG, List.mem_cons_self⟩, g4, g3, ⟨by decide, by decide⟩, fun sig h => ?_, g1, g1b, hdec, g2b, g2⟩
                  have h2 := f3
                  have h3 : parseMethodDescriptor q'.2.2.2.2.1.desc = some sig := h
                  rw [h3] at h2
                  exact (Option.some.inj h2).symm
                exact call_go (va_runU (C := oNm (cK b)) hCF hM hcu ⟨ShPc.blind hSx, hrv, hpre (.inr (.inr (.inl b)) :: (st.take n').reverse)⟩ rfl hn hl rfl (lv_room (by rw [rv_sum]; exact hsum)) hd ⟨hce, hsl⟩) hS kk
            · cases hcx
          · cases hcx
        · cases hcx
      · cases hcx
    · cases hcx
  | invokespecial k =>
    have e1 : len = 3 := eq_of_beq (show (len == 3) = true from hln)
    subst e1
    simp only [cx] at hcx
    split at hcx
    · rename_i kd nn hct
      split at hcx
      · rename_i hkd
        subst hkd
        split at hcx
        · rename_i b hrec
          split at hcx
          · rename_i kd' n' q0 hst'
            split at hcx
            · rename_i hc
              obtain ⟨⟨rfl, rfl⟩, hbo⟩ := hc
              obtain ⟨rfl, rfl, rfl, rfl, hd8, hml0, hsum⟩ := cGo_spec hcx
              obtain ⟨f1, f2, f3, f4, f5, f6, f7, f8, f9, f10, f11⟩ := sTab_facts hst'
              obtain ⟨f11b, f11c⟩ := f11 rfl
              have haok : ∀ v ∈ (Sum.inr (Sum.inr (Sum.inl b)) : SV) :: (st.take n').reverse, okV v := ok_c trivial (fun v hv => hst v (List.mem_of_mem_take (List.mem_reverse.mp hv)))
              have hM := met_of ih hrun f5 f4 hd8.1 hml0 hg h210 h220 haok l
              have hlen := (List.getElem?_eq_some_iff.mp hrec).1
              have hn : ((st.take n').reverse.map (rv ad)).length = n' := by simp; omega
              rw [stk_recv ad hrec]
              have hbc : b < cNum := cK_lt (by omega)
              have hrv : ∃ cellB : Cell, H[ad b]? = some cellB ∧ cellB.vm.isStatics = false ∧ s.vm.findClass (clN q.1).1 = some cellB.cls :=
                va_recv hK.1 hP (q0 := b) (ci := q.1) (clN_get f11b) (by rw [wl_get ad cA g hbc, ent_o hbo f11b])
              have w1 : Cond.methodLink (oNm q.1) k q'.2.2.2.2.1 ∈ lw_good := f1 _ (by simp [cWs])
              have w1b : Cond.sameMethod q'.2.2.2.2.1.cls q'.2.2.2.2.1.cls q'.2.2.2.2.1.name q'.2.2.2.2.1.desc ∈ lw_good := f1 _ (by simp [cWs])
              have w1c : Cond.superclass (oNm q.1) q'.2.2.2.2.1.cls ∈ lw_good := f1 _ (by simp [cWs])
              have w2 : Cond.instanceMethod q'.2.2.2.2.1 ∈ lw_good := f1 _ (by simp [cWs])
              have w3 : Cond.initialized q'.2.2.2.2.1.cls ∈ lw_good := f1 _ (by simp [cWs])
              have w4 : Cond.code q'.2.2.2.2.1 q'.2.2.2.1 q'.2.1 q'.2.2.2.2.2 ∈ lw_good := f1 _ (by simp [cWs])
              have g1 := hts _ w1
              have g1b := hts _ w1b
              have g1c := hts _ w1c
              have g2 := hts _ w2
              have g3 := hts _ w3
              have g4 := hts _ w4
              have hG := shWs_good w4
              have hrm := hroom _ f6 hd8.2
              have hcs : va_CS R s args (oNm q.1) k q'.2.2.2.2.1 q'.2.2.2.1 q'.2.1 q'.2.2.2.2.2 (shWs q') (shRm (rkA q' (.inr (.inr (.inl b)) :: (st.take n').reverse))) 0 0 n' := by
                refine ⟨⟨rfl, rfl, hrm.1, hrm.2, pay_in hts hG, List.mem_cons_self⟩, g1, g1b, g1c, g2, g3, g4, f7, fun sig h => ?_⟩
                have h2 := f3
                rw [h] at h2
                exact (Option.some.inj h2).symm
              have hat : ClassAt s (clN q.1).1 (dC q.1) := (hK.1.1 q.1 _ (clN_get f11b)).2
              exact call_go (va_runSU (C := (clN q.1).1) hat hCF hM hcs ⟨ShPc.blind hSx, hrv, hpre (.inr (.inr (.inl b)) :: (st.take n').reverse)⟩ rfl hn hl rfl (lv_room (by rw [rv_sum]; exact hsum)) hd ⟨hce, hsl⟩) hS kk
            · cases hcx
          · cases hcx
        · cases hcx
      · cases hcx
    · cases hcx
  | _ => simp [cx] at hcx
theorem rx_st {ret : Option FieldType} {st : List SV} {ins : ClassFile.Instr} {r : Option SV} (h : rx ret st ins = some r) : st = r.toList := by
  cases ins with
  | return_ =>
    simp only [rx] at h
    split at h
    · rename_i hc; cases h; exact hc.2
    · cases h
  | ireturn =>
    simp only [rx] at h
    split at h
    · split at h
      · cases h; rfl
      · cases h
    · cases h
  | lreturn =>
    simp only [rx] at h
    split at h
    · split at h
      · cases h; rfl
      · cases h
    · cases h
  | _ => simp [rx] at h
/-- what a run keeps, in numbers -/
theorem run_ok : ∀ (n : Nat) (d : Nat) (q : MI) (pc : Nat) (ls st : List SV) (g : Hp) (r : Option SV) (g' : Hp), shRun n d q pc ls st g = some (r, g') → okH g → (∀ v ∈ ls, okV v) → (∀ v ∈ st, okV v) → okH g' ∧ (∀ v ∈ r, okV v) ∧ ∀ b, cNum ≤ b → g' b = g b := by
  intro n
  induction n with
  | zero => intro d q pc ls st g r g' h; simp [shRun] at h
  | succ n ih =>
    intro d q pc ls st g r g' h hg hls hst
    cases hd : decode q.2.2.2.1 pc with
    | error x => rw [shRun, hd] at h; cases h
    | ok z =>
      obtain ⟨ins, len⟩ := z
      by_cases hln : lnOk ins len = true
      · rw [shRun_succ _ _ _ _ _ _ _ hd hln] at h
        cases hr : rx q.2.2.2.2.2 st ins with
        | some v =>
          rw [hr] at h
          cases h
          refine ⟨hg, fun v hv => hst v ?_, fun _ _ => rfl⟩
          rw [rx_st hr]
          exact Option.mem_toList.mpr hv
        | none =>
          rw [hr] at h
          simp only at h
          cases hc : cx d q.1 st ins with
          | some z =>
            obtain ⟨q', d', a, rest⟩ := z
            rw [hc] at h
            simp only at h
            have hao : (∀ v ∈ a, okV v) ∧ ∀ v ∈ rest, okV v := by
              cases ins with
              | invokestatic k =>
                simp only [cx] at hc
                split at hc
                · split at hc
                  · split at hc
                    · split at hc
                      · obtain ⟨-, rfl, rfl, -⟩ := cGo_spec hc
                        exact ⟨fun v hv => hst v (List.mem_of_mem_take (List.mem_reverse.mp hv)), fun v hv => hst v (List.mem_of_mem_drop hv)⟩
                      · cases hc
                    · cases hc
                  · cases hc
                · cases hc
              | invokevirtual k =>
                simp only [cx] at hc
                split at hc
                · split at hc
                  · split at hc
                    · split at hc
                      · split at hc
                        · obtain ⟨-, rfl, rfl, -⟩ := cGo_spec hc
                          exact ⟨ok_c trivial (fun v hv => hst v (List.mem_of_mem_take (List.mem_reverse.mp hv))), fun v hv => hst v (List.mem_of_mem_drop hv)⟩
                        · cases hc
                      · cases hc
                    · cases hc
                  · cases hc
                · cases hc
              | invokespecial k =>
                simp only [cx] at hc
                split at hc
                · split at hc
                  · split at hc
                    · split at hc
                      · split at hc
                        · obtain ⟨-, rfl, rfl, -⟩ := cGo_spec hc
                          exact ⟨ok_c trivial (fun v hv => hst v (List.mem_of_mem_take (List.mem_reverse.mp hv))), fun v hv => hst v (List.mem_of_mem_drop hv)⟩
                        · cases hc
                      · cases hc
                    · cases hc
                  · cases hc
                · cases hc
              | _ => simp [cx] at hc
            cases h1 : shRun n d' q' 0 (mkL q'.2.1 a) [] g with
            | none => rw [h1] at h; cases h
            | some z1 =>
              obtain ⟨r1, g1⟩ := z1
              rw [h1, Option.bind_some] at h
              obtain ⟨k1, k2, k3⟩ := ih _ _ _ _ _ _ _ _ h1 hg (mkL_ok hao.1) (fun v hv => absurd hv List.not_mem_nil)
              obtain ⟨j1, j2, j3⟩ := ih _ _ _ _ _ _ _ _ h k1 hls (fun v hv => (List.mem_append.mp hv).elim (fun hv => k2 v (Option.mem_toList.mp hv)) (hao.2 v))
              exact ⟨j1, j2, fun b hb => (j3 b hb).trans (k3 b hb)⟩
          | none =>
            rw [hc] at h
            simp only at h
            cases h1 : sx q.1 pc ls st g ins with
            | none => rw [h1] at h; cases h
            | some z1 =>
              obtain ⟨pc1, ls1, st1, g1⟩ := z1
              rw [h1, Option.bind_some] at h
              obtain ⟨k1, k2, k3, k4, k5⟩ := sx_ok h1 hg hls hst
              obtain ⟨j1, j2, j3⟩ := ih _ _ _ _ _ _ _ _ h k1 k2 k3
              exact ⟨j1, j2, fun b hb => (j3 b hb).trans (k5 b hb)⟩
      · rw [shRun, hd] at h
        simp only [hln] at h
        cases h
set_option maxHeartbeats 4000000 in
/-- THE SHADOW IS SOUND -/
theorem snd (hinj : ∀ i j, i < cNum → j < cNum → ad i = ad j → i = j) (hSx : SxMv ad Sx) (hSL : StrLen ad Sx) (hSA : StrAt ad Sx) : ∀ n, SndAt ad cA dC dI n0 x0 Sx n := by
  intro n
  induction n with
  | zero => intro d q pc ls st g r g' h; simp [shRun] at h
  | succ n ih =>
    intro d q pc ls st g r g' h p l e R s m args below meth c H locs cells slots Q ra hF hK hZ hP hg h210 h220 hS hl hll hls hst K
    cases hd : decode q.2.2.2.1 pc with
    | error x => rw [shRun, hd] at h; cases h
    | ok z =>
      obtain ⟨ins, len⟩ := z
      by_cases hln : lnOk ins len = true
      · have hall := h
        rw [shRun_succ _ _ _ _ _ _ _ hd hln] at h
        cases hr : rx q.2.2.2.2.2 st ins with
        | some v =>
          rw [hr] at h
          cases h
          have hst2 := rx_st hr
          subst hst2
          exact K pc H locs ra ⟨ins, len, hd, hln, hr⟩ hP hg h210 h220 hS (fun v hv => hst v (Option.mem_toList.mpr hv))
        | none =>
          rw [hr] at h
          simp only at h
          cases hc : cx d q.1 st ins with
          | some z =>
            obtain ⟨q', d', a, rest⟩ := z
            rw [hc] at h
            simp only at h
            cases h1 : shRun n d' q' 0 (mkL q'.2.1 a) [] g with
            | none => rw [h1] at h; cases h
            | some z1 =>
              obtain ⟨r1, g1⟩ := z1
              rw [h1, Option.bind_some] at h
              refine snd_call hinj hSx ih hc h1 hF hK hZ hP hg h210 h220 hS hl.1 hst hd hln (fun H1 locs1 hP1 hS1 => ?_)
              have hok : okH g1 ∧ (∀ v ∈ (r1.toList ++ rest), okV v) ∧ ∀ b, cNum ≤ b → g1 b = g b := by
                have hao : (∀ v ∈ a, okV v) ∧ ∀ v ∈ rest, okV v := by
                  cases ins with
                  | invokestatic k =>
                    simp only [cx] at hc
                    split at hc
                    · split at hc
                      · split at hc
                        · split at hc
                          · obtain ⟨-, rfl, rfl, -⟩ := cGo_spec hc
                            exact ⟨fun v hv => hst v (List.mem_of_mem_take (List.mem_reverse.mp hv)), fun v hv => hst v (List.mem_of_mem_drop hv)⟩
                          · cases hc
                        · cases hc
                      · cases hc
                    · cases hc
                  | invokevirtual k =>
                    simp only [cx] at hc
                    split at hc
                    · split at hc
                      · split at hc
                        · split at hc
                          · split at hc
                            · obtain ⟨-, rfl, rfl, -⟩ := cGo_spec hc
                              exact ⟨ok_c trivial (fun v hv => hst v (List.mem_of_mem_take (List.mem_reverse.mp hv))), fun v hv => hst v (List.mem_of_mem_drop hv)⟩
                            · cases hc
                          · cases hc
                        · cases hc
                      · cases hc
                    · cases hc
                  | invokespecial k =>
                    simp only [cx] at hc
                    split at hc
                    · split at hc
                      · split at hc
                        · split at hc
                          · split at hc
                            · obtain ⟨-, rfl, rfl, -⟩ := cGo_spec hc
                              exact ⟨ok_c trivial (fun v hv => hst v (List.mem_of_mem_take (List.mem_reverse.mp hv))), fun v hv => hst v (List.mem_of_mem_drop hv)⟩
                            · cases hc
                          · cases hc
                        · cases hc
                      · cases hc
                    · cases hc
                  | _ => simp [cx] at hc
                obtain ⟨k1, k2, k3⟩ := run_ok _ _ _ _ _ _ _ _ _ h1 hg (mkL_ok hao.1) (fun v hv => absurd hv List.not_mem_nil)
                exact ⟨k1, fun v hv => (List.mem_append.mp hv).elim (fun hv => k2 v (Option.mem_toList.mp hv)) (hao.2 v), k3⟩
              have := ih d q (pc + 3) ls (r1.toList ++ rest) g1 r g' h p l e R s m args below meth c H1 locs1 cells slots Q ra hF hK hZ hP1 hok.1 ((hok.2.2 210 (by decide)).trans h210) ((hok.2.2 220 (by decide)).trans h220) hS1 hl hll hls hok.2.1 K
              have e5 : (r1.toList ++ rest).map (rv ad) = (r1.map (rv ad)).toList ++ rest.map (rv ad) := by
                rw [List.map_append]
                congr 1
                cases r1 <;> rfl
              rw [e5] at this
              exact this
          | none =>
            rw [hc] at h
            simp only at h
            cases h1 : sx q.1 pc ls st g ins with
            | none => rw [h1] at h; cases h
            | some z1 =>
              obtain ⟨pc1, ls1, st1, g1⟩ := z1
              rw [h1, Option.bind_some] at h
              obtain ⟨k1, k2, k3, k4, k5⟩ := sx_ok h1 hg hls hst
              refine snd_sx hinj hSL hSA hF hK hZ hP hg h210 h220 hS hl hll hls hst hd hln h1 (fun H1 locs1 ra1 hP1 hS1 hl1 => ?_)
              exact ih d q pc1 ls1 st1 g1 r g' h p l e R s m args below meth c H1 locs1 cells slots Q ra1 hF hK hZ hP1 k1 ((k5 210 (by decide)).trans h210) ((k5 220 (by decide)).trans h220) hS1 hl1 (k4.trans hll) k2 k3 K
      · rw [shRun, hd] at h
        simp only [hln] at h
        cases h
end SW
