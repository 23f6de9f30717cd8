/-! the law's loop -/
theorem EV_ok {d : Nat} {q : MI} {pc : Nat} {ls st : List SV} {g : Hp} {r : Option SV} {g' : Hp} (h : EV d q pc ls st g = some (r, g')) (hO : okH g) (hl : ∀ v ∈ ls, okV v) (hs : ∀ v ∈ st, okV v) : okH g' ∧ ∀ b : Nat, 102 ≤ b → g' b = g b := by
  obtain ⟨n, hn⟩ := EV_iff.mp h
  have := run_ok n d q pc ls st g r g' hn hO hl hs
  exact ⟨this.1, this.2.2⟩
theorem aLen_220 {g g' : Hp} (h : g' 220 = g 220) : aLen 220 g' = aLen 220 g := by
  unfold aLen
  rw [if_pos rfl, if_pos rfl, h]
def LW (g : Hp) (n x3 : Int) (pc : Nat) : Prop := ∃ g2, EV 60 qL_law pc [vR 220, vR 0, vR 86, vI x3] [] g = EV 60 qL_law 974 [vR 220, vR 0, vR 86, vI x3] [] g2 ∧ Rel g2 (n + 1) ∧ okH g2 ∧ ∀ b : Nat, 102 ≤ b → g2 b = g b
theorem ok_220 {g : Hp} (h : okH g) (i : Int) : okV (vI (g 220 i)) := (h 220 i).2 (by
  have e : cK 220 = 999 := by decide +kernel
  unfold lgS
  rw [e]
  rfl)
theorem w_bridge {g : Hp} {n : Int} (hR : Rel g n) (hn : n < 1000) (hO : okH g) {x3 : Int} (h0 : 0 ≤ x3 ∧ x3 < 10000) (h5 : x3 + 4 < ((aLen 220 g : Nat) : Int)) : LW g n x3 156 := by
  have hI := ok_220 hO
  generalize hd : (if g 220 (x3 + 4) = 0 then (0 : Int) else 1) = d
  have hdi : okV (vI d) := by
    rw [← hd]
    show ir _
    split <;> exact ⟨by decide, by decide⟩
  obtain ⟨v, g1, g2, a1, a2, a3, a4⟩ := o_bridge hR hn (g 220 (x3 + 1)) (g 220 (x3 + 2)) (g 220 (x3 + 3)) d
  have k1 := EV_ok a1 hO (ok_c trivial (ok_c (hI _) (ok_c (hI _) (ok_c (hI _) (ok_c hdi (fun v hv => absurd hv List.not_mem_nil)))))) (fun v hv => absurd hv List.not_mem_nil)
  have k2 := EV_ok a2 k1.1 (ok_c trivial (ok_c (hI _) (ok_c (hI _) (ok_c (hI _) (ok_c hdi (fun v hv => absurd hv List.not_mem_nil)))))) (fun v hv => absurd hv List.not_mem_nil)
  have e220 := k1.2 220 (by omega)
  have eL := aLen_220 e220
  refine ⟨g2, ?_, a3, k2.1, fun b hb => by rw [k2.2 b hb, k1.2 b hb]⟩
  have s1 : EV 60 qL_law 156 [vR 220, vR 0, vR 86, vI x3] [] g = EV 60 qL_law 188 [vR 220, vR 0, vR 86, vI x3] [vI v] g1 := by
    rw [bL_law_156 _ _ (by omega) (by omega) (by omega) (by omega) (by omega) (by omega) (by omega) (by omega) ]
    by_cases c : g 220 (x3 + 4) = 0
    · rw [if_pos c] at hd
      subst hd
      rw [if_pos c, bL_law_184, bL_law_185, a1, bnd_some]
      rfl
    · rw [if_neg c] at hd
      subst hd
      rw [if_neg c, bL_law_180, bL_law_185, a1, bnd_some]
      rfl
  have s2 : EV 60 qL_law 188 [vR 220, vR 0, vR 86, vI x3] [vI v] g1 = EV 60 qL_law 220 [vR 220, vR 0, vR 86, vI x3] [vI v, vI v] g2 := by
    rw [bL_law_188 _ _ _ (by omega) (by omega) (by omega) (by omega) (by omega) (by omega) (by omega) (by omega) , e220]
    by_cases c : g 220 (x3 + 4) = 0
    · rw [if_pos c] at hd
      subst hd
      rw [if_pos c, bL_law_216, bL_law_217, a2, bnd_some]
      rfl
    · rw [if_neg c] at hd
      subst hd
      rw [if_neg c, bL_law_212, bL_law_217, a2, bnd_some]
      rfl
  rw [s1, s2, bL_law_220, if_pos rfl]
theorem w_chain {g : Hp} {n : Int} (hR : Rel g n) (hn : n < 1000) (hO : okH g) {x3 : Int} (h0 : 0 ≤ x3 ∧ x3 < 10000) (h5 : x3 + 4 < ((aLen 220 g : Nat) : Int)) : LW g n x3 225 := by
  have hI := ok_220 hO
  obtain ⟨v, g1, g2, a1, a2, a3, a4⟩ := o_chain hR hn (g 220 (x3 + 1)) (g 220 (x3 + 2)) (g 220 (x3 + 3))
  have k1 := EV_ok a1 hO (ok_c trivial (ok_c (hI _) (ok_c (hI _) (ok_c (hI _) (fun v hv => absurd hv List.not_mem_nil))))) (fun v hv => absurd hv List.not_mem_nil)
  have k2 := EV_ok a2 k1.1 (ok_c trivial (ok_c (hI _) (ok_c (hI _) (ok_c (hI _) (fun v hv => absurd hv List.not_mem_nil))))) (fun v hv => absurd hv List.not_mem_nil)
  have e220 := k1.2 220 (by omega)
  have eL := aLen_220 e220
  refine ⟨g2, ?_, a3, k2.1, fun b hb => by rw [k2.2 b hb, k1.2 b hb]⟩
  rw [bL_law_225 _ _ (by omega) (by omega) (by omega) (by omega) (by omega) (by omega) , a1, bnd_some]
  show EV 60 qL_law 244 _ [vI _] _ = _
  rw [bL_law_244 _ _ _ (by omega) (by omega) (by omega) (by omega) (by omega) (by omega) , e220, a2, bnd_some]
  show EV 60 qL_law 263 _ [vI _, vI _] _ = _
  rw [bL_law_263, if_pos rfl]
theorem w_load {g : Hp} {n : Int} (hR : Rel g n) (hn : n < 1000) (hO : okH g) {x3 : Int} (h0 : 0 ≤ x3 ∧ x3 < 10000) (h5 : x3 + 4 < ((aLen 220 g : Nat) : Int)) : LW g n x3 268 := by
  have hI := ok_220 hO
  obtain ⟨v, g1, g2, a1, a2, a3, a4⟩ := o_load hR hn (g 220 (x3 + 1)) (g 220 (x3 + 2))
  have k1 := EV_ok a1 hO (ok_c trivial (ok_c (hI _) (ok_c (hI _) (fun v hv => absurd hv List.not_mem_nil)))) (fun v hv => absurd hv List.not_mem_nil)
  have k2 := EV_ok a2 k1.1 (ok_c trivial (ok_c (hI _) (ok_c (hI _) (fun v hv => absurd hv List.not_mem_nil)))) (fun v hv => absurd hv List.not_mem_nil)
  have e220 := k1.2 220 (by omega)
  have eL := aLen_220 e220
  refine ⟨g2, ?_, a3, k2.1, fun b hb => by rw [k2.2 b hb, k1.2 b hb]⟩
  rw [bL_law_268 _ _ (by omega) (by omega) (by omega) (by omega) , a1, bnd_some]
  show EV 60 qL_law 282 _ [vI _] _ = _
  rw [bL_law_282 _ _ _ (by omega) (by omega) (by omega) (by omega) , e220, a2, bnd_some]
  show EV 60 qL_law 296 _ [vI _, vI _] _ = _
  rw [bL_law_296, if_pos rfl]
theorem w_one {g : Hp} {n : Int} (hR : Rel g n) (hn : n < 1000) (hO : okH g) {x3 : Int} (h0 : 0 ≤ x3 ∧ x3 < 10000) (h5 : x3 + 4 < ((aLen 220 g : Nat) : Int)) : LW g n x3 301 := by
  have hI := ok_220 hO
  obtain ⟨v, g1, g2, a1, a2, a3, a4⟩ := o_one hR hn (g 220 (x3 + 1)) (g 220 (x3 + 2))
  have k1 := EV_ok a1 hO (ok_c trivial (ok_c (hI _) (ok_c (hI _) (fun v hv => absurd hv List.not_mem_nil)))) (fun v hv => absurd hv List.not_mem_nil)
  have k2 := EV_ok a2 k1.1 (ok_c trivial (ok_c (hI _) (ok_c (hI _) (fun v hv => absurd hv List.not_mem_nil)))) (fun v hv => absurd hv List.not_mem_nil)
  have e220 := k1.2 220 (by omega)
  have eL := aLen_220 e220
  refine ⟨g2, ?_, a3, k2.1, fun b hb => by rw [k2.2 b hb, k1.2 b hb]⟩
  rw [bL_law_301 _ _ (by omega) (by omega) (by omega) (by omega) , a1, bnd_some]
  show EV 60 qL_law 315 _ [vI _] _ = _
  rw [bL_law_315 _ _ _ (by omega) (by omega) (by omega) (by omega) , e220, a2, bnd_some]
  show EV 60 qL_law 329 _ [vI _, vI _] _ = _
  rw [bL_law_329, if_pos rfl]
theorem w_weight {g : Hp} {n : Int} (hR : Rel g n) (hn : n < 1000) (hO : okH g) {x3 : Int} (h0 : 0 ≤ x3 ∧ x3 < 10000) (h5 : x3 + 4 < ((aLen 220 g : Nat) : Int)) : LW g n x3 334 := by
  have hI := ok_220 hO
  obtain ⟨v, g1, g2, a1, a2, a3, a4⟩ := o_weight hR hn (g 220 (x3 + 1))
  have k1 := EV_ok a1 hO (ok_c trivial (ok_c (hI _) (fun v hv => absurd hv List.not_mem_nil))) (fun v hv => absurd hv List.not_mem_nil)
  have k2 := EV_ok a2 k1.1 (ok_c trivial (ok_c (hI _) (fun v hv => absurd hv List.not_mem_nil))) (fun v hv => absurd hv List.not_mem_nil)
  have e220 := k1.2 220 (by omega)
  have eL := aLen_220 e220
  refine ⟨g2, ?_, a3, k2.1, fun b hb => by rw [k2.2 b hb, k1.2 b hb]⟩
  rw [bL_law_334 _ _ (by omega) (by omega) , a1, bnd_some]
  show EV 60 qL_law 343 _ [vI _] _ = _
  rw [bL_law_343 _ _ _ (by omega) (by omega) , e220, a2, bnd_some]
  show EV 60 qL_law 352 _ [vI _, vI _] _ = _
  rw [bL_law_352, if_pos rfl]
theorem w_where {g : Hp} {n : Int} (hR : Rel g n) (hn : n < 1000) (hO : okH g) {x3 : Int} (h0 : 0 ≤ x3 ∧ x3 < 10000) (h5 : x3 + 4 < ((aLen 220 g : Nat) : Int)) : LW g n x3 357 := by
  have hI := ok_220 hO
  obtain ⟨v, g1, g2, a1, a2, a3, a4⟩ := o_where hR hn (g 220 (x3 + 1))
  have k1 := EV_ok a1 hO (ok_c trivial (ok_c (hI _) (fun v hv => absurd hv List.not_mem_nil))) (fun v hv => absurd hv List.not_mem_nil)
  have k2 := EV_ok a2 k1.1 (ok_c trivial (ok_c (hI _) (fun v hv => absurd hv List.not_mem_nil))) (fun v hv => absurd hv List.not_mem_nil)
  have e220 := k1.2 220 (by omega)
  have eL := aLen_220 e220
  refine ⟨g2, ?_, a3, k2.1, fun b hb => by rw [k2.2 b hb, k1.2 b hb]⟩
  rw [bL_law_357 _ _ (by omega) (by omega) , a1, bnd_some]
  show EV 60 qL_law 366 _ [vI _] _ = _
  rw [bL_law_366 _ _ _ (by omega) (by omega) , e220, a2, bnd_some]
  show EV 60 qL_law 375 _ [vI _, vI _] _ = _
  rw [bL_law_375, if_pos rfl]
theorem w_lying {g : Hp} {n : Int} (hR : Rel g n) (hn : n < 1000) (hO : okH g) {x3 : Int} (h0 : 0 ≤ x3 ∧ x3 < 10000) (h5 : x3 + 4 < ((aLen 220 g : Nat) : Int)) : LW g n x3 380 := by
  have hI := ok_220 hO
  obtain ⟨v, g1, g2, a1, a2, a3, a4⟩ := o_lying hR 
  have k1 := EV_ok a1 hO (ok_c trivial (fun v hv => absurd hv List.not_mem_nil)) (fun v hv => absurd hv List.not_mem_nil)
  have k2 := EV_ok a2 k1.1 (ok_c trivial (fun v hv => absurd hv List.not_mem_nil)) (fun v hv => absurd hv List.not_mem_nil)
  have e220 := k1.2 220 (by omega)
  have eL := aLen_220 e220
  refine ⟨g2, ?_, a3, k2.1, fun b hb => by rw [k2.2 b hb, k1.2 b hb]⟩
  rw [bL_law_380 _ _ , a1, bnd_some]
  show EV 60 qL_law 384 _ [vI _] _ = _
  rw [bL_law_384 _ _ _ , a2, bnd_some]
  show EV 60 qL_law 388 _ [vI _, vI _] _ = _
  rw [bL_law_388, if_pos rfl]
theorem w_type {g : Hp} {n : Int} (hR : Rel g n) (hn : n < 1000) (hO : okH g) {x3 : Int} (h0 : 0 ≤ x3 ∧ x3 < 10000) (h5 : x3 + 4 < ((aLen 220 g : Nat) : Int)) : LW g n x3 393 := by
  have hI := ok_220 hO
  obtain ⟨v, g1, g2, a1, a2, a3, a4⟩ := o_type hR hn (lOr (lShl (g 220 (x3 + 1)) 32) (lAnd (g 220 (x3 + 2)) 4294967295)) (g 220 (x3 + 3))
  have k1 := EV_ok a1 hO (ok_c trivial (ok_c (lr_of _) (ok_c trivial (ok_c (hI _) (fun v hv => absurd hv List.not_mem_nil))))) (fun v hv => absurd hv List.not_mem_nil)
  have k2 := EV_ok a2 k1.1 (ok_c trivial (ok_c (lr_of _) (ok_c trivial (ok_c (hI _) (ok_c trivial (fun v hv => absurd hv List.not_mem_nil)))))) (fun v hv => absurd hv List.not_mem_nil)
  have e220 := k1.2 220 (by omega)
  have eL := aLen_220 e220
  refine ⟨g2, ?_, a3, k2.1, fun b hb => by rw [k2.2 b hb, k1.2 b hb]⟩
  rw [bL_law_393 _ _ (by omega) (by omega) (by omega) (by omega) (by omega) (by omega) , a1, bnd_some]
  show EV 60 qL_law 422 _ [vI _] _ = _
  rw [bL_law_422 _ _ _ (by omega) (by omega) (by omega) (by omega) (by omega) (by omega) , e220, a2, bnd_some]
  show EV 60 qL_law 451 _ [vI _, vI _] _ = _
  rw [bL_law_451, if_pos rfl]
theorem w_clear {g : Hp} {n : Int} (hR : Rel g n) (hn : n < 1000) (hO : okH g) {x3 : Int} (h0 : 0 ≤ x3 ∧ x3 < 10000) (h5 : x3 + 4 < ((aLen 220 g : Nat) : Int)) : LW g n x3 456 := by
  have hI := ok_220 hO
  obtain ⟨v, g1, g2, a1, a2, a3, a4⟩ := o_clear hR 
  have k1 := EV_ok a1 hO (ok_c trivial (fun v hv => absurd hv List.not_mem_nil)) (fun v hv => absurd hv List.not_mem_nil)
  have k2 := EV_ok a2 k1.1 (ok_c trivial (ok_c trivial (fun v hv => absurd hv List.not_mem_nil))) (fun v hv => absurd hv List.not_mem_nil)
  have e220 := k1.2 220 (by omega)
  have eL := aLen_220 e220
  refine ⟨g2, ?_, a3, k2.1, fun b hb => by rw [k2.2 b hb, k1.2 b hb]⟩
  rw [bL_law_456 _ _ , a1, bnd_some]
  show EV 60 qL_law 460 _ [vI _] _ = _
  rw [bL_law_460 _ _ _ , a2, bnd_some]
  show EV 60 qL_law 464 _ [vI _, vI _] _ = _
  rw [bL_law_464, if_pos rfl]
theorem w_read {g : Hp} {n : Int} (hR : Rel g n) (hn : n < 1000) (hO : okH g) (hN : N210 g) {x3 : Int} (h0 : 0 ≤ x3 ∧ x3 < 10000) (h5 : x3 + 4 < ((aLen 220 g : Nat) : Int)) : LW g n x3 469 := by
  have hI := ok_220 hO
  obtain ⟨v, g1, g2, a1, a2, a3, a4⟩ := o_read hR hN 
  have k1 := EV_ok a1 hO (ok_c trivial (ok_c trivial (fun v hv => absurd hv List.not_mem_nil))) (fun v hv => absurd hv List.not_mem_nil)
  have k2 := EV_ok a2 k1.1 (ok_c trivial (ok_c trivial (fun v hv => absurd hv List.not_mem_nil))) (fun v hv => absurd hv List.not_mem_nil)
  have e220 := k1.2 220 (by omega)
  have eL := aLen_220 e220
  refine ⟨g2, ?_, a3, k2.1, fun b hb => by rw [k2.2 b hb, k1.2 b hb]⟩
  rw [bL_law_469 _ _ , a1, bnd_some]
  show EV 60 qL_law 473 _ [vI _] _ = _
  rw [bL_law_473 _ _ _ , a2, bnd_some]
  show EV 60 qL_law 477 _ [vI _, vI _] _ = _
  rw [bL_law_477, if_pos rfl]
theorem w_step {g : Hp} {n : Int} (hR : Rel g n) (hn : n < 1000) (hO : okH g) {x3 : Int} (h0 : 0 ≤ x3 ∧ x3 < 10000) (h5 : x3 + 4 < ((aLen 220 g : Nat) : Int)) : LW g n x3 482 := by
  have hI := ok_220 hO
  obtain ⟨v, g1, g2, a1, a2, a3, a4⟩ := o_step hR hn (g 220 (x3 + 1)) (g 220 (x3 + 2))
  have k1 := EV_ok a1 hO (ok_c trivial (ok_c (hI _) (ok_c (hI _) (fun v hv => absurd hv List.not_mem_nil)))) (fun v hv => absurd hv List.not_mem_nil)
  have k2 := EV_ok a2 k1.1 (ok_c trivial (ok_c (hI _) (ok_c (hI _) (ok_c trivial (ok_c trivial (fun v hv => absurd hv List.not_mem_nil)))))) (fun v hv => absurd hv List.not_mem_nil)
  have e220 := k1.2 220 (by omega)
  have eL := aLen_220 e220
  refine ⟨g2, ?_, a3, k2.1, fun b hb => by rw [k2.2 b hb, k1.2 b hb]⟩
  rw [bL_law_482 _ _ (by omega) (by omega) (by omega) (by omega) , a1, bnd_some]
  show EV 60 qL_law 496 _ [vI _] _ = _
  rw [bL_law_496 _ _ _ (by omega) (by omega) (by omega) (by omega) , e220, a2, bnd_some]
  show EV 60 qL_law 510 _ [vI _, vI _] _ = _
  rw [bL_law_510, if_pos rfl]
theorem w_undo {g : Hp} {n : Int} (hR : Rel g n) (hn : n < 1000) (hO : okH g) {x3 : Int} (h0 : 0 ≤ x3 ∧ x3 < 10000) (h5 : x3 + 4 < ((aLen 220 g : Nat) : Int)) : LW g n x3 515 := by
  have hI := ok_220 hO
  obtain ⟨v, g1, g2, a1, a2, a3, a4⟩ := o_undo hR hn 
  have k1 := EV_ok a1 hO (ok_c trivial (fun v hv => absurd hv List.not_mem_nil)) (fun v hv => absurd hv List.not_mem_nil)
  have k2 := EV_ok a2 k1.1 (ok_c trivial (ok_c trivial (ok_c trivial (fun v hv => absurd hv List.not_mem_nil)))) (fun v hv => absurd hv List.not_mem_nil)
  have e220 := k1.2 220 (by omega)
  have eL := aLen_220 e220
  refine ⟨g2, ?_, a3, k2.1, fun b hb => by rw [k2.2 b hb, k1.2 b hb]⟩
  rw [bL_law_515 _ _ , a1, bnd_some]
  show EV 60 qL_law 519 _ [vI _] _ = _
  rw [bL_law_519 _ _ _ , a2, bnd_some]
  show EV 60 qL_law 523 _ [vI _, vI _] _ = _
  rw [bL_law_523, if_pos rfl]
theorem w_way {g : Hp} {n : Int} (hR : Rel g n) (hn : n < 1000) (hO : okH g) {x3 : Int} (h0 : 0 ≤ x3 ∧ x3 < 10000) (h5 : x3 + 4 < ((aLen 220 g : Nat) : Int)) : LW g n x3 528 := by
  have hI := ok_220 hO
  obtain ⟨v, g1, g2, a1, a2, a3, a4⟩ := o_way hR hn (g 220 (x3 + 1)) (g 220 (x3 + 2)) (g 220 (x3 + 3))
  have k1 := EV_ok a1 hO (ok_c trivial (ok_c (hI _) (ok_c (hI _) (ok_c (hI _) (ok_c trivial (fun v hv => absurd hv List.not_mem_nil)))))) (fun v hv => absurd hv List.not_mem_nil)
  have k2 := EV_ok a2 k1.1 (ok_c trivial (ok_c (hI _) (ok_c (hI _) (ok_c (hI _) (ok_c trivial (ok_c trivial (ok_c trivial (fun v hv => absurd hv List.not_mem_nil)))))))) (fun v hv => absurd hv List.not_mem_nil)
  have e220 := k1.2 220 (by omega)
  have eL := aLen_220 e220
  refine ⟨g2, ?_, a3, k2.1, fun b hb => by rw [k2.2 b hb, k1.2 b hb]⟩
  rw [bL_law_528 _ _ (by omega) (by omega) (by omega) (by omega) (by omega) (by omega) , a1, bnd_some]
  show EV 60 qL_law 547 _ [vI _] _ = _
  rw [bL_law_547 _ _ _ (by omega) (by omega) (by omega) (by omega) (by omega) (by omega) , e220, a2, bnd_some]
  show EV 60 qL_law 566 _ [vI _, vI _] _ = _
  rw [bL_law_566, if_pos rfl]
theorem w_reach {g : Hp} {n : Int} (hR : Rel g n) (hn : n < 1000) (hO : okH g) {x3 : Int} (h0 : 0 ≤ x3 ∧ x3 < 10000) (h5 : x3 + 4 < ((aLen 220 g : Nat) : Int)) : LW g n x3 571 := by
  have hI := ok_220 hO
  obtain ⟨v, g1, g2, a1, a2, a3, a4⟩ := o_reach hR hn (g 220 (x3 + 1))
  have k1 := EV_ok a1 hO (ok_c trivial (ok_c (hI _) (ok_c trivial (fun v hv => absurd hv List.not_mem_nil)))) (fun v hv => absurd hv List.not_mem_nil)
  have k2 := EV_ok a2 k1.1 (ok_c trivial (ok_c (hI _) (ok_c trivial (ok_c trivial (ok_c trivial (ok_c trivial (fun v hv => absurd hv List.not_mem_nil))))))) (fun v hv => absurd hv List.not_mem_nil)
  have e220 := k1.2 220 (by omega)
  have eL := aLen_220 e220
  refine ⟨g2, ?_, a3, k2.1, fun b hb => by rw [k2.2 b hb, k1.2 b hb]⟩
  rw [bL_law_571 _ _ (by omega) (by omega) , a1, bnd_some]
  show EV 60 qL_law 580 _ [vI _] _ = _
  rw [bL_law_580 _ _ _ (by omega) (by omega) , e220, a2, bnd_some]
  show EV 60 qL_law 589 _ [vI _, vI _] _ = _
  rw [bL_law_589, if_pos rfl]
theorem w_can {g : Hp} {n : Int} (hR : Rel g n) (hn : n < 1000) (hO : okH g) {x3 : Int} (h0 : 0 ≤ x3 ∧ x3 < 10000) (h5 : x3 + 4 < ((aLen 220 g : Nat) : Int)) : LW g n x3 594 := by
  have hI := ok_220 hO
  obtain ⟨v, g1, g2, a1, a2, a3, a4⟩ := o_can hR hn (g 220 (x3 + 1))
  have k1 := EV_ok a1 hO (ok_c trivial (ok_c (hI _) (fun v hv => absurd hv List.not_mem_nil))) (fun v hv => absurd hv List.not_mem_nil)
  have k2 := EV_ok a2 k1.1 (ok_c trivial (ok_c (hI _) (fun v hv => absurd hv List.not_mem_nil))) (fun v hv => absurd hv List.not_mem_nil)
  have e220 := k1.2 220 (by omega)
  have eL := aLen_220 e220
  refine ⟨g2, ?_, a3, k2.1, fun b hb => by rw [k2.2 b hb, k1.2 b hb]⟩
  rw [bL_law_594 _ _ (by omega) (by omega) , a1, bnd_some]
  show EV 60 qL_law 603 _ [vI _] _ = _
  rw [bL_law_603 _ _ _ (by omega) (by omega) , e220, a2, bnd_some]
  show EV 60 qL_law 612 _ [vI _, vI _] _ = _
  rw [bL_law_612, if_pos rfl]
theorem w_closed {g : Hp} {n : Int} (hR : Rel g n) (hn : n < 1000) (hO : okH g) {x3 : Int} (h0 : 0 ≤ x3 ∧ x3 < 10000) (h5 : x3 + 4 < ((aLen 220 g : Nat) : Int)) : LW g n x3 617 := by
  have hI := ok_220 hO
  obtain ⟨v, g1, g2, a1, a2, a3, a4⟩ := o_closed hR hn (g 220 (x3 + 1))
  have k1 := EV_ok a1 hO (ok_c trivial (ok_c (hI _) (ok_c trivial (ok_c trivial (ok_c trivial (fun v hv => absurd hv List.not_mem_nil)))))) (fun v hv => absurd hv List.not_mem_nil)
  have k2 := EV_ok a2 k1.1 (ok_c trivial (ok_c (hI _) (ok_c trivial (ok_c trivial (ok_c trivial (ok_c trivial (fun v hv => absurd hv List.not_mem_nil))))))) (fun v hv => absurd hv List.not_mem_nil)
  have e220 := k1.2 220 (by omega)
  have eL := aLen_220 e220
  refine ⟨g2, ?_, a3, k2.1, fun b hb => by rw [k2.2 b hb, k1.2 b hb]⟩
  rw [bL_law_617 _ _ (by omega) (by omega) , a1, bnd_some]
  show EV 60 qL_law 626 _ [vI _] _ = _
  rw [bL_law_626 _ _ _ (by omega) (by omega) , e220, a2, bnd_some]
  show EV 60 qL_law 635 _ [vI _, vI _] _ = _
  rw [bL_law_635, if_pos rfl]
theorem w_child {g : Hp} {n : Int} (hR : Rel g n) (hn : n < 1000) (hO : okH g) {x3 : Int} (h0 : 0 ≤ x3 ∧ x3 < 10000) (h5 : x3 + 4 < ((aLen 220 g : Nat) : Int)) : LW g n x3 640 := by
  have hI := ok_220 hO
  obtain ⟨v, g1, g2, a1, a2, a3, a4⟩ := o_child hR hn (g 220 (x3 + 1))
  have k1 := EV_ok a1 hO (ok_c trivial (ok_c (hI _) (ok_c trivial (fun v hv => absurd hv List.not_mem_nil)))) (fun v hv => absurd hv List.not_mem_nil)
  have k2 := EV_ok a2 k1.1 (ok_c trivial (ok_c (hI _) (ok_c trivial (fun v hv => absurd hv List.not_mem_nil)))) (fun v hv => absurd hv List.not_mem_nil)
  have e220 := k1.2 220 (by omega)
  have eL := aLen_220 e220
  refine ⟨g2, ?_, a3, k2.1, fun b hb => by rw [k2.2 b hb, k1.2 b hb]⟩
  rw [bL_law_640 _ _ (by omega) (by omega) , a1, bnd_some]
  show EV 60 qL_law 649 _ [vI _] _ = _
  rw [bL_law_649 _ _ _ (by omega) (by omega) , e220, a2, bnd_some]
  show EV 60 qL_law 658 _ [vI _, vI _] _ = _
  rw [bL_law_658, if_pos rfl]
theorem w_cut {g : Hp} {n : Int} (hR : Rel g n) (hn : n < 1000) (hO : okH g) {x3 : Int} (h0 : 0 ≤ x3 ∧ x3 < 10000) (h5 : x3 + 4 < ((aLen 220 g : Nat) : Int)) : LW g n x3 663 := by
  have hI := ok_220 hO
  obtain ⟨v, g1, g2, a1, a2, a3, a4⟩ := o_cut hR hn (g 220 (x3 + 1)) (g 220 (x3 + 2))
  have k1 := EV_ok a1 hO (ok_c trivial (ok_c (hI _) (ok_c (hI _) (ok_c trivial (ok_c trivial (ok_c trivial (ok_c trivial (fun v hv => absurd hv List.not_mem_nil)))))))) (fun v hv => absurd hv List.not_mem_nil)
  have k2 := EV_ok a2 k1.1 (ok_c trivial (ok_c (hI _) (ok_c (hI _) (ok_c trivial (ok_c trivial (ok_c trivial (ok_c trivial (fun v hv => absurd hv List.not_mem_nil)))))))) (fun v hv => absurd hv List.not_mem_nil)
  have e220 := k1.2 220 (by omega)
  have eL := aLen_220 e220
  refine ⟨g2, ?_, a3, k2.1, fun b hb => by rw [k2.2 b hb, k1.2 b hb]⟩
  rw [bL_law_663 _ _ (by omega) (by omega) (by omega) (by omega) , a1, bnd_some]
  show EV 60 qL_law 677 _ [vI _] _ = _
  rw [bL_law_677 _ _ _ (by omega) (by omega) (by omega) (by omega) , e220, a2, bnd_some]
  show EV 60 qL_law 691 _ [vI _, vI _] _ = _
  rw [bL_law_691, if_pos rfl]
theorem w_tie {g : Hp} {n : Int} (hR : Rel g n) (hn : n < 1000) (hO : okH g) {x3 : Int} (h0 : 0 ≤ x3 ∧ x3 < 10000) (h5 : x3 + 4 < ((aLen 220 g : Nat) : Int)) : LW g n x3 696 := by
  have hI := ok_220 hO
  obtain ⟨v, g1, g2, a1, a2, a3, a4⟩ := o_tie hR hn (g 220 (x3 + 1)) (g 220 (x3 + 2))
  have k1 := EV_ok a1 hO (ok_c trivial (ok_c (hI _) (ok_c (hI _) (ok_c trivial (ok_c trivial (ok_c trivial (ok_c trivial (ok_c trivial (ok_c trivial (fun v hv => absurd hv List.not_mem_nil)))))))))) (fun v hv => absurd hv List.not_mem_nil)
  have k2 := EV_ok a2 k1.1 (ok_c trivial (ok_c (hI _) (ok_c (hI _) (ok_c trivial (ok_c trivial (ok_c trivial (ok_c trivial (ok_c trivial (fun v hv => absurd hv List.not_mem_nil))))))))) (fun v hv => absurd hv List.not_mem_nil)
  have e220 := k1.2 220 (by omega)
  have eL := aLen_220 e220
  refine ⟨g2, ?_, a3, k2.1, fun b hb => by rw [k2.2 b hb, k1.2 b hb]⟩
  rw [bL_law_696 _ _ (by omega) (by omega) (by omega) (by omega) , a1, bnd_some]
  show EV 60 qL_law 710 _ [vI _] _ = _
  rw [bL_law_710 _ _ _ (by omega) (by omega) (by omega) (by omega) , e220, a2, bnd_some]
  show EV 60 qL_law 724 _ [vI _, vI _] _ = _
  rw [bL_law_724, if_pos rfl]
theorem w_stone {g : Hp} {n : Int} (hR : Rel g n) (hn : n < 1000) (hO : okH g) {x3 : Int} (h0 : 0 ≤ x3 ∧ x3 < 10000) (h5 : x3 + 4 < ((aLen 220 g : Nat) : Int)) : LW g n x3 729 := by
  have hI := ok_220 hO
  obtain ⟨v, g1, g2, a1, a2, a3, a4⟩ := o_stone hR hn (g 220 (x3 + 1)) (g 220 (x3 + 2)) (g 220 (x3 + 3))
  have k1 := EV_ok a1 hO (ok_c trivial (ok_c (hI _) (ok_c (hI _) (ok_c (hI _) (ok_c trivial (ok_c trivial (ok_c trivial (ok_c trivial (fun v hv => absurd hv List.not_mem_nil))))))))) (fun v hv => absurd hv List.not_mem_nil)
  have k2 := EV_ok a2 k1.1 (ok_c trivial (ok_c (hI _) (ok_c (hI _) (ok_c (hI _) (ok_c trivial (ok_c trivial (ok_c trivial (ok_c trivial (fun v hv => absurd hv List.not_mem_nil))))))))) (fun v hv => absurd hv List.not_mem_nil)
  have e220 := k1.2 220 (by omega)
  have eL := aLen_220 e220
  refine ⟨g2, ?_, a3, k2.1, fun b hb => by rw [k2.2 b hb, k1.2 b hb]⟩
  rw [bL_law_729 _ _ (by omega) (by omega) (by omega) (by omega) (by omega) (by omega) , a1, bnd_some]
  show EV 60 qL_law 748 _ [vI _] _ = _
  rw [bL_law_748 _ _ _ (by omega) (by omega) (by omega) (by omega) (by omega) (by omega) , e220, a2, bnd_some]
  show EV 60 qL_law 767 _ [vI _, vI _] _ = _
  rw [bL_law_767, if_pos rfl]
theorem w_keep {g : Hp} {n : Int} (hR : Rel g n) (hn : n < 1000) (hO : okH g) {x3 : Int} (h0 : 0 ≤ x3 ∧ x3 < 10000) (h5 : x3 + 4 < ((aLen 220 g : Nat) : Int)) : LW g n x3 772 := by
  have hI := ok_220 hO
  obtain ⟨v, g1, g2, a1, a2, a3, a4⟩ := o_keep hR hn (g 220 (x3 + 1)) (g 220 (x3 + 2)) (g 220 (x3 + 3))
  have k1 := EV_ok a1 hO (ok_c trivial (ok_c (hI _) (ok_c (hI _) (ok_c (hI _) (ok_c trivial (ok_c trivial (fun v hv => absurd hv List.not_mem_nil))))))) (fun v hv => absurd hv List.not_mem_nil)
  have k2 := EV_ok a2 k1.1 (ok_c trivial (ok_c (hI _) (ok_c (hI _) (ok_c (hI _) (ok_c trivial (ok_c trivial (ok_c trivial (fun v hv => absurd hv List.not_mem_nil)))))))) (fun v hv => absurd hv List.not_mem_nil)
  have e220 := k1.2 220 (by omega)
  have eL := aLen_220 e220
  refine ⟨g2, ?_, a3, k2.1, fun b hb => by rw [k2.2 b hb, k1.2 b hb]⟩
  rw [bL_law_772 _ _ (by omega) (by omega) (by omega) (by omega) (by omega) (by omega) , a1, bnd_some]
  show EV 60 qL_law 791 _ [vI _] _ = _
  rw [bL_law_791 _ _ _ (by omega) (by omega) (by omega) (by omega) (by omega) (by omega) , e220, a2, bnd_some]
  show EV 60 qL_law 810 _ [vI _, vI _] _ = _
  rw [bL_law_810, if_pos rfl]
theorem w_wet {g : Hp} {n : Int} (hR : Rel g n) (hn : n < 1000) (hO : okH g) {x3 : Int} (h0 : 0 ≤ x3 ∧ x3 < 10000) (h5 : x3 + 4 < ((aLen 220 g : Nat) : Int)) : LW g n x3 815 := by
  have hI := ok_220 hO
  obtain ⟨v, g1, g2, a1, a2, a3, a4⟩ := o_wet hR hn (g 220 (x3 + 1)) (g 220 (x3 + 2)) (g 220 (x3 + 3)) (g 220 (x3 + 4))
  have k1 := EV_ok a1 hO (ok_c trivial (ok_c (hI _) (ok_c (hI _) (ok_c (hI _) (ok_c (hI _) (ok_c trivial (fun v hv => absurd hv List.not_mem_nil))))))) (fun v hv => absurd hv List.not_mem_nil)
  have k2 := EV_ok a2 k1.1 (ok_c trivial (ok_c (hI _) (ok_c (hI _) (ok_c (hI _) (ok_c (hI _) (ok_c trivial (ok_c trivial (ok_c trivial (ok_c trivial (fun v hv => absurd hv List.not_mem_nil)))))))))) (fun v hv => absurd hv List.not_mem_nil)
  have e220 := k1.2 220 (by omega)
  have eL := aLen_220 e220
  refine ⟨g2, ?_, a3, k2.1, fun b hb => by rw [k2.2 b hb, k1.2 b hb]⟩
  rw [bL_law_815 _ _ (by omega) (by omega) (by omega) (by omega) (by omega) (by omega) (by omega) (by omega) , a1, bnd_some]
  show EV 60 qL_law 839 _ [vI _] _ = _
  rw [bL_law_839 _ _ _ (by omega) (by omega) (by omega) (by omega) (by omega) (by omega) (by omega) (by omega) , e220, a2, bnd_some]
  show EV 60 qL_law 863 _ [vI _, vI _] _ = _
  rw [bL_law_863, if_pos rfl]
theorem w_image {g : Hp} {n : Int} (hR : Rel g n) (hn : n < 1000) (hO : okH g) {x3 : Int} (h0 : 0 ≤ x3 ∧ x3 < 10000) (h5 : x3 + 4 < ((aLen 220 g : Nat) : Int)) : LW g n x3 868 := by
  have hI := ok_220 hO
  obtain ⟨v, g1, g2, a1, a2, a3, a4⟩ := o_image hR hn (g 220 (x3 + 1))
  have k1 := EV_ok a1 hO (ok_c trivial (ok_c (hI _) (fun v hv => absurd hv List.not_mem_nil))) (fun v hv => absurd hv List.not_mem_nil)
  have k2 := EV_ok a2 k1.1 (ok_c trivial (ok_c (hI _) (fun v hv => absurd hv List.not_mem_nil))) (fun v hv => absurd hv List.not_mem_nil)
  have e220 := k1.2 220 (by omega)
  have eL := aLen_220 e220
  refine ⟨g2, ?_, a3, k2.1, fun b hb => by rw [k2.2 b hb, k1.2 b hb]⟩
  rw [bL_law_868 _ _ (by omega) (by omega) , a1, bnd_some]
  show EV 60 qL_law 877 _ [vI _] _ = _
  rw [bL_law_877 _ _ _ (by omega) (by omega) , e220, a2, bnd_some]
  show EV 60 qL_law 886 _ [vI _, vI _] _ = _
  rw [bL_law_886, if_pos rfl]
theorem w_from {g : Hp} {n : Int} (hR : Rel g n) (hn : n < 1000) (hO : okH g) {x3 : Int} (h0 : 0 ≤ x3 ∧ x3 < 10000) (h5 : x3 + 4 < ((aLen 220 g : Nat) : Int)) : LW g n x3 891 := by
  have hI := ok_220 hO
  obtain ⟨v, g1, g2, a1, a2, a3, a4⟩ := o_from hR hn (g 220 (x3 + 1))
  have k1 := EV_ok a1 hO (ok_c trivial (ok_c (hI _) (fun v hv => absurd hv List.not_mem_nil))) (fun v hv => absurd hv List.not_mem_nil)
  have k2 := EV_ok a2 k1.1 (ok_c trivial (ok_c (hI _) (fun v hv => absurd hv List.not_mem_nil))) (fun v hv => absurd hv List.not_mem_nil)
  have e220 := k1.2 220 (by omega)
  have eL := aLen_220 e220
  refine ⟨g2, ?_, a3, k2.1, fun b hb => by rw [k2.2 b hb, k1.2 b hb]⟩
  rw [bL_law_891 _ _ (by omega) (by omega) , a1, bnd_some]
  show EV 60 qL_law 900 _ [vI _] _ = _
  rw [bL_law_900 _ _ _ (by omega) (by omega) , e220, a2, bnd_some]
  show EV 60 qL_law 909 _ [vI _, vI _] _ = _
  rw [bL_law_909, if_pos rfl]
theorem w_status {g : Hp} {n : Int} (hR : Rel g n) (hn : n < 1000) (hO : okH g) {x3 : Int} (h0 : 0 ≤ x3 ∧ x3 < 10000) (h5 : x3 + 4 < ((aLen 220 g : Nat) : Int)) : LW g n x3 914 := by
  have hI := ok_220 hO
  obtain ⟨v, g1, g2, a1, a2, a3, a4⟩ := o_status hR hn (g 220 (x3 + 1))
  have k1 := EV_ok a1 hO (ok_c trivial (ok_c (hI _) (fun v hv => absurd hv List.not_mem_nil))) (fun v hv => absurd hv List.not_mem_nil)
  have k2 := EV_ok a2 k1.1 (ok_c trivial (ok_c (hI _) (fun v hv => absurd hv List.not_mem_nil))) (fun v hv => absurd hv List.not_mem_nil)
  have e220 := k1.2 220 (by omega)
  have eL := aLen_220 e220
  refine ⟨g2, ?_, a3, k2.1, fun b hb => by rw [k2.2 b hb, k1.2 b hb]⟩
  rw [bL_law_914 _ _ (by omega) (by omega) , a1, bnd_some]
  show EV 60 qL_law 923 _ [vI _] _ = _
  rw [bL_law_923 _ _ _ (by omega) (by omega) , e220, a2, bnd_some]
  show EV 60 qL_law 932 _ [vI _, vI _] _ = _
  rw [bL_law_932, if_pos rfl]
theorem w_count {g : Hp} {n : Int} (hR : Rel g n) (hn : n < 1000) (hO : okH g) {x3 : Int} (h0 : 0 ≤ x3 ∧ x3 < 10000) (h5 : x3 + 4 < ((aLen 220 g : Nat) : Int)) : LW g n x3 937 := by
  have hI := ok_220 hO
  obtain ⟨v, g1, g2, a1, a2, a3, a4⟩ := o_count hR hn (g 220 (x3 + 1))
  have k1 := EV_ok a1 hO (ok_c trivial (ok_c (hI _) (fun v hv => absurd hv List.not_mem_nil))) (fun v hv => absurd hv List.not_mem_nil)
  have k2 := EV_ok a2 k1.1 (ok_c trivial (ok_c (hI _) (fun v hv => absurd hv List.not_mem_nil))) (fun v hv => absurd hv List.not_mem_nil)
  have e220 := k1.2 220 (by omega)
  have eL := aLen_220 e220
  refine ⟨g2, ?_, a3, k2.1, fun b hb => by rw [k2.2 b hb, k1.2 b hb]⟩
  rw [bL_law_937 _ _ (by omega) (by omega) , a1, bnd_some]
  show EV 60 qL_law 946 _ [vI _] _ = _
  rw [bL_law_946 _ _ _ (by omega) (by omega) , e220, a2, bnd_some]
  show EV 60 qL_law 955 _ [vI _, vI _] _ = _
  rw [bL_law_955, if_pos rfl]
theorem w_digest {g : Hp} {n : Int} (hR : Rel g n) (hn : n < 1000) (hO : okH g) {x3 : Int} (h0 : 0 ≤ x3 ∧ x3 < 10000) (h5 : x3 + 4 < ((aLen 220 g : Nat) : Int)) : LW g n x3 960 := by
  have hI := ok_220 hO
  obtain ⟨v, g1, g2, a1, a2, a3, a4⟩ := o_digest hR 
  have k1 := EV_ok a1 hO (ok_c trivial (ok_c trivial (ok_c trivial (fun v hv => absurd hv List.not_mem_nil)))) (fun v hv => absurd hv List.not_mem_nil)
  have k2 := EV_ok a2 k1.1 (ok_c trivial (ok_c trivial (fun v hv => absurd hv List.not_mem_nil))) (fun v hv => absurd hv List.not_mem_nil)
  have e220 := k1.2 220 (by omega)
  have eL := aLen_220 e220
  refine ⟨g2, ?_, a3, k2.1, fun b hb => by rw [k2.2 b hb, k1.2 b hb]⟩
  rw [bL_law_960 _ _ , a1, bnd_some]
  show EV 60 qL_law 964 _ [vL _] _ = _
  rw [bL_law_964 _ _ _ , a2, bnd_some]
  show EV 60 qL_law 968 _ [vL _, vL _] _ = _
  rw [bL_law_968, if_pos (lCmp_0.mpr rfl)]
theorem law_it {g : Hp} {n : Int} (hR : Rel g n) (hn : n < 1000) (hO : okH g) (hN : N210 g) {x3 : Int} (h0 : 0 ≤ x3 ∧ x3 < 10000) (h5 : x3 + 4 < ((aLen 220 g : Nat) : Int)) (k : Int) : ∃ g2, EV 60 qL_law 32 [vR 220, vR 0, vR 86, vI x3] [vI k] g = EV 60 qL_law 974 [vR 220, vR 0, vR 86, vI x3] [] g2 ∧ Rel g2 (n + 1) ∧ okH g2 ∧ ∀ b : Nat, 102 ≤ b → g2 b = g b := by
  by_cases hk : k < 0 ∨ 26 < k
  · rw [ev_tabOut (q := qL_law) (pc := 32) (t := 974) dL_law_32 hk (by decide)]
    exact ⟨g, rfl, hR.ro (by omega) (frT.refl g) (frS.refl g), hO, fun _ _ => rfl⟩
  · rcases (by omega : k = 0 ∨ k = 1 ∨ k = 2 ∨ k = 3 ∨ k = 4 ∨ k = 5 ∨ k = 6 ∨ k = 7 ∨ k = 8 ∨ k = 9 ∨ k = 10 ∨ k = 11 ∨ k = 12 ∨ k = 13 ∨ k = 14 ∨ k = 15 ∨ k = 16 ∨ k = 17 ∨ k = 18 ∨ k = 19 ∨ k = 20 ∨ k = 21 ∨ k = 22 ∨ k = 23 ∨ k = 24 ∨ k = 25 ∨ k = 26) with rfl | rfl | rfl | rfl | rfl | rfl | rfl | rfl | rfl | rfl | rfl | rfl | rfl | rfl | rfl | rfl | rfl | rfl | rfl | rfl | rfl | rfl | rfl | rfl | rfl | rfl | rfl
    · rw [ev_tabIn (q := qL_law) (pc := 32) (t := 156) (off := 124) dL_law_32 (by decide) rfl (by decide)]
      exact w_bridge hR hn hO h0 h5
    · rw [ev_tabIn (q := qL_law) (pc := 32) (t := 225) (off := 193) dL_law_32 (by decide) rfl (by decide)]
      exact w_chain hR hn hO h0 h5
    · rw [ev_tabIn (q := qL_law) (pc := 32) (t := 268) (off := 236) dL_law_32 (by decide) rfl (by decide)]
      exact w_load hR hn hO h0 h5
    · rw [ev_tabIn (q := qL_law) (pc := 32) (t := 301) (off := 269) dL_law_32 (by decide) rfl (by decide)]
      exact w_one hR hn hO h0 h5
    · rw [ev_tabIn (q := qL_law) (pc := 32) (t := 334) (off := 302) dL_law_32 (by decide) rfl (by decide)]
      exact w_weight hR hn hO h0 h5
    · rw [ev_tabIn (q := qL_law) (pc := 32) (t := 357) (off := 325) dL_law_32 (by decide) rfl (by decide)]
      exact w_where hR hn hO h0 h5
    · rw [ev_tabIn (q := qL_law) (pc := 32) (t := 380) (off := 348) dL_law_32 (by decide) rfl (by decide)]
      exact w_lying hR hn hO h0 h5
    · rw [ev_tabIn (q := qL_law) (pc := 32) (t := 393) (off := 361) dL_law_32 (by decide) rfl (by decide)]
      exact w_type hR hn hO h0 h5
    · rw [ev_tabIn (q := qL_law) (pc := 32) (t := 456) (off := 424) dL_law_32 (by decide) rfl (by decide)]
      exact w_clear hR hn hO h0 h5
    · rw [ev_tabIn (q := qL_law) (pc := 32) (t := 469) (off := 437) dL_law_32 (by decide) rfl (by decide)]
      exact w_read hR hn hO hN h0 h5
    · rw [ev_tabIn (q := qL_law) (pc := 32) (t := 482) (off := 450) dL_law_32 (by decide) rfl (by decide)]
      exact w_step hR hn hO h0 h5
    · rw [ev_tabIn (q := qL_law) (pc := 32) (t := 515) (off := 483) dL_law_32 (by decide) rfl (by decide)]
      exact w_undo hR hn hO h0 h5
    · rw [ev_tabIn (q := qL_law) (pc := 32) (t := 528) (off := 496) dL_law_32 (by decide) rfl (by decide)]
      exact w_way hR hn hO h0 h5
    · rw [ev_tabIn (q := qL_law) (pc := 32) (t := 571) (off := 539) dL_law_32 (by decide) rfl (by decide)]
      exact w_reach hR hn hO h0 h5
    · rw [ev_tabIn (q := qL_law) (pc := 32) (t := 594) (off := 562) dL_law_32 (by decide) rfl (by decide)]
      exact w_can hR hn hO h0 h5
    · rw [ev_tabIn (q := qL_law) (pc := 32) (t := 617) (off := 585) dL_law_32 (by decide) rfl (by decide)]
      exact w_closed hR hn hO h0 h5
    · rw [ev_tabIn (q := qL_law) (pc := 32) (t := 640) (off := 608) dL_law_32 (by decide) rfl (by decide)]
      exact w_child hR hn hO h0 h5
    · rw [ev_tabIn (q := qL_law) (pc := 32) (t := 663) (off := 631) dL_law_32 (by decide) rfl (by decide)]
      exact w_cut hR hn hO h0 h5
    · rw [ev_tabIn (q := qL_law) (pc := 32) (t := 696) (off := 664) dL_law_32 (by decide) rfl (by decide)]
      exact w_tie hR hn hO h0 h5
    · rw [ev_tabIn (q := qL_law) (pc := 32) (t := 729) (off := 697) dL_law_32 (by decide) rfl (by decide)]
      exact w_stone hR hn hO h0 h5
    · rw [ev_tabIn (q := qL_law) (pc := 32) (t := 772) (off := 740) dL_law_32 (by decide) rfl (by decide)]
      exact w_keep hR hn hO h0 h5
    · rw [ev_tabIn (q := qL_law) (pc := 32) (t := 815) (off := 783) dL_law_32 (by decide) rfl (by decide)]
      exact w_wet hR hn hO h0 h5
    · rw [ev_tabIn (q := qL_law) (pc := 32) (t := 868) (off := 836) dL_law_32 (by decide) rfl (by decide)]
      exact w_image hR hn hO h0 h5
    · rw [ev_tabIn (q := qL_law) (pc := 32) (t := 891) (off := 859) dL_law_32 (by decide) rfl (by decide)]
      exact w_from hR hn hO h0 h5
    · rw [ev_tabIn (q := qL_law) (pc := 32) (t := 914) (off := 882) dL_law_32 (by decide) rfl (by decide)]
      exact w_status hR hn hO h0 h5
    · rw [ev_tabIn (q := qL_law) (pc := 32) (t := 937) (off := 905) dL_law_32 (by decide) rfl (by decide)]
      exact w_count hR hn hO h0 h5
    · rw [ev_tabIn (q := qL_law) (pc := 32) (t := 960) (off := 928) dL_law_32 (by decide) rfl (by decide)]
      exact w_digest hR hn hO h0 h5
theorem law_loop {len : Int} (hlen : len ≤ 2560) : ∀ (m : Nat) (n : Int) (g : Hp), 0 ≤ n → len - 5 * n < 5 * m → 5 * n ≤ 2565 → ((aLen 220 g : Nat) : Int) = len → Rel g n → okH g → N210 g → ∃ g', EV 60 qL_law 18 [vR 220, vR 0, vR 86, vI (5 * n)] [] g = some (some (vI 1), g') := by
  intro m
  induction m with
  | zero =>
    intro n g n0 hm hx hl hR hO hN
    exact ⟨g, by rw [bL_law_18 _ _ (by omega), if_pos (by omega), bL_law_980]⟩
  | succ m ih =>
    intro n g n0 hm hx hl hR hO hN
    by_cases c : ((aLen 220 g : Nat) : Int) - 5 < 5 * n
    · exact ⟨g, by rw [bL_law_18 _ _ (by omega), if_pos c, bL_law_980]⟩
    · obtain ⟨g2, a1, a2, a3, a4⟩ := law_it hR (by omega) hO hN (x3 := 5 * n) (by omega) (by omega) (bAnd (g 220 (5 * n)) 31)
      obtain ⟨g3, b1⟩ := ih (n + 1) g2 (by omega) (by omega) (by omega) (by rw [aLen_220 (a4 220 (by omega))]; exact hl) a2 a3 (hN.keep (a4 210 (by omega)))
      exact ⟨g3, by rw [bL_law_18 _ _ (by omega), if_neg c, bL_law_26 _ _ (by omega), a1, bL_law_974 _ _ (by omega), show 5 * n + 5 = 5 * (n + 1) by omega, b1]⟩
theorem Rel_zero {g : Hp} (h : ∀ a : Nat, a < 102 → g a = fun _ => 0) : Rel g 0 := by
  have z : ∀ (a : Nat) (i : Int), a < 102 → g a i = 0 := fun a i ha => by rw [h a ha]
  have erg : rg g 0 = fun _ => 0 := by funext k; rw [rg0, z 87 k (by omega)]
  have cls : ∀ f : Nat, f < 80 → ClsF g f (fun _ => 0) := fun f hf => by
    refine ⟨z _ _ (by omega), fun k k0 k1 => absurd (show k < (0 : Int) from k1) (by omega), z _ _ (by omega), z _ _ (by omega), fun k k0 k1 => absurd (show k < (0 : Int) from k1) (by omega), z _ _ (by omega), fun k k0 k1 => absurd (show k < (0 : Int) from k1) (by omega), z _ _ (by omega), fun k k0 k1 => absurd (show k < (0 : Int) from k1) (by omega)⟩
  refine ⟨⟨by rw [erg]; exact FI_zero, by rw [erg]; exact cls 1 (by omega)⟩, ⟨fun i _ => ?_, fun q => ?_, fun q => ?_⟩, ⟨?_, ?_, fun k k0 k1 => ?_⟩, fun k k0 k1 => ?_⟩
  · rw [z 78 i (by omega), z 88 i (by omega)]
    exact ⟨rfl, Or.inl rfl⟩
  · rw [z 88 0 (by omega)] at q
    exact absurd q (by decide)
  · rw [z 88 1 (by omega)] at q
    exact absurd q (by decide)
  · rw [z 79 1 (by omega), z 86 3 (by omega)]
  · rw [z 86 3 (by omega)]
    omega
  · rw [z 86 3 (by omega)] at k1
    omega
  · rw [z 0 (7 + k) (by omega), z 90 k (by omega)]
    omega
/-- THE LAW, over the shadow -/
theorem law_ok {g : Hp} (h : ∀ a : Nat, a < 102 → g a = fun _ => 0) (hO : okH g) (hN : N210 g) (hl : g 220 100000 ≤ 2560) : ∃ g', EV 60 qL_law 16 [vR 220, vR 0, vR 86, vU] [] g = some (some (vI 1), g') := by
  have eL : ((aLen 220 g : Nat) : Int) = ((g 220 100000).toNat : Int) := by
    unfold aLen
    rw [if_pos rfl]
  obtain ⟨g', a⟩ := law_loop (len := ((aLen 220 g : Nat) : Int)) (by omega) 600 0 g (by omega) (by omega) (by omega) rfl (Rel_zero h) hO hN
  exact ⟨g', by rw [bL_law_16]; exact a⟩
