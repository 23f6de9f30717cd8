/-! THE SHADOW IS SOUND: what an instruction keeps, in numbers -/
theorem up_ok {g : Hp} {a : Nat} {i x : Int} (hg : okH g) (h1 : lgS a i = true → lr x) (h2 : lgS a i = false → ir x) : okH (up g a i x) := by
  intro a' i'
  unfold up
  by_cases h : a' = a ∧ i' = i
  · rw [if_pos h]
    obtain ⟨rfl, rfl⟩ := h
    exact ⟨h1, h2⟩
  · rw [if_neg h]
    exact hg a' i'
theorem lgS_of {a : Nat} {i : Int} {n : Nat} (h : cK a = n) (h1 : n ≠ 101) (h2 : n ≠ 12) : lgS a i = false := by
  simp [lgS, h, h1, h2]
theorem cpy_ok {g : Hp} {s : Nat} {sp : Int} {d : Nat} {dp n : Int} (hg : okH g) (hs : cK s = 100) (hd : cK d = 100) : okH (cpy g s sp d dp n) := by
  intro a i
  unfold cpy
  by_cases h : a = d ∧ dp ≤ i ∧ i < dp + n
  · rw [if_pos h]
    obtain ⟨rfl, -⟩ := h
    have e1 : lgS a i = false := lgS_of hd (by decide) (by decide)
    have e2 : lgS s (sp + (i - dp)) = false := lgS_of hs (by decide) (by decide)
    exact ⟨fun h => absurd h (by rw [e1]; decide), fun _ => (hg s _).2 e2⟩
  · rw [if_neg h]
    exact hg a i
theorem up_row {g : Hp} {a : Nat} {i x : Int} (ha : a < cNum) : ∀ b, cNum ≤ b → up g a i x b = g b := by
  intro b hb
  funext j
  unfold up
  rw [if_neg]
  rintro ⟨rfl, -⟩
  omega
theorem cpy_row {g : Hp} {s : Nat} {sp : Int} {d : Nat} {dp n : Int} (hd : d < cNum) : ∀ b, cNum ≤ b → cpy g s sp d dp n b = g b := by
  intro b hb
  funext j
  unfold cpy
  rw [if_neg]
  rintro ⟨rfl, -⟩
  omega
theorem fTy_1 {ci s : Nat} (h : fTy ci s = 1) (hs : s < fNm ci) : ci = 12 ∧ s = 23 := by
  have key : ∀ ci, ci < 13 → ∀ s, s < fNm ci → fTy ci s = 1 → ci = 12 ∧ s = 23 := by decide +kernel
  by_cases hc : ci < 13
  · exact key ci hc s hs h
  · exfalso
    have : fNm ci = 0 := by simp [fNm, List.getD, List.getElem?_eq_none (show ([0, 0, 15, 0, 0, 0, 2, 0, 2, 5, 6, 10, 24] : List Nat).length ≤ ci by simp; omega)]
    omega
theorem fld_lgS {ow k nst ci sl a : Nat} (hf : fTab ow k = some (nst, ci, sl)) (hc : cK a = ci) : (fTy ci sl = 0 → lgS a (sl : Int) = false) ∧ (fTy ci sl = 1 → lgS a (sl : Int) = true) := by
  obtain ⟨h1, h2, -, h4, -⟩ := fTab_facts hf
  have hci : ci < 13 := by
    have := (List.getElem?_eq_some_iff.mp h1).1
    exact this
  constructor
  · intro h
    by_cases h12 : ci = 12 ∧ sl = 23
    · obtain ⟨rfl, rfl⟩ := h12
      exact absurd h (by decide)
    · simp only [lgS, hc, Bool.or_eq_false_iff, beq_eq_false_iff_ne, Bool.and_eq_false_iff]
      refine ⟨by omega, ?_⟩
      by_cases e : ci = 12
      · right
        intro e2
        exact h12 ⟨e, by omega⟩
      · left
        exact e
  · intro h
    obtain ⟨rfl, rfl⟩ := fTy_1 h (by omega)
    simp [lgS, hc]
def OKs (g g' : Hp) (ls ls' st' : List SV) : Prop := okH g' ∧ (∀ v ∈ ls', okV v) ∧ (∀ v ∈ st', okV v) ∧ ls'.length = ls.length ∧ ∀ b, cNum ≤ b → g' b = g b
theorem OKs.sty {g : Hp} {ls st' : List SV} (hg : okH g) (hls : ∀ v ∈ ls, okV v) (hst : ∀ v ∈ st', okV v) : OKs g g ls ls st' := ⟨hg, hls, hst, rfl, fun _ _ => rfl⟩
theorem ok_c {v : SV} {st : List SV} (hv : okV v) (hst : ∀ v ∈ st, okV v) : ∀ x ∈ v :: st, okV x := fun x hx => (List.mem_cons.mp hx).elim (fun e => e ▸ hv) (hst x)
theorem ok_t {v : SV} {st : List SV} (hst : ∀ x ∈ v :: st, okV x) : ∀ x ∈ st, okV x := fun x hx => hst x (List.mem_cons_of_mem _ hx)
theorem ok_h {v : SV} {st : List SV} (hst : ∀ x ∈ v :: st, okV x) : okV v := hst v List.mem_cons_self
theorem ldI_ok {pc len k : Nat} {ls st ls' st' : List SV} {g g' : Hp} {pc' : Nat} (h : ldI pc len k ls st g = some (pc', ls', st', g')) (hg : okH g) (hls : ∀ v ∈ ls, okV v) (hst : ∀ v ∈ st, okV v) : OKs g g' ls ls' st' := by
  unfold ldI at h
  split at h
  · rename_i x hx
    cases h
    exact OKs.sty hg hls (ok_c (hls _ (List.mem_of_getElem? hx)) hst)
  · cases h
theorem ldL_ok {pc len k : Nat} {ls st ls' st' : List SV} {g g' : Hp} {pc' : Nat} (h : ldL pc len k ls st g = some (pc', ls', st', g')) (hg : okH g) (hls : ∀ v ∈ ls, okV v) (hst : ∀ v ∈ st, okV v) : OKs g g' ls ls' st' := by
  unfold ldL at h
  split at h
  · rename_i x hx
    cases h
    exact OKs.sty hg hls (ok_c (hls _ (List.mem_of_getElem? hx)) hst)
  · cases h
theorem ldR_ok {pc len k : Nat} {ls st ls' st' : List SV} {g g' : Hp} {pc' : Nat} (h : ldR pc len k ls st g = some (pc', ls', st', g')) (hg : okH g) (hls : ∀ v ∈ ls, okV v) (hst : ∀ v ∈ st, okV v) : OKs g g' ls ls' st' := by
  unfold ldR at h
  split at h
  · rename_i x hx
    cases h
    exact OKs.sty hg hls (ok_c (hls _ (List.mem_of_getElem? hx)) hst)
  · cases h
theorem soI_ok {pc len k : Nat} {ls st ls' st' : List SV} {g g' : Hp} {pc' : Nat} (h : soI pc len k ls st g = some (pc', ls', st', g')) (hg : okH g) (hls : ∀ v ∈ ls, okV v) (hst : ∀ v ∈ st, okV v) : OKs g g' ls ls' st' := by
  unfold soI at h
  split at h
  · split at h
    · cases h
      exact ⟨hg, set_ok (kl_ok hls) (ok_h hst), ok_t hst, by simp [st1, kl_len], fun _ _ => rfl⟩
    · cases h
  · cases h
theorem soL_ok {pc len k : Nat} {ls st ls' st' : List SV} {g g' : Hp} {pc' : Nat} (h : soL pc len k ls st g = some (pc', ls', st', g')) (hg : okH g) (hls : ∀ v ∈ ls, okV v) (hst : ∀ v ∈ st, okV v) : OKs g g' ls ls' st' := by
  unfold soL at h
  split at h
  · split at h
    · cases h
      exact ⟨hg, set_ok (set_ok (kl_ok hls) (ok_h hst)) trivial, ok_t hst, by simp [st2, kl_len], fun _ _ => rfl⟩
    · cases h
  · cases h
theorem bi_ok {f : Int → Int → Int} (hf : ∀ a b, ir (f a b)) {pc : Nat} {ls st ls' st' : List SV} {g g' : Hp} {pc' : Nat} (h : bi f pc ls st g = some (pc', ls', st', g')) (hg : okH g) (hls : ∀ v ∈ ls, okV v) (hst : ∀ v ∈ st, okV v) : OKs g g' ls ls' st' := by
  unfold bi at h
  split at h
  · cases h
    exact OKs.sty hg hls (ok_c (hf _ _) (ok_t (ok_t hst)))
  · cases h
theorem bl_ok {f : Int → Int → Int} (hf : ∀ a b, lr (f a b)) {pc : Nat} {ls st ls' st' : List SV} {g g' : Hp} {pc' : Nat} (h : bl f pc ls st g = some (pc', ls', st', g')) (hg : okH g) (hls : ∀ v ∈ ls, okV v) (hst : ∀ v ∈ st, okV v) : OKs g g' ls ls' st' := by
  unfold bl at h
  split at h
  · cases h
    exact OKs.sty hg hls (ok_c (hf _ _) (ok_t (ok_t hst)))
  · cases h
theorem bs_ok {f : Int → Int → Int} (hf : ∀ a b, lr (f a b)) {pc : Nat} {ls st ls' st' : List SV} {g g' : Hp} {pc' : Nat} (h : bs f pc ls st g = some (pc', ls', st', g')) (hg : okH g) (hls : ∀ v ∈ ls, okV v) (hst : ∀ v ∈ st, okV v) : OKs g g' ls ls' st' := by
  unfold bs at h
  split at h
  · cases h
    exact OKs.sty hg hls (ok_c (hf _ _) (ok_t (ok_t hst)))
  · cases h
theorem jmp_ok {pc : Nat} {off : Int} {ls st ls' st' : List SV} {g g' : Hp} {pc' : Nat} (h : jmp pc off ls st g = some (pc', ls', st', g')) (hg : okH g) (hls : ∀ v ∈ ls, okV v) (hst : ∀ v ∈ st, okV v) : OKs g g' ls ls' st' := by
  unfold jmp at h
  split at h
  · cases h
    exact OKs.sty hg hls hst
  · cases h
theorem txt_ir (a i : Nat) : ir ((sTxt a).getD i 0) := by
  have key : ∀ x ∈ sTxt a, ir x := by
    unfold sTxt
    split <;> decide
  by_cases h : i < (sTxt a).length
  · have e : (sTxt a).getD i 0 = (sTxt a)[i] := by simp [List.getD, List.getElem?_eq_getElem h]
    rw [e]
    exact key _ (List.getElem_mem h)
  · have : (sTxt a).getD i 0 = 0 := by simp [List.getD, List.getElem?_eq_none (show (sTxt a).length ≤ i by omega)]
    rw [this]
    decide
theorem txt_len (a : Nat) : (sTxt a).length ≤ 6 := by
  unfold sTxt
  split <;> decide
theorem cLn_lt (a : Nat) : cLn a ≤ 32000 := by
  have key : ∀ x ∈ cLl, x ≤ 32000 := by decide
  unfold cLn
  by_cases h : a < cLl.length
  · have e : cLl.getD a 0 = cLl[a] := by simp [List.getD, List.getElem?_eq_getElem h]
    rw [e]
    exact key _ (List.getElem_mem h)
  · have : cLl.getD a 0 = 0 := by simp [List.getD, List.getElem?_eq_none (show cLl.length ≤ a by omega)]
    rw [this]
    decide
theorem aLen_ir {a : Nat} {g : Hp} (hg : okH g) : ir (aLen a g : Nat) := by
  unfold aLen
  split
  · have := (hg 220 100000).2 (by decide)
    exact ⟨by omega, by have := this.2; omega⟩
  · split
    · decide
    · have := cLn_lt a
      exact ⟨by omega, by omega⟩
theorem lCmp_ir (a b : Int) : ir (lCmp a b) := by
  unfold lCmp
  split
  · decide
  · split <;> decide
set_option maxHeartbeats 4000000 in
theorem sx_ok {ow pc : Nat} {ls st ls' st' : List SV} {g g' : Hp} {pc' : Nat} {ins : ClassFile.Instr} (h : sx ow pc ls st g ins = some (pc', ls', st', g')) (hg : okH g) (hls : ∀ v ∈ ls, okV v) (hst : ∀ v ∈ st, okV v) : OKs g g' ls ls' st' := by
  cases ins with
  | iconst n =>
    simp only [sx] at h
    split at h
    · rename_i hn; cases h; exact OKs.sty hg hls (ok_c hn hst)
    · cases h
  | bipush n =>
    simp only [sx] at h
    split at h
    · rename_i hn; cases h; exact OKs.sty hg hls (ok_c (show ir n from ⟨by omega, by omega⟩) hst)
    · cases h
  | sipush n =>
    simp only [sx] at h
    split at h
    · rename_i hn; cases h; exact OKs.sty hg hls (ok_c (show ir n from ⟨by omega, by omega⟩) hst)
    · cases h
  | lconst n =>
    simp only [sx] at h
    cases h
    refine OKs.sty hg hls (ok_c (show lr ((n : Nat) : Int) from ?_) hst)
    have := n.isLt
    exact ⟨by omega, by omega⟩
  | ldc k =>
    simp only [sx] at h
    split at h
    · rename_i x hx; cases h; exact OKs.sty hg hls (ok_c (kTab_facts hx).2 hst)
    · split at h
      · cases h; exact OKs.sty hg hls (ok_c trivial hst)
      · cases h
  | ldc_w k =>
    simp only [sx] at h
    split at h
    · rename_i x hx; cases h; exact OKs.sty hg hls (ok_c (kTab_facts hx).2 hst)
    · cases h
  | ldc2_w k =>
    simp only [sx] at h
    split at h
    · rename_i x hx; cases h; exact OKs.sty hg hls (ok_c (lTab_facts hx).2 hst)
    · cases h
  | iload_n k => exact ldI_ok h hg hls hst
  | iload k => exact ldI_ok h hg hls hst
  | lload_n k => exact ldL_ok h hg hls hst
  | lload k => exact ldL_ok h hg hls hst
  | aload_n k => exact ldR_ok h hg hls hst
  | aload k => exact ldR_ok h hg hls hst
  | istore_n k => exact soI_ok h hg hls hst
  | istore k => exact soI_ok h hg hls hst
  | lstore_n k => exact soL_ok h hg hls hst
  | lstore k => exact soL_ok h hg hls hst
  | iinc k n =>
    simp only [sx] at h
    split at h
    · cases h; exact ⟨hg, set_ok hls (w32_ir _), hst, by simp, fun _ _ => rfl⟩
    · cases h
  | iadd => exact bi_ok (fun _ _ => w32_ir _) h hg hls hst
  | isub => exact bi_ok (fun _ _ => w32_ir _) h hg hls hst
  | imul => exact bi_ok (fun _ _ => w32_ir _) h hg hls hst
  | iand => exact bi_ok (fun _ _ => ir_of _) h hg hls hst
  | ior => exact bi_ok (fun _ _ => ir_of _) h hg hls hst
  | ixor => exact bi_ok (fun _ _ => ir_of _) h hg hls hst
  | ishl => exact bi_ok (fun _ _ => ir_of _) h hg hls hst
  | ishr => exact bi_ok (fun _ _ => ir_of _) h hg hls hst
  | iushr => exact bi_ok (fun _ _ => ir_of _) h hg hls hst
  | idiv =>
    simp only [sx] at h
    split at h
    · split at h
      · rename_i hc; cases h; exact OKs.sty hg hls (ok_c (div_ir (ok_h (ok_t hst)) hc.1 hc.2) (ok_t (ok_t hst)))
      · cases h
    · cases h
  | irem =>
    simp only [sx] at h
    split at h
    · split at h
      · rename_i hc; cases h; exact OKs.sty hg hls (ok_c (rem_ir (ok_h (ok_t hst)) (ok_h hst) hc.2) (ok_t (ok_t hst)))
      · cases h
    · cases h
  | ineg =>
    simp only [sx] at h
    split at h
    · cases h; exact OKs.sty hg hls (ok_c (w32_ir _) (ok_t hst))
    · cases h
  | ladd => exact bl_ok (fun _ _ => w64_lr _) h hg hls hst
  | lsub => exact bl_ok (fun _ _ => w64_lr _) h hg hls hst
  | lmul => exact bl_ok (fun _ _ => w64_lr _) h hg hls hst
  | land => exact bl_ok (fun _ _ => lr_of _) h hg hls hst
  | lor => exact bl_ok (fun _ _ => lr_of _) h hg hls hst
  | lshl => exact bs_ok (fun _ _ => lr_of _) h hg hls hst
  | lshr => exact bs_ok (fun _ _ => lr_of _) h hg hls hst
  | lushr => exact bs_ok (fun _ _ => lr_of _) h hg hls hst
  | lcmp =>
    simp only [sx] at h
    split at h
    · cases h; exact OKs.sty hg hls (ok_c (lCmp_ir _ _) (ok_t (ok_t hst)))
    · cases h
  | i2l =>
    simp only [sx] at h
    split at h
    · cases h
      refine OKs.sty hg hls (ok_c ?_ (ok_t hst))
      have : ir _ := ok_h hst
      exact ⟨by have := this.1; omega, by have := this.2; omega⟩
    · cases h
  | l2i =>
    simp only [sx] at h
    split at h
    · cases h; exact OKs.sty hg hls (ok_c (w32_ir _) (ok_t hst))
    · cases h
  | dup =>
    simp only [sx] at h
    split at h
    · split at h
      · cases h; exact OKs.sty hg hls (ok_c (ok_h hst) hst)
      · cases h
    · cases h
  | pop =>
    simp only [sx] at h
    split at h
    · split at h
      · cases h; exact OKs.sty hg hls (ok_t hst)
      · cases h
    · cases h
  | dup_x1 =>
    simp only [sx] at h
    split at h
    · split at h
      · cases h; exact OKs.sty hg hls (ok_c (ok_h hst) (ok_c (ok_h (ok_t hst)) (ok_c (ok_h hst) (ok_t (ok_t hst)))))
      · cases h
    · cases h
  | dup2 =>
    simp only [sx] at h
    split at h
    · split at h
      · cases h; exact OKs.sty hg hls (ok_c (ok_h hst) (ok_c (ok_h (ok_t hst)) hst))
      · cases h
    · cases h
  | goto off => exact jmp_ok h hg hls hst
  | ifCond c off =>
    simp only [sx, br] at h
    split at h
    · split at h
      · cases h; exact OKs.sty hg hls (ok_t hst)
      · cases h
    · cases h
  | if_icmp c off =>
    simp only [sx, br] at h
    split at h
    · split at h
      · cases h; exact OKs.sty hg hls (ok_t (ok_t hst))
      · cases h
    · cases h
  | tableswitch d lo hi offs =>
    simp only [sx] at h
    split at h
    · split at h
      · exact jmp_ok h hg hls (ok_t hst)
      · split at h
        · exact jmp_ok h hg hls (ok_t hst)
        · cases h
    · cases h
  | getfield k =>
    simp only [sx] at h
    split at h
    · split at h
      · rename_i hf
        split at h
        · rename_i hc
          have hl := fld_lgS hf hc
          split at h
          · rename_i ht; cases h; exact OKs.sty hg hls (ok_c ((hg _ _).2 (hl.1 ht)) (ok_t hst))
          · rename_i ht; cases h; exact OKs.sty hg hls (ok_c ((hg _ _).1 (hl.2 ht)) (ok_t hst))
          · cases h; exact OKs.sty hg hls (ok_c trivial (ok_t hst))
        · cases h
      · cases h
    · cases h
  | putfield k =>
    simp only [sx] at h
    split at h
    · split at h
      · rename_i hf
        split at h
        · rename_i hc
          have hl := (fld_lgS hf hc.1).1 hc.2
          cases h
          have ha := cK_lt (a := _) (show cK _ ≠ 999 from by rw [hc.1]; have := (List.getElem?_eq_some_iff.mp (fTab_facts hf).1).1; have h13 : vwCl.length = 13 := rfl; omega)
          exact ⟨up_ok hg (fun h => by rw [hl] at h; cases h) (fun _ => ok_h hst), hls, ok_t (ok_t hst), rfl, up_row ha⟩
        · cases h
      · cases h
    · split at h
      · rename_i hf
        split at h
        · rename_i hc
          have hl := (fld_lgS hf hc.1).2 hc.2
          cases h
          have ha := cK_lt (a := _) (show cK _ ≠ 999 from by rw [hc.1]; have := (List.getElem?_eq_some_iff.mp (fTab_facts hf).1).1; have h13 : vwCl.length = 13 := rfl; omega)
          exact ⟨up_ok hg (fun _ => ok_h hst) (fun h => by rw [hl] at h; cases h), hls, ok_t (ok_t hst), rfl, up_row ha⟩
        · cases h
      · cases h
    · cases h
  | getstatic k =>
    simp only [sx] at h
    split at h
    · cases h; exact OKs.sty hg hls (ok_c trivial hst)
    · cases h
  | arraylength =>
    simp only [sx] at h
    split at h
    · split at h
      · cases h; exact OKs.sty hg hls (ok_c (aLen_ir hg) (ok_t hst))
      · cases h
    · cases h
  | iaload =>
    simp only [sx] at h
    split at h
    · split at h
      · rename_i a r hc
        cases h
        refine OKs.sty hg hls (ok_c ((hg _ _).2 ?_) (ok_t (ok_t hst)))
        have h1 := hc.1
        simp only [isIA, Bool.or_eq_true, beq_iff_eq] at h1
        rcases h1 with h1 | h1 | h1
        · exact lgS_of h1 (by decide) (by decide)
        · subst h1; rfl
        · subst h1; rfl
      · cases h
    · cases h
  | iastore =>
    simp only [sx] at h
    split at h
    · split at h
      · rename_i hc
        cases h
        exact ⟨up_ok hg (fun h => by rw [lgS_of hc.1 (by decide) (by decide)] at h; cases h) (fun _ => ok_h hst), hls, ok_t (ok_t (ok_t hst)), rfl, up_row (cK_lt (by rw [hc.1]; decide))⟩
      · cases h
    · cases h
  | laload =>
    simp only [sx] at h
    split at h
    · split at h
      · rename_i hc
        cases h
        exact OKs.sty hg hls (ok_c ((hg _ _).1 (by simp [lgS, hc.1])) (ok_t (ok_t hst)))
      · cases h
    · cases h
  | lastore =>
    simp only [sx] at h
    split at h
    · split at h
      · rename_i hc
        cases h
        exact ⟨up_ok hg (fun _ => ok_h hst) (fun h => by simp [lgS, hc.1] at h), hls, ok_t (ok_t (ok_t hst)), rfl, up_row (cK_lt (by rw [hc.1]; decide))⟩
      · cases h
    · cases h
  | baload =>
    simp only [sx] at h
    split at h
    · split at h
      · rename_i hc
        cases h
        exact OKs.sty hg hls (ok_c ((hg _ _).2 (lgS_of hc.1 (by decide) (by decide))) (ok_t (ok_t hst)))
      · cases h
    · cases h
  | bastore =>
    simp only [sx] at h
    split at h
    · split at h
      · rename_i hc
        cases h
        exact ⟨up_ok hg (fun h => by rw [lgS_of hc.1 (by decide) (by decide)] at h; cases h) (fun _ => ok_h hst), hls, ok_t (ok_t (ok_t hst)), rfl, up_row (cK_lt (by rw [hc.1]; decide))⟩
      · cases h
    · cases h
  | aaload =>
    simp only [sx] at h
    split at h
    · split at h
      · cases h; exact OKs.sty hg hls (ok_c trivial (ok_t (ok_t hst)))
      · cases h
    · cases h
  | invokestatic k =>
    simp only [sx] at h
    split at h
    · split at h
      · split at h
        · rename_i hc
          cases h
          exact ⟨cpy_ok hg hc.1.1 hc.1.2, hls, ok_t (ok_t (ok_t (ok_t (ok_t hst)))), rfl, cpy_row (cK_lt (by rw [hc.1.2]; decide))⟩
        · cases h
      · cases h
    · cases h
  | invokevirtual k =>
    simp only [sx] at h
    split at h
    · split at h
      · split at h
        · rename_i a r hc
          cases h
          have := txt_len a
          exact OKs.sty hg hls (ok_c (show ir (((sTxt a).length : Nat) : Int) from ⟨by omega, by omega⟩) (ok_t hst))
        · cases h
      · cases h
    · split at h
      · split at h
        · cases h
          exact OKs.sty hg hls (ok_c (txt_ir _ _) (ok_t (ok_t hst)))
        · cases h
      · cases h
    · cases h
  | _ => simp [sx] at h
