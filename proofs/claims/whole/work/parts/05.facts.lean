/-! what the tables of part 03 rest on: the Statement's words -/
def lw_good : List Cond := lw_tbl.filter goodWord
theorem good_of {w : Cond} {i : Nat} (h : lw_tbl[i]? = some w) (hg : goodWord w = true) : w ∈ lw_good := List.mem_filter.mpr ⟨List.mem_of_getElem? h, hg⟩
def clN (ci : Nat) : vw_C := vwCl.getD ci ("", TX0, 0)
/-- a field's word -/
def fWord (q : Nat × Nat × Nat × Nat × Nat × Nat) : Cond := if q.2.2.1 = 0 then .fieldLink (oNm q.1) q.2.1 (clN q.2.2.2.1).1 ((clN q.2.2.2.1).2.1 q.2.2.2.2.1).2.1 ((clN q.2.2.2.1).2.1 q.2.2.2.2.1).2.2.1 else .fieldLinkNest (oNm q.1) q.2.1 (clN q.2.2.2.1).1 ((clN q.2.2.2.1).2.1 q.2.2.2.2.1).2.1 ((clN q.2.2.2.1).2.1 q.2.2.2.2.1).2.2.1 RX11
def fTyp (t : Nat) : FieldType := match t with
  | 0 => .int
  | _ => .long
def fChk (q : Nat × Nat × Nat × Nat × Nat × Nat) : Bool :=
  decide (lw_tbl[q.2.2.2.2.2]? = some (fWord q)) && decide (q.2.2.2.1 < 13) && decide (q.2.2.2.2.1 < (clN q.2.2.2.1).2.2) && decide (((clN q.2.2.2.1).2.1 q.2.2.2.2.1).1 = (clN q.2.2.2.1).1) && decide ((clN q.2.2.2.1).2.2 = fNm q.2.2.2.1)
    && (decide (fTy q.2.2.2.1 q.2.2.2.2.1 = 3) || (decide (parseFieldDescriptor ((clN q.2.2.2.1).2.1 q.2.2.2.2.1).2.2.1 = some (fTyp (fTy q.2.2.2.1 q.2.2.2.2.1))) && decide (((clN q.2.2.2.1).2.1 q.2.2.2.2.1).2.2.2 = false) && decide (fTy q.2.2.2.1 q.2.2.2.2.1 < 2)))
    && (decide (q.2.2.1 = 0 ∧ goodWord (fWord q) = true) || decide (q.2.2.1 = 1 ∧ fWord q ∈ nestW))
set_option maxRecDepth 100000 in
theorem fTb_ok : fTb.all fChk = true := by decide +kernel
theorem clN_get {ci : Nat} (h : ci < 13) : vwCl[ci]? = some (clN ci) := by
  have : ci < vwCl.length := h
  simp [clN, List.getD, List.getElem?_eq_getElem this]
theorem fTab_facts {ow k nst ci sl : Nat} (h : fTab ow k = some (nst, ci, sl)) : vwCl[ci]? = some (clN ci) ∧ sl < (clN ci).2.2 ∧ ((clN ci).2.1 sl).1 = (clN ci).1 ∧ (clN ci).2.2 = fNm ci ∧ (fTy ci sl = 3 ∨ (parseFieldDescriptor ((clN ci).2.1 sl).2.2.1 = some (fTyp (fTy ci sl)) ∧ ((clN ci).2.1 sl).2.2.2 = false ∧ fTy ci sl < 2)) ∧
    ((nst = 0 ∧ Cond.fieldLink (oNm ow) k (clN ci).1 ((clN ci).2.1 sl).2.1 ((clN ci).2.1 sl).2.2.1 ∈ lw_good) ∨ (nst = 1 ∧ Cond.fieldLinkNest (oNm ow) k (clN ci).1 ((clN ci).2.1 sl).2.1 ((clN ci).2.1 sl).2.2.1 RX11 ∈ nestW)) := by
  unfold fTab at h
  cases hf : fTb.find? (fun q => q.1 == ow && q.2.1 == k) with
  | none => rw [hf] at h; cases h
  | some q =>
    rw [hf] at h
    obtain ⟨a, b, n, c, s, ix⟩ := q
    have hp := List.find?_some hf
    have hm := List.mem_of_find?_eq_some hf
    have hc := List.all_eq_true.mp fTb_ok _ hm
    simp only [Option.map_some, Option.some.injEq, Prod.mk.injEq] at h
    obtain ⟨rfl, rfl, rfl⟩ := h
    simp only [Bool.and_eq_true, beq_iff_eq] at hp
    obtain ⟨rfl, rfl⟩ := hp
    simp only [fChk, Bool.and_eq_true, Bool.or_eq_true, decide_eq_true_eq] at hc
    obtain ⟨⟨⟨⟨⟨⟨h1, h2⟩, h3⟩, h4⟩, h5⟩, h6⟩, h7⟩ := hc
    refine ⟨clN_get h2, h3, h4, h5, ?_, ?_⟩
    · rcases h6 with h6 | ⟨⟨h6, h6b⟩, h6c⟩
      · exact Or.inl h6
      · exact Or.inr ⟨h6, h6b, h6c⟩
    · rcases h7 with ⟨h7, h8⟩ | ⟨h7, h8⟩
      · left
        subst h7
        exact ⟨rfl, good_of h1 h8⟩
      · right
        subst h7
        exact ⟨rfl, h8⟩
def pMH (y : MethodName) : Bool := decide (y.cls ≠ "java/lang/invoke/MethodHandle") && decide (y.cls ≠ "java/lang/invoke/VarHandle")
def xNm (y : MethodName) : MethodName := ⟨RX7, y.name, y.desc⟩
def xCd (y : MethodName) : Cond := if y.name = "loadBy" then .code (xNm y) cX7_loadBy 2 (some .int) else if y.name = "mayRise" then .code (xNm y) cX7_mayRise 1 (some .boolean) else .code (xNm y) cX7_mayFall 1 (some .boolean)
/-- the words of a call -/
def cWs (ow k C kd : Nat) (q : MI) : List Cond := match kd with
  | 0 => [.methodLink (oNm ow) k q.2.2.2.2.1, .instanceMethod q.2.2.2.2.1, .selects (oNm C) q.2.2.2.2.1 q.2.2.2.2.1, .initialized q.2.2.2.2.1.cls, .code q.2.2.2.2.1 q.2.2.2.1 q.2.1 q.2.2.2.2.2]
  | 4 => [.methodLink (oNm ow) k (xNm q.2.2.2.2.1), .sameMethod RX7 RX7 q.2.2.2.2.1.name q.2.2.2.2.1.desc, .instanceMethod (xNm q.2.2.2.2.1), .selects (oNm C) (xNm q.2.2.2.2.1) q.2.2.2.2.1, .instanceMethod q.2.2.2.2.1, .initialized q.2.2.2.2.1.cls, xCd q.2.2.2.2.1, .code q.2.2.2.2.1 q.2.2.2.1 q.2.1 q.2.2.2.2.2]
  | 2 => [.methodLink (oNm ow) k q.2.2.2.2.1, .static q.2.2.2.2.1, .initialized q.2.2.2.2.1.cls, .code q.2.2.2.2.1 q.2.2.2.1 q.2.1 q.2.2.2.2.2]
  | 3 => [.static q.2.2.2.2.1, .initialized q.2.2.2.2.1.cls, .code q.2.2.2.2.1 q.2.2.2.1 q.2.1 q.2.2.2.2.2]
  | 5 => [.methodLink (oNm ow) k q.2.2.2.2.1, .sameMethod q.2.2.2.2.1.cls q.2.2.2.2.1.cls q.2.2.2.2.1.name q.2.2.2.2.1.desc, .superclass (oNm ow) q.2.2.2.2.1.cls, .instanceMethod q.2.2.2.2.1, .initialized q.2.2.2.2.1.cls, .code q.2.2.2.2.1 q.2.2.2.1 q.2.1 q.2.2.2.2.2]
  | _ => []
theorem gd0 {w : Cond} (i : Nat) (h : (k2_sels lw_privs)[i]? = some w) (hg : goodWord w = true) : w ∈ lw_good := List.mem_filter.mpr ⟨List.mem_append_left _ (List.mem_of_getElem? h), hg⟩
theorem gd1 {w : Cond} (i : Nat) (h : tables_1_1[i]? = some w) (hg : goodWord w = true) : w ∈ lw_good := List.mem_filter.mpr ⟨List.mem_append_right _ (List.mem_append_left _ (List.mem_of_getElem? h)), hg⟩
theorem gd2 {w : Cond} (i : Nat) (h : tables_1_2[i]? = some w) (hg : goodWord w = true) : w ∈ lw_good := List.mem_filter.mpr ⟨List.mem_append_right _ (List.mem_append_right _ (List.mem_append_left _ (List.mem_of_getElem? h))), hg⟩
theorem gd3 {w : Cond} (i : Nat) (h : tables_1_3[i]? = some w) (hg : goodWord w = true) : w ∈ lw_good := List.mem_filter.mpr ⟨List.mem_append_right _ (List.mem_append_right _ (List.mem_append_right _ (List.mem_append_left _ (List.mem_of_getElem? h)))), hg⟩
theorem gd4 {w : Cond} (i : Nat) (h : tables_1_4[i]? = some w) (hg : goodWord w = true) : w ∈ lw_good := List.mem_filter.mpr ⟨List.mem_append_right _ (List.mem_append_right _ (List.mem_append_right _ (List.mem_append_right _ (List.mem_append_left _ (List.mem_of_getElem? h))))), hg⟩
theorem gd5 {w : Cond} (i : Nat) (h : tables_1_5[i]? = some w) (hg : goodWord w = true) : w ∈ lw_good := List.mem_filter.mpr ⟨List.mem_append_right _ (List.mem_append_right _ (List.mem_append_right _ (List.mem_append_right _ (List.mem_append_right _ (List.mem_of_getElem? h))))), hg⟩
theorem fw3 {G : List Cond} {a b c : Cond} (h1 : a ∈ G) (h2 : b ∈ G) (h3 : c ∈ G) : ∀ w ∈ [a, b, c], w ∈ G := fun w hw => by
  simp only [List.mem_cons, List.not_mem_nil, or_false] at hw
  rcases hw with rfl | rfl | rfl <;> assumption
theorem fw4 {G : List Cond} {a b c d : Cond} (h1 : a ∈ G) (h2 : b ∈ G) (h3 : c ∈ G) (h4 : d ∈ G) : ∀ w ∈ [a, b, c, d], w ∈ G := fun w hw => by
  simp only [List.mem_cons, List.not_mem_nil, or_false] at hw
  rcases hw with rfl | rfl | rfl | rfl <;> assumption
theorem fw5 {G : List Cond} {a b c d e : Cond} (h1 : a ∈ G) (h2 : b ∈ G) (h3 : c ∈ G) (h4 : d ∈ G) (h5 : e ∈ G) : ∀ w ∈ [a, b, c, d, e], w ∈ G := fun w hw => by
  simp only [List.mem_cons, List.not_mem_nil, or_false] at hw
  rcases hw with rfl | rfl | rfl | rfl | rfl <;> assumption
theorem fw6 {G : List Cond} {a b c d e f : Cond} (h1 : a ∈ G) (h2 : b ∈ G) (h3 : c ∈ G) (h4 : d ∈ G) (h5 : e ∈ G) (h6 : f ∈ G) : ∀ w ∈ [a, b, c, d, e, f], w ∈ G := fun w hw => by
  simp only [List.mem_cons, List.not_mem_nil, or_false] at hw
  rcases hw with rfl | rfl | rfl | rfl | rfl | rfl <;> assumption
theorem fw8 {G : List Cond} {a b c d e f g i : Cond} (h1 : a ∈ G) (h2 : b ∈ G) (h3 : c ∈ G) (h4 : d ∈ G) (h5 : e ∈ G) (h6 : f ∈ G) (h7 : g ∈ G) (h8 : i ∈ G) : ∀ w ∈ [a, b, c, d, e, f, g, i], w ∈ G := fun w hw => by
  simp only [List.mem_cons, List.not_mem_nil, or_false] at hw
  rcases hw with rfl | rfl | rfl | rfl | rfl | rfl | rfl | rfl <;> assumption
def SF (ow k C kd n : Nat) (q : MI) : Prop := (∀ w ∈ cWs ow k C kd q, w ∈ lw_good) ∧ (q.2.2.2.2.1.cls ≠ "java/lang/invoke/MethodHandle" ∧ q.2.2.2.2.1.cls ≠ "java/lang/invoke/VarHandle") ∧ (parseMethodDescriptor q.2.2.2.2.1.desc).map (fun d => d.parameters.length) = some n ∧ oNm q.1 = q.2.2.2.2.1.cls ∧ plainFor q.2.2.2.2.1 = true ∧ q.2.1 ≤ 20 ∧ q.2.2.2.2.1.name ≠ "<init>" ∧ (kd = 0 → oNm C = q.2.2.2.2.1.cls ∧ C < 13 ∧ oNm C = (clN C).1) ∧ (kd = 4 → C < 13 ∧ oNm C = (clN C).1) ∧ (kd = 3 → Cond.methodLinkNest (oNm ow) k q.2.2.2.2.1 RX11 ∈ nestW) ∧ (kd = 5 → ow < 13 ∧ oNm ow = (clN ow).1)
def SFe (e : Nat × Nat × Nat × Nat × Nat × MI) : Prop := SF e.1 e.2.1 e.2.2.1 e.2.2.2.1 e.2.2.2.2.1 e.2.2.2.2.2
theorem wNum : Cond.fieldLink RX8 46 RX8 "NUMBERS" "[I" ∈ lw_good := gd2 214 rfl rfl
theorem wAc_2_84 : Cond.methodLink RX2 84 arraycopyName ∈ lw_good := gd2 229 rfl rfl
theorem wAc_6_19 : Cond.methodLink RX6 19 arraycopyName ∈ lw_good := gd2 236 rfl rfl
theorem wAcN : Cond.native arraycopyName ∈ lw_good := gd2 231 rfl rfl
theorem wAcS : Cond.static arraycopyName ∈ lw_good := gd2 230 rfl rfl
theorem wAcI : Cond.initialized "java/lang/System" ∈ lw_good := gd1 18 rfl rfl
theorem ac_which : cTb.all (fun q => decide (q.2.2.1 = 6 → (q.1 = 2 ∧ q.2.1 = 84) ∨ (q.1 = 6 ∧ q.2.1 = 19))) = true := by decide +kernel
theorem ac_link {ow k n : Nat} (h : cTab ow k = some (6, n)) : Cond.methodLink (oNm ow) k arraycopyName ∈ lw_good := by
  unfold cTab at h
  cases hf : cTb.find? (fun q => q.1 == ow && q.2.1 == k) with
  | none => rw [hf] at h; cases h
  | some e =>
    rw [hf] at h
    obtain ⟨a, b, kd', n'⟩ := e
    have hp := List.find?_some hf
    have hk := List.all_eq_true.mp ac_which _ (List.mem_of_find?_eq_some hf)
    simp only [Option.map_some, Option.some.injEq, Prod.mk.injEq] at h
    obtain ⟨rfl, rfl⟩ := h
    simp only [Bool.and_eq_true, beq_iff_eq] at hp
    obtain ⟨rfl, rfl⟩ := hp
    simp only [decide_eq_true_eq] at hk
    rcases hk trivial with ⟨rfl, rfl⟩ | ⟨rfl, rfl⟩
    · exact wAc_2_84
    · exact wAc_6_19
theorem wd_0 : Cond.selects RX11 yX11_counted yX11_counted ∈ lw_good := gd0 0 rfl rfl
theorem wd_1 : Cond.selects RX2 yX2_isTied yX2_isTied ∈ lw_good := gd0 1 rfl rfl
theorem wd_2 : Cond.selects RX10 yX10_takeWord yX10_takeWord ∈ lw_good := gd0 2 rfl rfl
theorem wd_3 : Cond.selects RX10 yX10_itemOfWord yX10_itemOfWord ∈ lw_good := gd0 3 rfl rfl
theorem wd_4 : Cond.selects RX10 yX10_isWord yX10_isWord ∈ lw_good := gd0 4 rfl rfl
theorem wd_5 : Cond.selects RX10 yX10_takeNumber yX10_takeNumber ∈ lw_good := gd0 5 rfl rfl
theorem wd_6 : Cond.selects RX8 yX8_readItem yX8_readItem ∈ lw_good := gd0 6 rfl rfl
theorem wd_7 : Cond.selects RX8 yX8_tell yX8_tell ∈ lw_good := gd0 7 rfl rfl
theorem wd_8 : Cond.selects RX2 yX2_isDown yX2_isDown ∈ lw_good := gd0 8 rfl rfl
theorem wd_9 : Cond.selects RX2 yX2_joins yX2_joins ∈ lw_good := gd0 9 rfl rfl
theorem wd_10 : Cond.selects RX2 yX2_tip yX2_tip ∈ lw_good := gd0 10 rfl rfl
theorem wd_11 : Cond.selects RX11 yX11_stepsNow yX11_stepsNow ∈ lw_good := gd0 11 rfl rfl
theorem wd_12 : Cond.selects RX9 yX9_begin yX9_begin ∈ lw_good := gd0 12 rfl rfl
theorem wd_13 : Cond.selects RX9 yX9_note yX9_note ∈ lw_good := gd0 13 rfl rfl
theorem wd_14 : Cond.selects RX9 yX9_stateAt yX9_stateAt ∈ lw_good := gd0 14 rfl rfl
theorem wd_15 : Cond.selects RX9 yX9_goOn yX9_goOn ∈ lw_good := gd0 15 rfl rfl
theorem wd_16 : Cond.selects RX9 yX9_before yX9_before ∈ lw_good := gd0 16 rfl rfl
theorem wd_17 : Cond.selects RX11 yX11_lyingsNow yX11_lyingsNow ∈ lw_good := gd0 17 rfl rfl
theorem wd_18 : Cond.selects RX12 yX12_addBridge yX12_addBridge ∈ lw_good := gd0 18 rfl rfl
theorem wd_19 : Cond.selects RX12 yX12_met yX12_met ∈ lw_good := gd0 19 rfl rfl
theorem wd_20 : Cond.selects RX12 yX12_addChain yX12_addChain ∈ lw_good := gd0 20 rfl rfl
theorem wd_21 : Cond.selects RX12 yX12_isBridge yX12_isBridge ∈ lw_good := gd0 21 rfl rfl
theorem wd_22 : Cond.selects RX12 yX12_isTied yX12_isTied ∈ lw_good := gd0 22 rfl rfl
theorem wd_23 : Cond.selects RX12 yX12_setLoad yX12_setLoad ∈ lw_good := gd0 23 rfl rfl
theorem wd_24 : Cond.selects RX12 yX12_addOne yX12_addOne ∈ lw_good := gd0 24 rfl rfl
theorem wd_25 : Cond.selects RX12 yX12_bad yX12_bad ∈ lw_good := gd0 25 rfl rfl
theorem wd_26 : Cond.selects RX12 yX12_layNow yX12_layNow ∈ lw_good := gd0 26 rfl rfl
theorem wd_27 : Cond.selects RX12 yX12_tieMore yX12_tieMore ∈ lw_good := gd0 27 rfl rfl
theorem wd_28 : Cond.selects RX12 yX12_asNow yX12_asNow ∈ lw_good := gd0 28 rfl rfl
theorem wd_29 : Cond.selects RX12 yX12_loadOf yX12_loadOf ∈ lw_good := gd0 29 rfl rfl
theorem wd_30 : Cond.selects RX12 yX12_isOne yX12_isOne ∈ lw_good := gd0 30 rfl rfl
theorem wd_31 : Cond.selects RX12 yX12_isEnd yX12_isEnd ∈ lw_good := gd0 31 rfl rfl
theorem wd_32 : Cond.selects RX12 yX12_takeItem yX12_takeItem ∈ lw_good := gd0 32 rfl rfl
theorem wd_33 : Cond.selects RX12 yX12_takeNumber yX12_takeNumber ∈ lw_good := gd0 33 rfl rfl
theorem wd_34 : Cond.selects RX12 yX12_tellItem yX12_tellItem ∈ lw_good := gd0 34 rfl rfl
theorem wd_35 : Cond.selects RX12 yX12_copy yX12_copy ∈ lw_good := gd0 35 rfl rfl
theorem wd_36 : Cond.selects RX12 yX12_isPlace yX12_isPlace ∈ lw_good := gd0 36 rfl rfl
theorem wd_37 : Cond.selects RX12 yX12_mayStep yX12_mayStep ∈ lw_good := gd0 37 rfl rfl
theorem wd_38 : Cond.selects RX12 yX12_isOf yX12_isOf ∈ lw_good := gd0 38 rfl rfl
theorem wd_39 : Cond.selects RX12 yX12_tipAll yX12_tipAll ∈ lw_good := gd0 39 rfl rfl
theorem wd_40 : Cond.selects RX12 yX12_tip yX12_tip ∈ lw_good := gd0 40 rfl rfl
theorem wd_41 : Cond.selects RX12 yX12_areSome yX12_areSome ∈ lw_good := gd0 41 rfl rfl
theorem wd_42 : Cond.selects RX12 yX12_findWay yX12_findWay ∈ lw_good := gd0 42 rfl rfl
theorem wd_43 : Cond.selects RX12 yX12_goAll yX12_goAll ∈ lw_good := gd0 43 rfl rfl
theorem wd_44 : Cond.selects RX12 yX12_codeNow yX12_codeNow ∈ lw_good := gd0 44 rfl rfl
theorem wd_45 : Cond.selects RX12 yX12_decode yX12_decode ∈ lw_good := gd0 45 rfl rfl
theorem wd_46 : Cond.selects RX12 yX12_stepsTo yX12_stepsTo ∈ lw_good := gd0 46 rfl rfl
theorem wd_47 : Cond.selects RX12 yX12_allLyings yX12_allLyings ∈ lw_good := gd0 47 rfl rfl
theorem wd_48 : Cond.selects RX12 yX12_lyings yX12_lyings ∈ lw_good := gd0 48 rfl rfl
theorem wd_49 : Cond.selects RX12 yX12_stepsOf yX12_stepsOf ∈ lw_good := gd0 49 rfl rfl
theorem wd_50 : Cond.selects RX12 yX12_countOf yX12_countOf ∈ lw_good := gd0 50 rfl rfl
theorem wd_51 : Cond.selects RX12 yX12_mix yX12_mix ∈ lw_good := gd0 51 rfl rfl
theorem wd_53 : Cond.initialized RX11 ∈ lw_good := gd1 1 rfl rfl
theorem wd_54 : Cond.initialized RX2 ∈ lw_good := gd1 2 rfl rfl
theorem wd_55 : Cond.initialized RX7 ∈ lw_good := gd1 3 rfl rfl
theorem wd_56 : Cond.initialized RX1 ∈ lw_good := gd1 4 rfl rfl
theorem wd_57 : Cond.initialized RX0 ∈ lw_good := gd1 5 rfl rfl
theorem wd_58 : Cond.initialized RX5 ∈ lw_good := gd1 6 rfl rfl
theorem wd_59 : Cond.initialized RX4 ∈ lw_good := gd1 7 rfl rfl
theorem wd_60 : Cond.initialized RX3 ∈ lw_good := gd1 8 rfl rfl
theorem wd_61 : Cond.initialized RX6 ∈ lw_good := gd1 9 rfl rfl
theorem wd_62 : Cond.initialized RX10 ∈ lw_good := gd1 10 rfl rfl
theorem wd_63 : Cond.initialized RX8 ∈ lw_good := gd1 11 rfl rfl
theorem wd_64 : Cond.initialized RX9 ∈ lw_good := gd1 12 rfl rfl
theorem wd_65 : Cond.initialized RX12 ∈ lw_good := gd1 13 rfl rfl
theorem wd_71 : Cond.initialized RJ9 ∈ lw_good := gd1 19 rfl rfl
theorem wd_72 : Cond.initialized RJ7 ∈ lw_good := gd1 20 rfl rfl
theorem wd_73 : Cond.initialized RJ6 ∈ lw_good := gd1 21 rfl rfl
theorem wd_130 : Cond.superclass RX3 RX0 ∈ lw_good := gd1 78 rfl rfl
theorem wd_301 : Cond.methodLink RL 13 yX11_bridge ∈ lw_good := gd2 9 rfl rfl
theorem wd_302 : Cond.instanceMethod yX11_bridge ∈ lw_good := gd2 10 rfl rfl
theorem wd_303 : Cond.selects RX11 yX11_bridge yX11_bridge ∈ lw_good := gd2 11 rfl rfl
theorem wd_304 : Cond.code yX11_bridge cX11_bridge 5 (some .int) ∈ lw_good := gd2 12 rfl rfl
theorem wd_305 : Cond.methodLink RX11 48 yX2_addBridge ∈ lw_good := gd2 13 rfl rfl
theorem wd_306 : Cond.instanceMethod yX2_addBridge ∈ lw_good := gd2 14 rfl rfl
theorem wd_307 : Cond.selects RX2 yX2_addBridge yX2_addBridge ∈ lw_good := gd2 15 rfl rfl
theorem wd_308 : Cond.code yX2_addBridge cX2_addBridge 5 (some .int) ∈ lw_good := gd2 16 rfl rfl
theorem wd_310 : Cond.static yX11_isRoom ∈ lw_good := gd2 18 rfl rfl
theorem wd_311 : Cond.code yX11_isRoom cX11_isRoom 1 (some .boolean) ∈ lw_good := gd2 19 rfl rfl
theorem wd_312 : Cond.methodLink RX2 81 yX6_forget ∈ lw_good := gd2 20 rfl rfl
theorem wd_313 : Cond.instanceMethod yX6_forget ∈ lw_good := gd2 21 rfl rfl
theorem wd_314 : Cond.selects RX6 yX6_forget yX6_forget ∈ lw_good := gd2 22 rfl rfl
theorem wd_315 : Cond.code yX6_forget cX6_forget 1 (none) ∈ lw_good := gd2 23 rfl rfl
theorem wd_316 : Cond.methodLink RX11 52 yX11_counted ∈ lw_good := gd2 24 rfl rfl
theorem wd_318 : Cond.instanceMethod yX11_counted ∈ lw_good := gd2 26 rfl rfl
theorem wd_319 : Cond.code yX11_counted cX11_counted 2 (some .int) ∈ lw_good := gd2 27 rfl rfl
theorem wd_320 : Cond.methodLink RL 18 yX11_chain ∈ lw_good := gd2 28 rfl rfl
theorem wd_321 : Cond.instanceMethod yX11_chain ∈ lw_good := gd2 29 rfl rfl
theorem wd_322 : Cond.selects RX11 yX11_chain yX11_chain ∈ lw_good := gd2 30 rfl rfl
theorem wd_323 : Cond.code yX11_chain cX11_chain 4 (some .int) ∈ lw_good := gd2 31 rfl rfl
theorem wd_324 : Cond.methodLink RX11 56 yX2_addChain ∈ lw_good := gd2 32 rfl rfl
theorem wd_325 : Cond.instanceMethod yX2_addChain ∈ lw_good := gd2 33 rfl rfl
theorem wd_326 : Cond.selects RX2 yX2_addChain yX2_addChain ∈ lw_good := gd2 34 rfl rfl
theorem wd_327 : Cond.code yX2_addChain cX2_addChain 4 (some .int) ∈ lw_good := gd2 35 rfl rfl
theorem wd_328 : Cond.methodLink RX2 98 yX2_isBridge ∈ lw_good := gd2 36 rfl rfl
theorem wd_329 : Cond.instanceMethod yX2_isBridge ∈ lw_good := gd2 37 rfl rfl
theorem wd_330 : Cond.selects RX2 yX2_isBridge yX2_isBridge ∈ lw_good := gd2 38 rfl rfl
theorem wd_331 : Cond.code yX2_isBridge cX2_isBridge 2 (some .boolean) ∈ lw_good := gd2 39 rfl rfl
theorem wd_332 : Cond.methodLink RX2 101 yX2_isTied ∈ lw_good := gd2 40 rfl rfl
theorem wd_334 : Cond.instanceMethod yX2_isTied ∈ lw_good := gd2 42 rfl rfl
theorem wd_335 : Cond.code yX2_isTied cX2_isTied 3 (some .boolean) ∈ lw_good := gd2 43 rfl rfl
theorem wd_336 : Cond.methodLink RL 23 yX11_load ∈ lw_good := gd2 44 rfl rfl
theorem wd_337 : Cond.instanceMethod yX11_load ∈ lw_good := gd2 45 rfl rfl
theorem wd_338 : Cond.selects RX11 yX11_load yX11_load ∈ lw_good := gd2 46 rfl rfl
theorem wd_339 : Cond.code yX11_load cX11_load 3 (some .int) ∈ lw_good := gd2 47 rfl rfl
theorem wd_340 : Cond.methodLink RX11 60 yX2_setBallast ∈ lw_good := gd2 48 rfl rfl
theorem wd_341 : Cond.instanceMethod yX2_setBallast ∈ lw_good := gd2 49 rfl rfl
theorem wd_342 : Cond.selects RX2 yX2_setBallast yX2_setBallast ∈ lw_good := gd2 50 rfl rfl
theorem wd_343 : Cond.code yX2_setBallast cX2_setBallast 4 (some .int) ∈ lw_good := gd2 51 rfl rfl
theorem wd_344 : Cond.methodLink RL 28 yX11_one ∈ lw_good := gd2 52 rfl rfl
theorem wd_345 : Cond.instanceMethod yX11_one ∈ lw_good := gd2 53 rfl rfl
theorem wd_346 : Cond.selects RX11 yX11_one yX11_one ∈ lw_good := gd2 54 rfl rfl
theorem wd_347 : Cond.code yX11_one cX11_one 3 (some .int) ∈ lw_good := gd2 55 rfl rfl
theorem wd_348 : Cond.methodLink RX11 64 yX2_addPerson ∈ lw_good := gd2 56 rfl rfl
theorem wd_349 : Cond.instanceMethod yX2_addPerson ∈ lw_good := gd2 57 rfl rfl
theorem wd_350 : Cond.selects RX2 yX2_addPerson yX2_addPerson ∈ lw_good := gd2 58 rfl rfl
theorem wd_351 : Cond.code yX2_addPerson cX2_addPerson 3 (some .int) ∈ lw_good := gd2 59 rfl rfl
theorem wd_352 : Cond.methodLink RL 32 yX11_weight ∈ lw_good := gd2 60 rfl rfl
theorem wd_353 : Cond.instanceMethod yX11_weight ∈ lw_good := gd2 61 rfl rfl
theorem wd_354 : Cond.selects RX11 yX11_weight yX11_weight ∈ lw_good := gd2 62 rfl rfl
theorem wd_355 : Cond.code yX11_weight cX11_weight 2 (some .int) ∈ lw_good := gd2 63 rfl rfl
theorem wd_356 : Cond.methodLink RX11 67 yX2_isBridge ∈ lw_good := gd2 64 rfl rfl
theorem wd_357 : Cond.methodLink RX11 71 yX2_loadOn ∈ lw_good := gd2 65 rfl rfl
theorem wd_358 : Cond.instanceMethod yX2_loadOn ∈ lw_good := gd2 66 rfl rfl
theorem wd_359 : Cond.selects RX2 yX2_loadOn yX2_loadOn ∈ lw_good := gd2 67 rfl rfl
theorem wd_360 : Cond.code yX2_loadOn cX2_loadOn 4 (some .int) ∈ lw_good := gd2 68 rfl rfl
theorem wd_361 : Cond.methodLink RX2 112 yX7_loadBy ∈ lw_good := gd2 69 rfl rfl
theorem wd_362 : Cond.instanceMethod yX7_loadBy ∈ lw_good := gd2 70 rfl rfl
theorem wd_363 : Cond.selects RX7 yX7_loadBy yX7_loadBy ∈ lw_good := gd2 71 rfl rfl
theorem wd_364 : Cond.sameMethod RX7 RX7 "loadBy" "(I)I" ∈ lw_good := gd2 72 rfl rfl
theorem wd_365 : Cond.selects RX0 yX7_loadBy yX0_loadBy ∈ lw_good := gd2 73 rfl rfl
theorem wd_366 : Cond.instanceMethod yX0_loadBy ∈ lw_good := gd2 74 rfl rfl
theorem wd_367 : Cond.code yX0_loadBy cX0_loadBy 2 (some .int) ∈ lw_good := gd2 75 rfl rfl
theorem wd_368 : Cond.selects RX1 yX7_loadBy yX1_loadBy ∈ lw_good := gd2 76 rfl rfl
theorem wd_369 : Cond.instanceMethod yX1_loadBy ∈ lw_good := gd2 77 rfl rfl
theorem wd_370 : Cond.code yX1_loadBy cX1_loadBy 2 (some .int) ∈ lw_good := gd2 78 rfl rfl
theorem wd_371 : Cond.selects RX3 yX7_loadBy yX3_loadBy ∈ lw_good := gd2 79 rfl rfl
theorem wd_372 : Cond.instanceMethod yX3_loadBy ∈ lw_good := gd2 80 rfl rfl
theorem wd_373 : Cond.code yX3_loadBy cX3_loadBy 3 (some .int) ∈ lw_good := gd2 81 rfl rfl
theorem wd_374 : Cond.methodLink RX3 7 yX0_loadBy ∈ lw_good := gd2 82 rfl rfl
theorem wd_375 : Cond.selects RX4 yX7_loadBy yX1_loadBy ∈ lw_good := gd2 83 rfl rfl
theorem wd_376 : Cond.selects RX5 yX7_loadBy yX7_loadBy ∈ lw_good := gd2 84 rfl rfl
theorem wd_377 : Cond.code yX7_loadBy cX7_loadBy 2 (some .int) ∈ lw_good := gd2 85 rfl rfl
theorem wd_378 : Cond.methodLink RL 37 yX11_where ∈ lw_good := gd2 86 rfl rfl
theorem wd_379 : Cond.instanceMethod yX11_where ∈ lw_good := gd2 87 rfl rfl
theorem wd_380 : Cond.selects RX11 yX11_where yX11_where ∈ lw_good := gd2 88 rfl rfl
theorem wd_381 : Cond.code yX11_where cX11_where 2 (some .int) ∈ lw_good := gd2 89 rfl rfl
theorem wd_382 : Cond.methodLink RX11 74 yX2_isPerson ∈ lw_good := gd2 90 rfl rfl
theorem wd_383 : Cond.instanceMethod yX2_isPerson ∈ lw_good := gd2 91 rfl rfl
theorem wd_384 : Cond.selects RX2 yX2_isPerson yX2_isPerson ∈ lw_good := gd2 92 rfl rfl
theorem wd_385 : Cond.code yX2_isPerson cX2_isPerson 2 (some .boolean) ∈ lw_good := gd2 93 rfl rfl
theorem wd_386 : Cond.methodLink RL 41 yX11_lying ∈ lw_good := gd2 94 rfl rfl
theorem wd_387 : Cond.instanceMethod yX11_lying ∈ lw_good := gd2 95 rfl rfl
theorem wd_388 : Cond.selects RX11 yX11_lying yX11_lying ∈ lw_good := gd2 96 rfl rfl
theorem wd_389 : Cond.code yX11_lying cX11_lying 1 (some .int) ∈ lw_good := gd2 97 rfl rfl
theorem wd_390 : Cond.methodLink RL 48 yX11_type ∈ lw_good := gd2 98 rfl rfl
theorem wd_391 : Cond.instanceMethod yX11_type ∈ lw_good := gd2 99 rfl rfl
theorem wd_392 : Cond.selects RX11 yX11_type yX11_type ∈ lw_good := gd2 100 rfl rfl
theorem wd_393 : Cond.code yX11_type cX11_type 4 (some .int) ∈ lw_good := gd2 101 rfl rfl
theorem wd_394 : Cond.methodLink RX11 85 yX10_append ∈ lw_good := gd2 102 rfl rfl
theorem wd_395 : Cond.instanceMethod yX10_append ∈ lw_good := gd2 103 rfl rfl
theorem wd_396 : Cond.selects RX10 yX10_append yX10_append ∈ lw_good := gd2 104 rfl rfl
theorem wd_397 : Cond.code yX10_append cX10_append 5 (some .int) ∈ lw_good := gd2 105 rfl rfl
theorem wd_399 : Cond.methodLink RL 53 yX11_clear ∈ lw_good := gd2 107 rfl rfl
theorem wd_400 : Cond.instanceMethod yX11_clear ∈ lw_good := gd2 108 rfl rfl
theorem wd_401 : Cond.selects RX11 yX11_clear yX11_clear ∈ lw_good := gd2 109 rfl rfl
theorem wd_402 : Cond.code yX11_clear cX11_clear 1 (some .int) ∈ lw_good := gd2 110 rfl rfl
theorem wd_403 : Cond.methodLink RX11 89 yX10_wipe ∈ lw_good := gd2 111 rfl rfl
theorem wd_404 : Cond.instanceMethod yX10_wipe ∈ lw_good := gd2 112 rfl rfl
theorem wd_405 : Cond.selects RX10 yX10_wipe yX10_wipe ∈ lw_good := gd2 113 rfl rfl
theorem wd_406 : Cond.code yX10_wipe cX10_wipe 2 (some .int) ∈ lw_good := gd2 114 rfl rfl
theorem wd_407 : Cond.methodLink RL 57 yX11_read ∈ lw_good := gd2 115 rfl rfl
theorem wd_408 : Cond.instanceMethod yX11_read ∈ lw_good := gd2 116 rfl rfl
theorem wd_409 : Cond.selects RX11 yX11_read yX11_read ∈ lw_good := gd2 117 rfl rfl
theorem wd_410 : Cond.code yX11_read cX11_read 2 (some .int) ∈ lw_good := gd2 118 rfl rfl
theorem wd_411 : Cond.methodLink RX11 93 yX8_readInto ∈ lw_good := gd2 119 rfl rfl
theorem wd_412 : Cond.instanceMethod yX8_readInto ∈ lw_good := gd2 120 rfl rfl
theorem wd_413 : Cond.selects RX8 yX8_readInto yX8_readInto ∈ lw_good := gd2 121 rfl rfl
theorem wd_414 : Cond.code yX8_readInto cX8_readInto 5 (some .int) ∈ lw_good := gd2 122 rfl rfl
theorem wd_415 : Cond.methodLink RX8 15 yX2_empty ∈ lw_good := gd2 123 rfl rfl
theorem wd_416 : Cond.instanceMethod yX2_empty ∈ lw_good := gd2 124 rfl rfl
theorem wd_417 : Cond.selects RX2 yX2_empty yX2_empty ∈ lw_good := gd2 125 rfl rfl
theorem wd_418 : Cond.code yX2_empty cX2_empty 1 (none) ∈ lw_good := gd2 126 rfl rfl
theorem wd_419 : Cond.methodLink RX8 20 yX10_lookAtFirst ∈ lw_good := gd2 127 rfl rfl
theorem wd_420 : Cond.instanceMethod yX10_lookAtFirst ∈ lw_good := gd2 128 rfl rfl
theorem wd_421 : Cond.selects RX10 yX10_lookAtFirst yX10_lookAtFirst ∈ lw_good := gd2 129 rfl rfl
theorem wd_422 : Cond.code yX10_lookAtFirst cX10_lookAtFirst 1 (none) ∈ lw_good := gd2 130 rfl rfl
theorem wd_423 : Cond.methodLink RX10 24 yX10_lookAtNext ∈ lw_good := gd2 131 rfl rfl
theorem wd_424 : Cond.instanceMethod yX10_lookAtNext ∈ lw_good := gd2 132 rfl rfl
theorem wd_425 : Cond.selects RX10 yX10_lookAtNext yX10_lookAtNext ∈ lw_good := gd2 133 rfl rfl
theorem wd_426 : Cond.code yX10_lookAtNext cX10_lookAtNext 1 (none) ∈ lw_good := gd2 134 rfl rfl
theorem wd_427 : Cond.methodLink RX10 33 yX10_isLetter ∈ lw_good := gd2 135 rfl rfl
theorem wd_428 : Cond.static yX10_isLetter ∈ lw_good := gd2 136 rfl rfl
theorem wd_429 : Cond.code yX10_isLetter cX10_isLetter 1 (some .boolean) ∈ lw_good := gd2 137 rfl rfl
theorem wd_430 : Cond.methodLink RX10 37 yX10_takeWord ∈ lw_good := gd2 138 rfl rfl
theorem wd_432 : Cond.instanceMethod yX10_takeWord ∈ lw_good := gd2 140 rfl rfl
theorem wd_433 : Cond.code yX10_takeWord cX10_takeWord 1 (none) ∈ lw_good := gd2 141 rfl rfl
theorem wd_434 : Cond.methodLink RX10 46 yX10_itemOfWord ∈ lw_good := gd2 142 rfl rfl
theorem wd_436 : Cond.instanceMethod yX10_itemOfWord ∈ lw_good := gd2 144 rfl rfl
theorem wd_437 : Cond.code yX10_itemOfWord cX10_itemOfWord 1 (some .int) ∈ lw_good := gd2 145 rfl rfl
theorem wd_439 : Cond.methodLink RX10 55 yX10_isWord ∈ lw_good := gd2 147 rfl rfl
theorem wd_441 : Cond.instanceMethod yX10_isWord ∈ lw_good := gd2 149 rfl rfl
theorem wd_442 : Cond.code yX10_isWord cX10_isWord 3 (some .boolean) ∈ lw_good := gd2 150 rfl rfl
theorem wd_495 : Cond.methodLink RX10 40 yX10_isFigure ∈ lw_good := gd2 203 rfl rfl
theorem wd_496 : Cond.static yX10_isFigure ∈ lw_good := gd2 204 rfl rfl
theorem wd_497 : Cond.code yX10_isFigure cX10_isFigure 1 (some .boolean) ∈ lw_good := gd2 205 rfl rfl
theorem wd_498 : Cond.methodLink RX10 43 yX10_takeNumber ∈ lw_good := gd2 206 rfl rfl
theorem wd_500 : Cond.instanceMethod yX10_takeNumber ∈ lw_good := gd2 208 rfl rfl
theorem wd_501 : Cond.code yX10_takeNumber cX10_takeNumber 1 (none) ∈ lw_good := gd2 209 rfl rfl
theorem wd_502 : Cond.methodLink RX8 29 yX8_readItem ∈ lw_good := gd2 210 rfl rfl
theorem wd_504 : Cond.instanceMethod yX8_readItem ∈ lw_good := gd2 212 rfl rfl
theorem wd_505 : Cond.code yX8_readItem cX8_readItem 3 (some .boolean) ∈ lw_good := gd2 213 rfl rfl
theorem wd_508 : Cond.methodLink RX8 49 yX10_lookAtNext ∈ lw_good := gd2 216 rfl rfl
theorem wd_509 : Cond.methodLink RX8 36 yX8_tell ∈ lw_good := gd2 217 rfl rfl
theorem wd_511 : Cond.instanceMethod yX8_tell ∈ lw_good := gd2 219 rfl rfl
theorem wd_512 : Cond.code yX8_tell cX8_tell 2 (some .int) ∈ lw_good := gd2 220 rfl rfl
theorem wd_513 : Cond.methodLink RX8 52 yX2_addBridge ∈ lw_good := gd2 221 rfl rfl
theorem wd_514 : Cond.methodLink RX8 56 yX2_addChain ∈ lw_good := gd2 222 rfl rfl
theorem wd_515 : Cond.methodLink RX8 60 yX2_addPerson ∈ lw_good := gd2 223 rfl rfl
theorem wd_516 : Cond.methodLink RX8 64 yX2_setBallast ∈ lw_good := gd2 224 rfl rfl
theorem wd_517 : Cond.methodLink RX11 97 yX2_take ∈ lw_good := gd2 225 rfl rfl
theorem wd_518 : Cond.instanceMethod yX2_take ∈ lw_good := gd2 226 rfl rfl
theorem wd_519 : Cond.selects RX2 yX2_take yX2_take ∈ lw_good := gd2 227 rfl rfl
theorem wd_520 : Cond.code yX2_take cX2_take 2 (none) ∈ lw_good := gd2 228 rfl rfl
theorem wd_524 : Cond.methodLink RX2 90 yX6_take ∈ lw_good := gd2 232 rfl rfl
theorem wd_525 : Cond.instanceMethod yX6_take ∈ lw_good := gd2 233 rfl rfl
theorem wd_526 : Cond.selects RX6 yX6_take yX6_take ∈ lw_good := gd2 234 rfl rfl
theorem wd_527 : Cond.code yX6_take cX6_take 2 (none) ∈ lw_good := gd2 235 rfl rfl
theorem wd_530 : Cond.methodLink RL 61 yX11_step ∈ lw_good := gd2 238 rfl rfl
theorem wd_531 : Cond.instanceMethod yX11_step ∈ lw_good := gd2 239 rfl rfl
theorem wd_532 : Cond.selects RX11 yX11_step yX11_step ∈ lw_good := gd3 0 rfl rfl
theorem wd_533 : Cond.code yX11_step cX11_step 3 (some .int) ∈ lw_good := gd3 1 rfl rfl
theorem wd_534 : Cond.methodLink RX11 101 yX2_isPlace ∈ lw_good := gd3 2 rfl rfl
theorem wd_535 : Cond.instanceMethod yX2_isPlace ∈ lw_good := gd3 3 rfl rfl
theorem wd_536 : Cond.selects RX2 yX2_isPlace yX2_isPlace ∈ lw_good := gd3 4 rfl rfl
theorem wd_537 : Cond.code yX2_isPlace cX2_isPlace 2 (some .boolean) ∈ lw_good := gd3 5 rfl rfl
theorem wd_538 : Cond.methodLink RX11 104 yX2_canGo ∈ lw_good := gd3 6 rfl rfl
theorem wd_539 : Cond.instanceMethod yX2_canGo ∈ lw_good := gd3 7 rfl rfl
theorem wd_540 : Cond.selects RX2 yX2_canGo yX2_canGo ∈ lw_good := gd3 8 rfl rfl
theorem wd_541 : Cond.code yX2_canGo cX2_canGo 6 (some .boolean) ∈ lw_good := gd3 9 rfl rfl
theorem wd_542 : Cond.methodLink RX2 116 yJ9_min_7cf53 ∈ lw_good := gd3 10 rfl rfl
theorem wd_543 : Cond.static yJ9_min_7cf53 ∈ lw_good := gd3 11 rfl rfl
theorem wd_544 : Cond.code yJ9_min_7cf53 cJ9_min_7cf53 2 (some .int) ∈ lw_good := gd3 12 rfl rfl
theorem wd_545 : Cond.methodLink RX2 122 yJ9_max_7cf53 ∈ lw_good := gd3 13 rfl rfl
theorem wd_546 : Cond.static yJ9_max_7cf53 ∈ lw_good := gd3 14 rfl rfl
theorem wd_547 : Cond.code yJ9_max_7cf53 cJ9_max_7cf53 2 (some .int) ∈ lw_good := gd3 15 rfl rfl
theorem wd_548 : Cond.methodLink RX2 125 yX2_isDown ∈ lw_good := gd3 16 rfl rfl
theorem wd_550 : Cond.instanceMethod yX2_isDown ∈ lw_good := gd3 18 rfl rfl
theorem wd_551 : Cond.code yX2_isDown cX2_isDown 2 (some .boolean) ∈ lw_good := gd3 19 rfl rfl
theorem wd_552 : Cond.methodLink RX2 108 yX2_joins ∈ lw_good := gd3 20 rfl rfl
theorem wd_554 : Cond.instanceMethod yX2_joins ∈ lw_good := gd3 22 rfl rfl
theorem wd_555 : Cond.code yX2_joins cX2_joins 3 (some .boolean) ∈ lw_good := gd3 23 rfl rfl
theorem wd_556 : Cond.methodLink RX11 112 yX2_packed ∈ lw_good := gd3 24 rfl rfl
theorem wd_557 : Cond.instanceMethod yX2_packed ∈ lw_good := gd3 25 rfl rfl
theorem wd_558 : Cond.selects RX2 yX2_packed yX2_packed ∈ lw_good := gd3 26 rfl rfl
theorem wd_559 : Cond.code yX2_packed cX2_packed 3 (some .int) ∈ lw_good := gd3 27 rfl rfl
theorem wd_560 : Cond.methodLink RX11 115 yX6_push ∈ lw_good := gd3 28 rfl rfl
theorem wd_561 : Cond.instanceMethod yX6_push ∈ lw_good := gd3 29 rfl rfl
theorem wd_562 : Cond.selects RX6 yX6_push yX6_push ∈ lw_good := gd3 30 rfl rfl
theorem wd_563 : Cond.code yX6_push cX6_push 2 (none) ∈ lw_good := gd3 31 rfl rfl
theorem wd_564 : Cond.methodLink RX11 121 yX2_go ∈ lw_good := gd3 32 rfl rfl
theorem wd_565 : Cond.instanceMethod yX2_go ∈ lw_good := gd3 33 rfl rfl
theorem wd_566 : Cond.selects RX2 yX2_go yX2_go ∈ lw_good := gd3 34 rfl rfl
theorem wd_567 : Cond.code yX2_go cX2_go 7 (none) ∈ lw_good := gd3 35 rfl rfl
theorem wd_568 : Cond.methodLink RX2 128 yX2_loadOn ∈ lw_good := gd3 36 rfl rfl
theorem wd_569 : Cond.methodLink RX2 131 yX2_tip ∈ lw_good := gd3 37 rfl rfl
theorem wd_571 : Cond.instanceMethod yX2_tip ∈ lw_good := gd3 39 rfl rfl
theorem wd_572 : Cond.code yX2_tip cX2_tip 5 (none) ∈ lw_good := gd3 40 rfl rfl
theorem wd_573 : Cond.methodLink RX2 135 yX7_mayFall ∈ lw_good := gd3 41 rfl rfl
theorem wd_574 : Cond.instanceMethod yX7_mayFall ∈ lw_good := gd3 42 rfl rfl
theorem wd_575 : Cond.selects RX7 yX7_mayFall yX7_mayFall ∈ lw_good := gd3 43 rfl rfl
theorem wd_576 : Cond.sameMethod RX7 RX7 "mayFall" "()Z" ∈ lw_good := gd3 44 rfl rfl
theorem wd_577 : Cond.selects RX0 yX7_mayFall yX7_mayFall ∈ lw_good := gd3 45 rfl rfl
theorem wd_578 : Cond.selects RX1 yX7_mayFall yX7_mayFall ∈ lw_good := gd3 46 rfl rfl
theorem wd_579 : Cond.selects RX3 yX7_mayFall yX7_mayFall ∈ lw_good := gd3 47 rfl rfl
theorem wd_580 : Cond.selects RX4 yX7_mayFall yX4_mayFall ∈ lw_good := gd3 48 rfl rfl
theorem wd_581 : Cond.instanceMethod yX4_mayFall ∈ lw_good := gd3 49 rfl rfl
theorem wd_582 : Cond.code yX4_mayFall cX4_mayFall 1 (some .boolean) ∈ lw_good := gd3 50 rfl rfl
theorem wd_583 : Cond.selects RX5 yX7_mayFall yX7_mayFall ∈ lw_good := gd3 51 rfl rfl
theorem wd_584 : Cond.code yX7_mayFall cX7_mayFall 1 (some .boolean) ∈ lw_good := gd3 52 rfl rfl
theorem wd_585 : Cond.methodLink RX2 139 yX7_mayRise ∈ lw_good := gd3 53 rfl rfl
theorem wd_586 : Cond.instanceMethod yX7_mayRise ∈ lw_good := gd3 54 rfl rfl
theorem wd_587 : Cond.selects RX7 yX7_mayRise yX7_mayRise ∈ lw_good := gd3 55 rfl rfl
theorem wd_588 : Cond.sameMethod RX7 RX7 "mayRise" "()Z" ∈ lw_good := gd3 56 rfl rfl
theorem wd_589 : Cond.selects RX0 yX7_mayRise yX7_mayRise ∈ lw_good := gd3 57 rfl rfl
theorem wd_590 : Cond.selects RX1 yX7_mayRise yX7_mayRise ∈ lw_good := gd3 58 rfl rfl
theorem wd_591 : Cond.selects RX3 yX7_mayRise yX7_mayRise ∈ lw_good := gd3 59 rfl rfl
theorem wd_592 : Cond.selects RX4 yX7_mayRise yX7_mayRise ∈ lw_good := gd3 60 rfl rfl
theorem wd_593 : Cond.selects RX5 yX7_mayRise yX5_mayRise ∈ lw_good := gd3 61 rfl rfl
theorem wd_594 : Cond.instanceMethod yX5_mayRise ∈ lw_good := gd3 62 rfl rfl
theorem wd_595 : Cond.code yX5_mayRise cX5_mayRise 1 (some .boolean) ∈ lw_good := gd3 63 rfl rfl
theorem wd_596 : Cond.code yX7_mayRise cX7_mayRise 1 (some .boolean) ∈ lw_good := gd3 64 rfl rfl
theorem wd_597 : Cond.methodLink RL 65 yX11_undo ∈ lw_good := gd3 65 rfl rfl
theorem wd_598 : Cond.instanceMethod yX11_undo ∈ lw_good := gd3 66 rfl rfl
theorem wd_599 : Cond.selects RX11 yX11_undo yX11_undo ∈ lw_good := gd3 67 rfl rfl
theorem wd_600 : Cond.code yX11_undo cX11_undo 1 (some .int) ∈ lw_good := gd3 68 rfl rfl
theorem wd_601 : Cond.methodLink RX11 128 yX6_pop ∈ lw_good := gd3 69 rfl rfl
theorem wd_602 : Cond.instanceMethod yX6_pop ∈ lw_good := gd3 70 rfl rfl
theorem wd_603 : Cond.selects RX6 yX6_pop yX6_pop ∈ lw_good := gd3 71 rfl rfl
theorem wd_604 : Cond.code yX6_pop cX6_pop 1 (some .int) ∈ lw_good := gd3 72 rfl rfl
theorem wd_605 : Cond.methodLink RX11 131 yX2_unpack ∈ lw_good := gd3 73 rfl rfl
theorem wd_606 : Cond.instanceMethod yX2_unpack ∈ lw_good := gd3 74 rfl rfl
theorem wd_607 : Cond.selects RX2 yX2_unpack yX2_unpack ∈ lw_good := gd3 75 rfl rfl
theorem wd_608 : Cond.code yX2_unpack cX2_unpack 4 (none) ∈ lw_good := gd3 76 rfl rfl
theorem wd_609 : Cond.methodLink RL 69 yX11_way ∈ lw_good := gd3 77 rfl rfl
theorem wd_610 : Cond.instanceMethod yX11_way ∈ lw_good := gd3 78 rfl rfl
theorem wd_611 : Cond.selects RX11 yX11_way yX11_way ∈ lw_good := gd3 79 rfl rfl
theorem wd_612 : Cond.code yX11_way cX11_way 5 (some .int) ∈ lw_good := gd3 80 rfl rfl
theorem wd_613 : Cond.methodLink RX11 134 yX2_areSome ∈ lw_good := gd3 81 rfl rfl
theorem wd_614 : Cond.instanceMethod yX2_areSome ∈ lw_good := gd3 82 rfl rfl
theorem wd_615 : Cond.selects RX2 yX2_areSome yX2_areSome ∈ lw_good := gd3 83 rfl rfl
theorem wd_616 : Cond.code yX2_areSome cX2_areSome 2 (some .boolean) ∈ lw_good := gd3 84 rfl rfl
theorem wd_617 : Cond.methodLink RX11 137 yX11_isRoom ∈ lw_good := gd3 85 rfl rfl
theorem wd_618 : Cond.methodLink RX11 140 yX11_stepsNow ∈ lw_good := gd3 86 rfl rfl
theorem wd_620 : Cond.instanceMethod yX11_stepsNow ∈ lw_good := gd3 88 rfl rfl
theorem wd_621 : Cond.code yX11_stepsNow cX11_stepsNow 3 (some .int) ∈ lw_good := gd3 89 rfl rfl
theorem wd_622 : Cond.methodLink RX11 178 yX9_shorter ∈ lw_good := gd3 90 rfl rfl
theorem wd_623 : Cond.instanceMethod yX9_shorter ∈ lw_good := gd3 91 rfl rfl
theorem wd_624 : Cond.selects RX9 yX9_shorter yX9_shorter ∈ lw_good := gd3 92 rfl rfl
theorem wd_625 : Cond.code yX9_shorter cX9_shorter 10 (some .int) ∈ lw_good := gd3 93 rfl rfl
theorem wd_626 : Cond.methodLink RX9 19 yX2_packed ∈ lw_good := gd3 94 rfl rfl
theorem wd_627 : Cond.methodLink RX9 25 yX9_begin ∈ lw_good := gd3 95 rfl rfl
theorem wd_629 : Cond.instanceMethod yX9_begin ∈ lw_good := gd3 97 rfl rfl
theorem wd_630 : Cond.code yX9_begin cX9_begin 2 (none) ∈ lw_good := gd3 98 rfl rfl
theorem wd_631 : Cond.methodLink RX9 51 yJ7_fill_d0a16 ∈ lw_good := gd3 99 rfl rfl
theorem wd_632 : Cond.static yJ7_fill_d0a16 ∈ lw_good := gd3 100 rfl rfl
theorem wd_633 : Cond.code yJ7_fill_d0a16 cJ7_fill_d0a16 5 (none) ∈ lw_good := gd3 101 rfl rfl
theorem wd_634 : Cond.methodLink RX9 60 yX9_note ∈ lw_good := gd3 102 rfl rfl
theorem wd_636 : Cond.instanceMethod yX9_note ∈ lw_good := gd3 104 rfl rfl
theorem wd_637 : Cond.code yX9_note cX9_note 6 (none) ∈ lw_good := gd3 105 rfl rfl
theorem wd_638 : Cond.methodLink RX9 33 yX9_stateAt ∈ lw_good := gd3 106 rfl rfl
theorem wd_640 : Cond.instanceMethod yX9_stateAt ∈ lw_good := gd3 108 rfl rfl
theorem wd_641 : Cond.code yX9_stateAt cX9_stateAt 2 (some .int) ∈ lw_good := gd3 109 rfl rfl
theorem wd_642 : Cond.methodLink RX9 37 yX2_unpack ∈ lw_good := gd3 110 rfl rfl
theorem wd_643 : Cond.methodLink RX9 40 yX2_areIn ∈ lw_good := gd3 111 rfl rfl
theorem wd_644 : Cond.instanceMethod yX2_areIn ∈ lw_good := gd3 112 rfl rfl
theorem wd_645 : Cond.selects RX2 yX2_areIn yX2_areIn ∈ lw_good := gd3 113 rfl rfl
theorem wd_646 : Cond.code yX2_areIn cX2_areIn 4 (some .boolean) ∈ lw_good := gd3 114 rfl rfl
theorem wd_647 : Cond.methodLink RX9 47 yX9_goOn ∈ lw_good := gd3 115 rfl rfl
theorem wd_649 : Cond.instanceMethod yX9_goOn ∈ lw_good := gd3 117 rfl rfl
theorem wd_650 : Cond.code yX9_goOn cX9_goOn 8 (none) ∈ lw_good := gd3 118 rfl rfl
theorem wd_651 : Cond.methodLink RX9 73 yX2_canGo ∈ lw_good := gd3 119 rfl rfl
theorem wd_652 : Cond.methodLink RX9 76 yX2_go ∈ lw_good := gd3 120 rfl rfl
theorem wd_653 : Cond.methodLink RX11 143 yX9_stepOfWay ∈ lw_good := gd3 121 rfl rfl
theorem wd_654 : Cond.instanceMethod yX9_stepOfWay ∈ lw_good := gd3 122 rfl rfl
theorem wd_655 : Cond.selects RX9 yX9_stepOfWay yX9_stepOfWay ∈ lw_good := gd3 123 rfl rfl
theorem wd_656 : Cond.code yX9_stepOfWay cX9_stepOfWay 5 (some .int) ∈ lw_good := gd3 124 rfl rfl
theorem wd_657 : Cond.methodLink RX9 79 yX9_before ∈ lw_good := gd3 125 rfl rfl
theorem wd_659 : Cond.instanceMethod yX9_before ∈ lw_good := gd3 127 rfl rfl
theorem wd_660 : Cond.code yX9_before cX9_before 2 (some .int) ∈ lw_good := gd3 128 rfl rfl
theorem wd_661 : Cond.methodLink RX9 82 yX9_stepBetween ∈ lw_good := gd3 129 rfl rfl
theorem wd_662 : Cond.static yX9_stepBetween ∈ lw_good := gd3 130 rfl rfl
theorem wd_663 : Cond.code yX9_stepBetween cX9_stepBetween 5 (some .int) ∈ lw_good := gd3 131 rfl rfl
theorem wd_664 : Cond.methodLink RL 73 yX11_reach ∈ lw_good := gd3 132 rfl rfl
theorem wd_665 : Cond.instanceMethod yX11_reach ∈ lw_good := gd3 133 rfl rfl
theorem wd_666 : Cond.selects RX11 yX11_reach yX11_reach ∈ lw_good := gd3 134 rfl rfl
theorem wd_667 : Cond.code yX11_reach cX11_reach 3 (some .int) ∈ lw_good := gd3 135 rfl rfl
theorem wd_668 : Cond.methodLink RX11 146 yX11_lyingsNow ∈ lw_good := gd3 136 rfl rfl
theorem wd_670 : Cond.instanceMethod yX11_lyingsNow ∈ lw_good := gd3 138 rfl rfl
theorem wd_671 : Cond.code yX11_lyingsNow cX11_lyingsNow 1 (some .int) ∈ lw_good := gd3 139 rfl rfl
theorem wd_672 : Cond.methodLink RX11 152 yJ6_bitCount_0f7a4 ∈ lw_good := gd3 140 rfl rfl
theorem wd_673 : Cond.static yJ6_bitCount_0f7a4 ∈ lw_good := gd3 141 rfl rfl
theorem wd_674 : Cond.code yJ6_bitCount_0f7a4 cJ6_bitCount_0f7a4 1 (some .int) ∈ lw_good := gd3 142 rfl rfl
theorem wd_678 : Cond.methodLink RX11 157 yX2_allBridges ∈ lw_good := gd3 146 rfl rfl
theorem wd_679 : Cond.instanceMethod yX2_allBridges ∈ lw_good := gd3 147 rfl rfl
theorem wd_680 : Cond.selects RX2 yX2_allBridges yX2_allBridges ∈ lw_good := gd3 148 rfl rfl
theorem wd_681 : Cond.code yX2_allBridges cX2_allBridges 1 (some .int) ∈ lw_good := gd3 149 rfl rfl
theorem wd_682 : Cond.methodLink RX11 160 yX11_downInAll ∈ lw_good := gd3 150 rfl rfl
theorem wd_683 : Cond.static yX11_downInAll ∈ lw_good := gd3 151 rfl rfl
theorem wd_684 : Cond.code yX11_downInAll cX11_downInAll 4 (some .int) ∈ lw_good := gd3 152 rfl rfl
theorem wd_685 : Cond.methodLink RX11 169 yX11_isAmong ∈ lw_good := gd3 153 rfl rfl
theorem wd_686 : Cond.static yX11_isAmong ∈ lw_good := gd3 154 rfl rfl
theorem wd_687 : Cond.code yX11_isAmong cX11_isAmong 2 (some .boolean) ∈ lw_good := gd3 155 rfl rfl
theorem wd_688 : Cond.methodLink RX11 163 yX11_downInSome ∈ lw_good := gd3 156 rfl rfl
theorem wd_689 : Cond.static yX11_downInSome ∈ lw_good := gd3 157 rfl rfl
theorem wd_690 : Cond.code yX11_downInSome cX11_downInSome 3 (some .int) ∈ lw_good := gd3 158 rfl rfl
theorem wd_691 : Cond.methodLink RL 77 yX11_can ∈ lw_good := gd3 159 rfl rfl
theorem wd_692 : Cond.instanceMethod yX11_can ∈ lw_good := gd3 160 rfl rfl
theorem wd_693 : Cond.selects RX11 yX11_can yX11_can ∈ lw_good := gd3 161 rfl rfl
theorem wd_694 : Cond.code yX11_can cX11_can 2 (some .int) ∈ lw_good := gd3 162 rfl rfl
theorem wd_695 : Cond.methodLink RX11 166 yX2_areBridges ∈ lw_good := gd3 163 rfl rfl
theorem wd_696 : Cond.instanceMethod yX2_areBridges ∈ lw_good := gd3 164 rfl rfl
theorem wd_697 : Cond.selects RX2 yX2_areBridges yX2_areBridges ∈ lw_good := gd3 165 rfl rfl
theorem wd_698 : Cond.code yX2_areBridges cX2_areBridges 2 (some .boolean) ∈ lw_good := gd3 166 rfl rfl
theorem wd_699 : Cond.methodLink RX2 104 yX2_allBridges ∈ lw_good := gd3 167 rfl rfl
theorem wd_700 : Cond.methodLink RL 81 yX11_closed ∈ lw_good := gd3 168 rfl rfl
theorem wd_701 : Cond.instanceMethod yX11_closed ∈ lw_good := gd3 169 rfl rfl
theorem wd_702 : Cond.selects RX11 yX11_closed yX11_closed ∈ lw_good := gd3 170 rfl rfl
theorem wd_703 : Cond.code yX11_closed cX11_closed 5 (some .int) ∈ lw_good := gd3 171 rfl rfl
theorem wd_704 : Cond.methodLink RX11 172 yX2_bridgesOf ∈ lw_good := gd3 172 rfl rfl
theorem wd_705 : Cond.instanceMethod yX2_bridgesOf ∈ lw_good := gd3 173 rfl rfl
theorem wd_706 : Cond.selects RX2 yX2_bridgesOf yX2_bridgesOf ∈ lw_good := gd3 174 rfl rfl
theorem wd_707 : Cond.code yX2_bridgesOf cX2_bridgesOf 4 (some .int) ∈ lw_good := gd3 175 rfl rfl
theorem wd_708 : Cond.methodLink RL 85 yX11_child ∈ lw_good := gd3 176 rfl rfl
theorem wd_709 : Cond.instanceMethod yX11_child ∈ lw_good := gd3 177 rfl rfl
theorem wd_710 : Cond.selects RX11 yX11_child yX11_child ∈ lw_good := gd3 178 rfl rfl
theorem wd_711 : Cond.code yX11_child cX11_child 3 (some .int) ∈ lw_good := gd3 179 rfl rfl
theorem wd_712 : Cond.methodLink RX11 175 yX2_leaveOut ∈ lw_good := gd3 180 rfl rfl
theorem wd_713 : Cond.instanceMethod yX2_leaveOut ∈ lw_good := gd3 181 rfl rfl
theorem wd_714 : Cond.selects RX2 yX2_leaveOut yX2_leaveOut ∈ lw_good := gd3 182 rfl rfl
theorem wd_715 : Cond.code yX2_leaveOut cX2_leaveOut 3 (none) ∈ lw_good := gd3 183 rfl rfl
theorem wd_716 : Cond.methodLink RL 89 yX11_cut ∈ lw_good := gd3 184 rfl rfl
theorem wd_717 : Cond.instanceMethod yX11_cut ∈ lw_good := gd3 185 rfl rfl
theorem wd_718 : Cond.selects RX11 yX11_cut yX11_cut ∈ lw_good := gd3 186 rfl rfl
theorem wd_719 : Cond.code yX11_cut cX11_cut 7 (some .int) ∈ lw_good := gd3 187 rfl rfl
theorem wd_720 : Cond.methodLink RX11 188 yX2_dropChain ∈ lw_good := gd3 188 rfl rfl
theorem wd_721 : Cond.instanceMethod yX2_dropChain ∈ lw_good := gd3 189 rfl rfl
theorem wd_722 : Cond.selects RX2 yX2_dropChain yX2_dropChain ∈ lw_good := gd3 190 rfl rfl
theorem wd_723 : Cond.code yX2_dropChain cX2_dropChain 3 (none) ∈ lw_good := gd3 191 rfl rfl
theorem wd_724 : Cond.methodLink RL 93 yX11_tie ∈ lw_good := gd3 192 rfl rfl
theorem wd_725 : Cond.instanceMethod yX11_tie ∈ lw_good := gd3 193 rfl rfl
theorem wd_726 : Cond.selects RX11 yX11_tie yX11_tie ∈ lw_good := gd3 194 rfl rfl
theorem wd_727 : Cond.code yX11_tie cX11_tie 9 (some .int) ∈ lw_good := gd3 195 rfl rfl
theorem wd_728 : Cond.methodLink RL 97 yX11_stone ∈ lw_good := gd3 196 rfl rfl
theorem wd_729 : Cond.instanceMethod yX11_stone ∈ lw_good := gd3 197 rfl rfl
theorem wd_730 : Cond.selects RX11 yX11_stone yX11_stone ∈ lw_good := gd3 198 rfl rfl
theorem wd_731 : Cond.code yX11_stone cX11_stone 8 (some .int) ∈ lw_good := gd3 199 rfl rfl
theorem wd_732 : Cond.methodLink RX11 194 yX11_isStone ∈ lw_good := gd3 200 rfl rfl
theorem wd_733 : Cond.static yX11_isStone ∈ lw_good := gd3 201 rfl rfl
theorem wd_734 : Cond.code yX11_isStone cX11_isStone 1 (some .boolean) ∈ lw_good := gd3 202 rfl rfl
theorem wd_735 : Cond.methodLink RX11 197 yX2_addStones ∈ lw_good := gd3 203 rfl rfl
theorem wd_736 : Cond.instanceMethod yX2_addStones ∈ lw_good := gd3 204 rfl rfl
theorem wd_737 : Cond.selects RX2 yX2_addStones yX2_addStones ∈ lw_good := gd3 205 rfl rfl
theorem wd_738 : Cond.code yX2_addStones cX2_addStones 4 (none) ∈ lw_good := gd3 206 rfl rfl
theorem wd_739 : Cond.methodLink RL 101 yX11_keep ∈ lw_good := gd3 207 rfl rfl
theorem wd_740 : Cond.instanceMethod yX11_keep ∈ lw_good := gd3 208 rfl rfl
theorem wd_741 : Cond.selects RX11 yX11_keep yX11_keep ∈ lw_good := gd3 209 rfl rfl
theorem wd_742 : Cond.code yX11_keep cX11_keep 6 (some .int) ∈ lw_good := gd3 210 rfl rfl
theorem wd_743 : Cond.methodLink RX11 200 yX2_leaveAlone ∈ lw_good := gd3 211 rfl rfl
theorem wd_744 : Cond.instanceMethod yX2_leaveAlone ∈ lw_good := gd3 212 rfl rfl
theorem wd_745 : Cond.selects RX2 yX2_leaveAlone yX2_leaveAlone ∈ lw_good := gd3 213 rfl rfl
theorem wd_746 : Cond.code yX2_leaveAlone cX2_leaveAlone 2 (none) ∈ lw_good := gd3 214 rfl rfl
theorem wd_747 : Cond.methodLink RL 105 yX11_wet ∈ lw_good := gd3 215 rfl rfl
theorem wd_748 : Cond.instanceMethod yX11_wet ∈ lw_good := gd3 216 rfl rfl
theorem wd_749 : Cond.selects RX11 yX11_wet yX11_wet ∈ lw_good := gd3 217 rfl rfl
theorem wd_750 : Cond.code yX11_wet cX11_wet 6 (some .int) ∈ lw_good := gd3 218 rfl rfl
theorem wd_751 : Cond.methodLink RX11 203 yX11_rowsOf ∈ lw_good := gd3 219 rfl rfl
theorem wd_752 : Cond.static yX11_rowsOf ∈ lw_good := gd3 220 rfl rfl
theorem wd_753 : Cond.code yX11_rowsOf cX11_rowsOf 10 (some .int) ∈ lw_good := gd3 221 rfl rfl
theorem wd_754 : Cond.methodLink RL 110 yX11_image ∈ lw_good := gd3 222 rfl rfl
theorem wd_755 : Cond.instanceMethod yX11_image ∈ lw_good := gd3 223 rfl rfl
theorem wd_756 : Cond.selects RX11 yX11_image yX11_image ∈ lw_good := gd3 224 rfl rfl
theorem wd_757 : Cond.code yX11_image cX11_image 2 (some .int) ∈ lw_good := gd3 225 rfl rfl
theorem wd_758 : Cond.methodLink RX11 207 yX11_isImage ∈ lw_good := gd3 226 rfl rfl
theorem wd_759 : Cond.static yX11_isImage ∈ lw_good := gd3 227 rfl rfl
theorem wd_760 : Cond.code yX11_isImage cX11_isImage 1 (some .boolean) ∈ lw_good := gd3 228 rfl rfl
theorem wd_761 : Cond.methodLink RL 114 yX11_from ∈ lw_good := gd3 229 rfl rfl
theorem wd_762 : Cond.instanceMethod yX11_from ∈ lw_good := gd3 230 rfl rfl
theorem wd_763 : Cond.selects RX11 yX11_from yX11_from ∈ lw_good := gd3 231 rfl rfl
theorem wd_764 : Cond.code yX11_from cX11_from 2 (some .int) ∈ lw_good := gd3 232 rfl rfl
theorem wd_765 : Cond.methodLink RL 118 yX11_status ∈ lw_good := gd3 233 rfl rfl
theorem wd_766 : Cond.instanceMethod yX11_status ∈ lw_good := gd3 234 rfl rfl
theorem wd_767 : Cond.selects RX11 yX11_status yX11_status ∈ lw_good := gd3 235 rfl rfl
theorem wd_768 : Cond.code yX11_status cX11_status 2 (some .int) ∈ lw_good := gd3 236 rfl rfl
theorem wd_769 : Cond.methodLink RL 122 yX11_count ∈ lw_good := gd3 237 rfl rfl
theorem wd_770 : Cond.instanceMethod yX11_count ∈ lw_good := gd3 238 rfl rfl
theorem wd_771 : Cond.selects RX11 yX11_count yX11_count ∈ lw_good := gd3 239 rfl rfl
theorem wd_772 : Cond.code yX11_count cX11_count 2 (some .int) ∈ lw_good := gd4 0 rfl rfl
theorem wd_773 : Cond.methodLink RL 126 yX11_digest ∈ lw_good := gd4 1 rfl rfl
theorem wd_774 : Cond.instanceMethod yX11_digest ∈ lw_good := gd4 2 rfl rfl
theorem wd_775 : Cond.selects RX11 yX11_digest yX11_digest ∈ lw_good := gd4 3 rfl rfl
theorem wd_776 : Cond.code yX11_digest cX11_digest 3 (some .long) ∈ lw_good := gd4 4 rfl rfl
theorem wd_779 : Cond.methodLink RX11 229 yX2_digestOn ∈ lw_good := gd4 7 rfl rfl
theorem wd_780 : Cond.instanceMethod yX2_digestOn ∈ lw_good := gd4 8 rfl rfl
theorem wd_781 : Cond.selects RX2 yX2_digestOn yX2_digestOn ∈ lw_good := gd4 9 rfl rfl
theorem wd_782 : Cond.code yX2_digestOn cX2_digestOn 6 (some .long) ∈ lw_good := gd4 10 rfl rfl
theorem wd_863 : Cond.methodLink RL 17 yX12_bridge ∈ lw_good := gd4 91 rfl rfl
theorem wd_864 : Cond.instanceMethod yX12_bridge ∈ lw_good := gd4 92 rfl rfl
theorem wd_865 : Cond.selects RX12 yX12_bridge yX12_bridge ∈ lw_good := gd4 93 rfl rfl
theorem wd_866 : Cond.code yX12_bridge cX12_bridge 5 (some .int) ∈ lw_good := gd4 94 rfl rfl
theorem wd_867 : Cond.methodLink RX12 79 yX12_addBridge ∈ lw_good := gd4 95 rfl rfl
theorem wd_869 : Cond.instanceMethod yX12_addBridge ∈ lw_good := gd4 97 rfl rfl
theorem wd_870 : Cond.code yX12_addBridge cX12_addBridge 7 (some .int) ∈ lw_good := gd4 98 rfl rfl
theorem wd_872 : Cond.methodLink RX12 62 yX12_in ∈ lw_good := gd4 100 rfl rfl
theorem wd_873 : Cond.static yX12_in ∈ lw_good := gd4 101 rfl rfl
theorem wd_874 : Cond.code yX12_in cX12_in 6 (some .boolean) ∈ lw_good := gd4 102 rfl rfl
theorem wd_876 : Cond.methodLink RX12 56 yX12_met ∈ lw_good := gd4 104 rfl rfl
theorem wd_878 : Cond.instanceMethod yX12_met ∈ lw_good := gd4 106 rfl rfl
theorem wd_879 : Cond.code yX12_met cX12_met 2 (some .int) ∈ lw_good := gd4 107 rfl rfl
theorem wd_880 : Cond.methodLink RL 22 yX12_chain ∈ lw_good := gd4 108 rfl rfl
theorem wd_881 : Cond.instanceMethod yX12_chain ∈ lw_good := gd4 109 rfl rfl
theorem wd_882 : Cond.selects RX12 yX12_chain yX12_chain ∈ lw_good := gd4 110 rfl rfl
theorem wd_883 : Cond.code yX12_chain cX12_chain 4 (some .int) ∈ lw_good := gd4 111 rfl rfl
theorem wd_884 : Cond.methodLink RX12 83 yX12_addChain ∈ lw_good := gd4 112 rfl rfl
theorem wd_886 : Cond.instanceMethod yX12_addChain ∈ lw_good := gd4 114 rfl rfl
theorem wd_887 : Cond.code yX12_addChain cX12_addChain 6 (some .int) ∈ lw_good := gd4 115 rfl rfl
theorem wd_888 : Cond.methodLink RX12 68 yX12_isBridge ∈ lw_good := gd4 116 rfl rfl
theorem wd_890 : Cond.instanceMethod yX12_isBridge ∈ lw_good := gd4 118 rfl rfl
theorem wd_891 : Cond.code yX12_isBridge cX12_isBridge 3 (some .boolean) ∈ lw_good := gd4 119 rfl rfl
theorem wd_893 : Cond.methodLink RX12 74 yX12_isTied ∈ lw_good := gd4 121 rfl rfl
theorem wd_895 : Cond.instanceMethod yX12_isTied ∈ lw_good := gd4 123 rfl rfl
theorem wd_896 : Cond.code yX12_isTied cX12_isTied 5 (some .boolean) ∈ lw_good := gd4 124 rfl rfl
theorem wd_897 : Cond.methodLink RL 27 yX12_load ∈ lw_good := gd4 125 rfl rfl
theorem wd_898 : Cond.instanceMethod yX12_load ∈ lw_good := gd4 126 rfl rfl
theorem wd_899 : Cond.selects RX12 yX12_load yX12_load ∈ lw_good := gd4 127 rfl rfl
theorem wd_900 : Cond.code yX12_load cX12_load 3 (some .int) ∈ lw_good := gd4 128 rfl rfl
theorem wd_901 : Cond.methodLink RX12 87 yX12_setLoad ∈ lw_good := gd4 129 rfl rfl
theorem wd_903 : Cond.instanceMethod yX12_setLoad ∈ lw_good := gd4 131 rfl rfl
theorem wd_904 : Cond.code yX12_setLoad cX12_setLoad 5 (some .int) ∈ lw_good := gd4 132 rfl rfl
theorem wd_906 : Cond.methodLink RL 31 yX12_one ∈ lw_good := gd4 134 rfl rfl
theorem wd_907 : Cond.instanceMethod yX12_one ∈ lw_good := gd4 135 rfl rfl
theorem wd_908 : Cond.selects RX12 yX12_one yX12_one ∈ lw_good := gd4 136 rfl rfl
theorem wd_909 : Cond.code yX12_one cX12_one 3 (some .int) ∈ lw_good := gd4 137 rfl rfl
theorem wd_910 : Cond.methodLink RX12 91 yX12_addOne ∈ lw_good := gd4 138 rfl rfl
theorem wd_912 : Cond.instanceMethod yX12_addOne ∈ lw_good := gd4 140 rfl rfl
theorem wd_913 : Cond.code yX12_addOne cX12_addOne 5 (some .int) ∈ lw_good := gd4 141 rfl rfl
theorem wd_914 : Cond.methodLink RL 36 yX12_weight ∈ lw_good := gd4 142 rfl rfl
theorem wd_915 : Cond.instanceMethod yX12_weight ∈ lw_good := gd4 143 rfl rfl
theorem wd_916 : Cond.selects RX12 yX12_weight yX12_weight ∈ lw_good := gd4 144 rfl rfl
theorem wd_917 : Cond.code yX12_weight cX12_weight 2 (some .int) ∈ lw_good := gd4 145 rfl rfl
theorem wd_918 : Cond.methodLink RX12 121 yX12_bad ∈ lw_good := gd4 146 rfl rfl
theorem wd_920 : Cond.instanceMethod yX12_bad ∈ lw_good := gd4 148 rfl rfl
theorem wd_921 : Cond.code yX12_bad cX12_bad 1 (some .int) ∈ lw_good := gd4 149 rfl rfl
theorem wd_922 : Cond.methodLink RX12 125 yX12_layNow ∈ lw_good := gd4 150 rfl rfl
theorem wd_924 : Cond.instanceMethod yX12_layNow ∈ lw_good := gd4 152 rfl rfl
theorem wd_925 : Cond.code yX12_layNow cX12_layNow 2 (none) ∈ lw_good := gd4 153 rfl rfl
theorem wd_926 : Cond.methodLink RX12 98 yX12_tieMore ∈ lw_good := gd4 154 rfl rfl
theorem wd_928 : Cond.instanceMethod yX12_tieMore ∈ lw_good := gd4 156 rfl rfl
theorem wd_929 : Cond.code yX12_tieMore cX12_tieMore 4 (none) ∈ lw_good := gd4 157 rfl rfl
theorem wd_930 : Cond.methodLink RX12 128 yX12_asNow ∈ lw_good := gd4 158 rfl rfl
theorem wd_932 : Cond.instanceMethod yX12_asNow ∈ lw_good := gd4 160 rfl rfl
theorem wd_933 : Cond.code yX12_asNow cX12_asNow 2 (none) ∈ lw_good := gd4 161 rfl rfl
theorem wd_934 : Cond.methodLink RX12 105 yX12_has ∈ lw_good := gd4 162 rfl rfl
theorem wd_935 : Cond.static yX12_has ∈ lw_good := gd4 163 rfl rfl
theorem wd_936 : Cond.code yX12_has cX12_has 2 (some .boolean) ∈ lw_good := gd4 164 rfl rfl
theorem wd_937 : Cond.methodLink RX12 111 yX12_loadOf ∈ lw_good := gd4 165 rfl rfl
theorem wd_939 : Cond.instanceMethod yX12_loadOf ∈ lw_good := gd4 167 rfl rfl
theorem wd_940 : Cond.code yX12_loadOf cX12_loadOf 4 (some .int) ∈ lw_good := gd4 168 rfl rfl
theorem wd_941 : Cond.methodLink RL 40 yX12_where ∈ lw_good := gd4 169 rfl rfl
theorem wd_942 : Cond.instanceMethod yX12_where ∈ lw_good := gd4 170 rfl rfl
theorem wd_943 : Cond.selects RX12 yX12_where yX12_where ∈ lw_good := gd4 171 rfl rfl
theorem wd_944 : Cond.code yX12_where cX12_where 2 (some .int) ∈ lw_good := gd4 172 rfl rfl
theorem wd_945 : Cond.methodLink RX12 131 yX12_isOne ∈ lw_good := gd4 173 rfl rfl
theorem wd_947 : Cond.instanceMethod yX12_isOne ∈ lw_good := gd4 175 rfl rfl
theorem wd_948 : Cond.code yX12_isOne cX12_isOne 2 (some .boolean) ∈ lw_good := gd4 176 rfl rfl
theorem wd_949 : Cond.methodLink RL 45 yX12_lying ∈ lw_good := gd4 177 rfl rfl
theorem wd_950 : Cond.instanceMethod yX12_lying ∈ lw_good := gd4 178 rfl rfl
theorem wd_951 : Cond.selects RX12 yX12_lying yX12_lying ∈ lw_good := gd4 179 rfl rfl
theorem wd_952 : Cond.code yX12_lying cX12_lying 1 (some .int) ∈ lw_good := gd4 180 rfl rfl
theorem wd_953 : Cond.methodLink RL 52 yX12_type ∈ lw_good := gd4 181 rfl rfl
theorem wd_954 : Cond.instanceMethod yX12_type ∈ lw_good := gd4 182 rfl rfl
theorem wd_955 : Cond.selects RX12 yX12_type yX12_type ∈ lw_good := gd4 183 rfl rfl
theorem wd_956 : Cond.code yX12_type cX12_type 5 (some .int) ∈ lw_good := gd4 184 rfl rfl
theorem wd_959 : Cond.methodLink RL 56 yX12_clear ∈ lw_good := gd4 187 rfl rfl
theorem wd_960 : Cond.instanceMethod yX12_clear ∈ lw_good := gd4 188 rfl rfl
theorem wd_961 : Cond.selects RX12 yX12_clear yX12_clear ∈ lw_good := gd4 189 rfl rfl
theorem wd_962 : Cond.code yX12_clear cX12_clear 2 (some .int) ∈ lw_good := gd4 190 rfl rfl
theorem wd_963 : Cond.methodLink RL 60 yX12_read ∈ lw_good := gd4 191 rfl rfl
theorem wd_964 : Cond.instanceMethod yX12_read ∈ lw_good := gd4 192 rfl rfl
theorem wd_965 : Cond.selects RX12 yX12_read yX12_read ∈ lw_good := gd4 193 rfl rfl
theorem wd_966 : Cond.code yX12_read cX12_read 2 (some .int) ∈ lw_good := gd4 194 rfl rfl
theorem wd_967 : Cond.methodLink RX12 155 yX12_isEnd ∈ lw_good := gd4 195 rfl rfl
theorem wd_969 : Cond.instanceMethod yX12_isEnd ∈ lw_good := gd4 197 rfl rfl
theorem wd_970 : Cond.code yX12_isEnd cX12_isEnd 1 (some .boolean) ∈ lw_good := gd4 198 rfl rfl
theorem wd_971 : Cond.methodLink RX12 184 yX12_takeItem ∈ lw_good := gd4 199 rfl rfl
theorem wd_973 : Cond.instanceMethod yX12_takeItem ∈ lw_good := gd4 201 rfl rfl
theorem wd_974 : Cond.code yX12_takeItem cX12_takeItem 6 (none) ∈ lw_good := gd4 202 rfl rfl
theorem wd_979 : Cond.methodLink RX12 174 yX12_wordOf ∈ lw_good := gd4 207 rfl rfl
theorem wd_980 : Cond.static yX12_wordOf ∈ lw_good := gd4 208 rfl rfl
theorem wd_981 : Cond.code yX12_wordOf cX12_wordOf 2 (some .int) ∈ lw_good := gd4 209 rfl rfl
theorem wd_987 : Cond.methodLink RX12 181 yX12_takeNumber ∈ lw_good := gd4 215 rfl rfl
theorem wd_989 : Cond.instanceMethod yX12_takeNumber ∈ lw_good := gd4 217 rfl rfl
theorem wd_990 : Cond.code yX12_takeNumber cX12_takeNumber 3 (some .int) ∈ lw_good := gd4 218 rfl rfl
theorem wd_993 : Cond.methodLink RX12 187 yX12_tellItem ∈ lw_good := gd4 221 rfl rfl
theorem wd_995 : Cond.instanceMethod yX12_tellItem ∈ lw_good := gd4 223 rfl rfl
theorem wd_996 : Cond.code yX12_tellItem cX12_tellItem 5 (some .int) ∈ lw_good := gd4 224 rfl rfl
theorem wd_997 : Cond.methodLink RX12 190 yX12_copy ∈ lw_good := gd4 225 rfl rfl
theorem wd_999 : Cond.instanceMethod yX12_copy ∈ lw_good := gd4 227 rfl rfl
theorem wd_1000 : Cond.code yX12_copy cX12_copy 4 (none) ∈ lw_good := gd4 228 rfl rfl
theorem wd_1001 : Cond.methodLink RL 64 yX12_step ∈ lw_good := gd4 229 rfl rfl
theorem wd_1002 : Cond.instanceMethod yX12_step ∈ lw_good := gd4 230 rfl rfl
theorem wd_1003 : Cond.selects RX12 yX12_step yX12_step ∈ lw_good := gd4 231 rfl rfl
theorem wd_1004 : Cond.code yX12_step cX12_step 5 (some .int) ∈ lw_good := gd4 232 rfl rfl
theorem wd_1005 : Cond.methodLink RX12 193 yX12_isPlace ∈ lw_good := gd4 233 rfl rfl
theorem wd_1007 : Cond.instanceMethod yX12_isPlace ∈ lw_good := gd4 235 rfl rfl
theorem wd_1008 : Cond.code yX12_isPlace cX12_isPlace 2 (some .boolean) ∈ lw_good := gd4 236 rfl rfl
theorem wd_1009 : Cond.methodLink RX12 196 yX12_mayStep ∈ lw_good := gd4 237 rfl rfl
theorem wd_1011 : Cond.instanceMethod yX12_mayStep ∈ lw_good := gd4 239 rfl rfl
theorem wd_1012 : Cond.code yX12_mayStep cX12_mayStep 6 (some .boolean) ∈ lw_good := gd5 0 rfl rfl
theorem wd_1013 : Cond.methodLink RX12 118 yX12_isOf ∈ lw_good := gd5 1 rfl rfl
theorem wd_1015 : Cond.instanceMethod yX12_isOf ∈ lw_good := gd5 3 rfl rfl
theorem wd_1016 : Cond.code yX12_isOf cX12_isOf 3 (some .boolean) ∈ lw_good := gd5 4 rfl rfl
theorem wd_1017 : Cond.methodLink RX12 199 yX12_tipAll ∈ lw_good := gd5 5 rfl rfl
theorem wd_1019 : Cond.instanceMethod yX12_tipAll ∈ lw_good := gd5 7 rfl rfl
theorem wd_1020 : Cond.code yX12_tipAll cX12_tipAll 3 (none) ∈ lw_good := gd5 8 rfl rfl
theorem wd_1021 : Cond.methodLink RX12 114 yX12_tip ∈ lw_good := gd5 9 rfl rfl
theorem wd_1023 : Cond.instanceMethod yX12_tip ∈ lw_good := gd5 11 rfl rfl
theorem wd_1024 : Cond.code yX12_tip cX12_tip 5 (none) ∈ lw_good := gd5 12 rfl rfl
theorem wd_1025 : Cond.methodLink RL 68 yX12_undo ∈ lw_good := gd5 13 rfl rfl
theorem wd_1026 : Cond.instanceMethod yX12_undo ∈ lw_good := gd5 14 rfl rfl
theorem wd_1027 : Cond.selects RX12 yX12_undo yX12_undo ∈ lw_good := gd5 15 rfl rfl
theorem wd_1028 : Cond.code yX12_undo cX12_undo 3 (some .int) ∈ lw_good := gd5 16 rfl rfl
theorem wd_1029 : Cond.methodLink RL 72 yX12_way ∈ lw_good := gd5 17 rfl rfl
theorem wd_1030 : Cond.instanceMethod yX12_way ∈ lw_good := gd5 18 rfl rfl
theorem wd_1031 : Cond.selects RX12 yX12_way yX12_way ∈ lw_good := gd5 19 rfl rfl
theorem wd_1032 : Cond.code yX12_way cX12_way 7 (some .int) ∈ lw_good := gd5 20 rfl rfl
theorem wd_1033 : Cond.methodLink RX12 223 yX12_areSome ∈ lw_good := gd5 21 rfl rfl
theorem wd_1035 : Cond.instanceMethod yX12_areSome ∈ lw_good := gd5 23 rfl rfl
theorem wd_1036 : Cond.code yX12_areSome cX12_areSome 2 (some .boolean) ∈ lw_good := gd5 24 rfl rfl
theorem wd_1037 : Cond.methodLink RX12 226 yX12_isRoom ∈ lw_good := gd5 25 rfl rfl
theorem wd_1038 : Cond.static yX12_isRoom ∈ lw_good := gd5 26 rfl rfl
theorem wd_1039 : Cond.code yX12_isRoom cX12_isRoom 1 (some .boolean) ∈ lw_good := gd5 27 rfl rfl
theorem wd_1040 : Cond.methodLink RX12 215 yX12_findWay ∈ lw_good := gd5 28 rfl rfl
theorem wd_1042 : Cond.instanceMethod yX12_findWay ∈ lw_good := gd5 30 rfl rfl
theorem wd_1043 : Cond.code yX12_findWay cX12_findWay 6 (some .int) ∈ lw_good := gd5 31 rfl rfl
theorem wd_1044 : Cond.methodLink RX12 212 yX12_goAll ∈ lw_good := gd5 32 rfl rfl
theorem wd_1046 : Cond.instanceMethod yX12_goAll ∈ lw_good := gd5 34 rfl rfl
theorem wd_1047 : Cond.code yX12_goAll cX12_goAll 5 (none) ∈ lw_good := gd5 35 rfl rfl
theorem wd_1048 : Cond.methodLink RX12 202 yX12_codeNow ∈ lw_good := gd5 36 rfl rfl
theorem wd_1050 : Cond.instanceMethod yX12_codeNow ∈ lw_good := gd5 38 rfl rfl
theorem wd_1051 : Cond.code yX12_codeNow cX12_codeNow 1 (some .int) ∈ lw_good := gd5 39 rfl rfl
theorem wd_1052 : Cond.methodLink RX12 208 yX12_decode ∈ lw_good := gd5 40 rfl rfl
theorem wd_1054 : Cond.instanceMethod yX12_decode ∈ lw_good := gd5 42 rfl rfl
theorem wd_1055 : Cond.code yX12_decode cX12_decode 2 (none) ∈ lw_good := gd5 43 rfl rfl
theorem wd_1056 : Cond.methodLink RX12 220 yX12_stepsTo ∈ lw_good := gd5 44 rfl rfl
theorem wd_1058 : Cond.instanceMethod yX12_stepsTo ∈ lw_good := gd5 46 rfl rfl
theorem wd_1059 : Cond.code yX12_stepsTo cX12_stepsTo 4 (some .int) ∈ lw_good := gd5 47 rfl rfl
theorem wd_1060 : Cond.methodLink RL 76 yX12_reach ∈ lw_good := gd5 48 rfl rfl
theorem wd_1061 : Cond.instanceMethod yX12_reach ∈ lw_good := gd5 49 rfl rfl
theorem wd_1062 : Cond.selects RX12 yX12_reach yX12_reach ∈ lw_good := gd5 50 rfl rfl
theorem wd_1063 : Cond.code yX12_reach cX12_reach 6 (some .int) ∈ lw_good := gd5 51 rfl rfl
theorem wd_1065 : Cond.methodLink RX12 234 yX12_allLyings ∈ lw_good := gd5 53 rfl rfl
theorem wd_1067 : Cond.instanceMethod yX12_allLyings ∈ lw_good := gd5 55 rfl rfl
theorem wd_1068 : Cond.code yX12_allLyings cX12_allLyings 1 (some .int) ∈ lw_good := gd5 56 rfl rfl
theorem wd_1069 : Cond.methodLink RX12 229 yX12_lyings ∈ lw_good := gd5 57 rfl rfl
theorem wd_1071 : Cond.instanceMethod yX12_lyings ∈ lw_good := gd5 59 rfl rfl
theorem wd_1072 : Cond.code yX12_lyings cX12_lyings 3 (some .int) ∈ lw_good := gd5 60 rfl rfl
theorem wd_1073 : Cond.methodLink RX12 237 yX12_many ∈ lw_good := gd5 61 rfl rfl
theorem wd_1074 : Cond.static yX12_many ∈ lw_good := gd5 62 rfl rfl
theorem wd_1075 : Cond.code yX12_many cX12_many 3 (some .int) ∈ lw_good := gd5 63 rfl rfl
theorem wd_1076 : Cond.methodLink RL 80 yX12_can ∈ lw_good := gd5 64 rfl rfl
theorem wd_1077 : Cond.instanceMethod yX12_can ∈ lw_good := gd5 65 rfl rfl
theorem wd_1078 : Cond.selects RX12 yX12_can yX12_can ∈ lw_good := gd5 66 rfl rfl
theorem wd_1079 : Cond.code yX12_can cX12_can 2 (some .int) ∈ lw_good := gd5 67 rfl rfl
theorem wd_1080 : Cond.methodLink RL 84 yX12_closed ∈ lw_good := gd5 68 rfl rfl
theorem wd_1081 : Cond.instanceMethod yX12_closed ∈ lw_good := gd5 69 rfl rfl
theorem wd_1082 : Cond.selects RX12 yX12_closed yX12_closed ∈ lw_good := gd5 70 rfl rfl
theorem wd_1083 : Cond.code yX12_closed cX12_closed 6 (some .int) ∈ lw_good := gd5 71 rfl rfl
theorem wd_1084 : Cond.methodLink RL 88 yX12_child ∈ lw_good := gd5 72 rfl rfl
theorem wd_1085 : Cond.instanceMethod yX12_child ∈ lw_good := gd5 73 rfl rfl
theorem wd_1086 : Cond.selects RX12 yX12_child yX12_child ∈ lw_good := gd5 74 rfl rfl
theorem wd_1087 : Cond.code yX12_child cX12_child 3 (some .int) ∈ lw_good := gd5 75 rfl rfl
theorem wd_1088 : Cond.methodLink RL 92 yX12_cut ∈ lw_good := gd5 76 rfl rfl
theorem wd_1089 : Cond.instanceMethod yX12_cut ∈ lw_good := gd5 77 rfl rfl
theorem wd_1090 : Cond.selects RX12 yX12_cut yX12_cut ∈ lw_good := gd5 78 rfl rfl
theorem wd_1091 : Cond.code yX12_cut cX12_cut 7 (some .int) ∈ lw_good := gd5 79 rfl rfl
theorem wd_1092 : Cond.methodLink RX12 240 yX12_stepsOf ∈ lw_good := gd5 80 rfl rfl
theorem wd_1094 : Cond.instanceMethod yX12_stepsOf ∈ lw_good := gd5 82 rfl rfl
theorem wd_1095 : Cond.code yX12_stepsOf cX12_stepsOf 4 (some .int) ∈ lw_good := gd5 83 rfl rfl
theorem wd_1097 : Cond.methodLink RL 96 yX12_tie ∈ lw_good := gd5 85 rfl rfl
theorem wd_1098 : Cond.instanceMethod yX12_tie ∈ lw_good := gd5 86 rfl rfl
theorem wd_1099 : Cond.selects RX12 yX12_tie yX12_tie ∈ lw_good := gd5 87 rfl rfl
theorem wd_1100 : Cond.code yX12_tie cX12_tie 8 (some .int) ∈ lw_good := gd5 88 rfl rfl
theorem wd_1101 : Cond.methodLink RL 100 yX12_stone ∈ lw_good := gd5 89 rfl rfl
theorem wd_1102 : Cond.instanceMethod yX12_stone ∈ lw_good := gd5 90 rfl rfl
theorem wd_1103 : Cond.selects RX12 yX12_stone yX12_stone ∈ lw_good := gd5 91 rfl rfl
theorem wd_1104 : Cond.code yX12_stone cX12_stone 8 (some .int) ∈ lw_good := gd5 92 rfl rfl
theorem wd_1105 : Cond.methodLink RL 104 yX12_keep ∈ lw_good := gd5 93 rfl rfl
theorem wd_1106 : Cond.instanceMethod yX12_keep ∈ lw_good := gd5 94 rfl rfl
theorem wd_1107 : Cond.selects RX12 yX12_keep yX12_keep ∈ lw_good := gd5 95 rfl rfl
theorem wd_1108 : Cond.code yX12_keep cX12_keep 7 (some .int) ∈ lw_good := gd5 96 rfl rfl
theorem wd_1109 : Cond.methodLink RX12 243 yX12_ones ∈ lw_good := gd5 97 rfl rfl
theorem wd_1110 : Cond.static yX12_ones ∈ lw_good := gd5 98 rfl rfl
theorem wd_1111 : Cond.code yX12_ones cX12_ones 3 (some .int) ∈ lw_good := gd5 99 rfl rfl
theorem wd_1112 : Cond.methodLink RL 109 yX12_wet ∈ lw_good := gd5 100 rfl rfl
theorem wd_1113 : Cond.instanceMethod yX12_wet ∈ lw_good := gd5 101 rfl rfl
theorem wd_1114 : Cond.selects RX12 yX12_wet yX12_wet ∈ lw_good := gd5 102 rfl rfl
theorem wd_1115 : Cond.code yX12_wet cX12_wet 9 (some .int) ∈ lw_good := gd5 103 rfl rfl
theorem wd_1117 : Cond.methodLink RL 113 yX12_image ∈ lw_good := gd5 105 rfl rfl
theorem wd_1118 : Cond.instanceMethod yX12_image ∈ lw_good := gd5 106 rfl rfl
theorem wd_1119 : Cond.selects RX12 yX12_image yX12_image ∈ lw_good := gd5 107 rfl rfl
theorem wd_1120 : Cond.code yX12_image cX12_image 2 (some .int) ∈ lw_good := gd5 108 rfl rfl
theorem wd_1121 : Cond.methodLink RL 117 yX12_from ∈ lw_good := gd5 109 rfl rfl
theorem wd_1122 : Cond.instanceMethod yX12_from ∈ lw_good := gd5 110 rfl rfl
theorem wd_1123 : Cond.selects RX12 yX12_from yX12_from ∈ lw_good := gd5 111 rfl rfl
theorem wd_1124 : Cond.code yX12_from cX12_from 2 (some .int) ∈ lw_good := gd5 112 rfl rfl
theorem wd_1125 : Cond.methodLink RL 121 yX12_status ∈ lw_good := gd5 113 rfl rfl
theorem wd_1126 : Cond.instanceMethod yX12_status ∈ lw_good := gd5 114 rfl rfl
theorem wd_1127 : Cond.selects RX12 yX12_status yX12_status ∈ lw_good := gd5 115 rfl rfl
theorem wd_1128 : Cond.code yX12_status cX12_status 2 (some .int) ∈ lw_good := gd5 116 rfl rfl
theorem wd_1130 : Cond.methodLink RL 125 yX12_count ∈ lw_good := gd5 118 rfl rfl
theorem wd_1131 : Cond.instanceMethod yX12_count ∈ lw_good := gd5 119 rfl rfl
theorem wd_1132 : Cond.selects RX12 yX12_count yX12_count ∈ lw_good := gd5 120 rfl rfl
theorem wd_1133 : Cond.code yX12_count cX12_count 2 (some .int) ∈ lw_good := gd5 121 rfl rfl
theorem wd_1134 : Cond.methodLink RX12 249 yX12_countOf ∈ lw_good := gd5 122 rfl rfl
theorem wd_1136 : Cond.instanceMethod yX12_countOf ∈ lw_good := gd5 124 rfl rfl
theorem wd_1137 : Cond.code yX12_countOf cX12_countOf 2 (some .int) ∈ lw_good := gd5 125 rfl rfl
theorem wd_1138 : Cond.methodLink RL 130 yX12_digest ∈ lw_good := gd5 126 rfl rfl
theorem wd_1139 : Cond.instanceMethod yX12_digest ∈ lw_good := gd5 127 rfl rfl
theorem wd_1140 : Cond.selects RX12 yX12_digest yX12_digest ∈ lw_good := gd5 128 rfl rfl
theorem wd_1141 : Cond.code yX12_digest cX12_digest 2 (some .long) ∈ lw_good := gd5 129 rfl rfl
theorem wd_1143 : Cond.methodLink RX12 260 yX12_mix ∈ lw_good := gd5 131 rfl rfl
theorem wd_1145 : Cond.instanceMethod yX12_mix ∈ lw_good := gd5 133 rfl rfl
theorem wd_1146 : Cond.code yX12_mix cX12_mix 3 (none) ∈ lw_good := gd5 134 rfl rfl
theorem wd_1149 : Cond.sameMethod RX0 RX0 "loadBy" "(I)I" ∈ lw_good := gd5 137 rfl rfl
theorem sf_0 : SF 2 81 6 0 0 qX6_forget := ⟨fw5 wd_312 wd_313 wd_314 wd_61 wd_315, ⟨by decide +kernel, by decide +kernel⟩, by decide +kernel, rfl, plainFor_of_name (by decide +kernel), by decide, by decide +kernel, fun _ => ⟨rfl, by decide, rfl⟩, fun h => absurd h (by decide), fun h => absurd h (by decide), fun h => absurd h (by decide)⟩
theorem sf_1 : SF 2 90 6 0 1 qX6_take := ⟨fw5 wd_524 wd_525 wd_526 wd_61 wd_527, ⟨by decide +kernel, by decide +kernel⟩, by decide +kernel, rfl, plainFor_of_name (by decide +kernel), by decide, by decide +kernel, fun _ => ⟨rfl, by decide, rfl⟩, fun h => absurd h (by decide), fun h => absurd h (by decide), fun h => absurd h (by decide)⟩
theorem sf_2 : SF 2 94 99 3 1 qX11_isRoom := ⟨fw3 wd_310 wd_53 wd_311, ⟨by decide +kernel, by decide +kernel⟩, by decide +kernel, rfl, plainFor_of_name (by decide +kernel), by decide, by decide +kernel, fun h => absurd h (by decide), fun h => absurd h (by decide), fun _ => by decide +kernel, fun h => absurd h (by decide)⟩
theorem sf_3 : SF 2 98 2 0 1 qX2_isBridge := ⟨fw5 wd_328 wd_329 wd_330 wd_54 wd_331, ⟨by decide +kernel, by decide +kernel⟩, by decide +kernel, rfl, plainFor_of_name (by decide +kernel), by decide, by decide +kernel, fun _ => ⟨rfl, by decide, rfl⟩, fun h => absurd h (by decide), fun h => absurd h (by decide), fun h => absurd h (by decide)⟩
theorem sf_4 : SF 2 101 2 0 1 qX2_isTied := ⟨fw5 wd_332 wd_334 wd_1 wd_54 wd_335, ⟨by decide +kernel, by decide +kernel⟩, by decide +kernel, rfl, plainFor_of_name (by decide +kernel), by decide, by decide +kernel, fun _ => ⟨rfl, by decide, rfl⟩, fun h => absurd h (by decide), fun h => absurd h (by decide), fun h => absurd h (by decide)⟩
theorem sf_5 : SF 2 104 2 0 0 qX2_allBridges := ⟨fw5 wd_699 wd_679 wd_680 wd_54 wd_681, ⟨by decide +kernel, by decide +kernel⟩, by decide +kernel, rfl, plainFor_of_name (by decide +kernel), by decide, by decide +kernel, fun _ => ⟨rfl, by decide, rfl⟩, fun h => absurd h (by decide), fun h => absurd h (by decide), fun h => absurd h (by decide)⟩
theorem sf_6 : SF 2 108 2 0 2 qX2_joins := ⟨fw5 wd_552 wd_554 wd_9 wd_54 wd_555, ⟨by decide +kernel, by decide +kernel⟩, by decide +kernel, rfl, plainFor_of_name (by decide +kernel), by decide, by decide +kernel, fun _ => ⟨rfl, by decide, rfl⟩, fun h => absurd h (by decide), fun h => absurd h (by decide), fun h => absurd h (by decide)⟩
theorem sf_7 : SF 2 112 0 4 1 qX0_loadBy := ⟨fw8 wd_361 wd_364 wd_362 wd_365 wd_366 wd_57 wd_377 wd_367, ⟨by decide +kernel, by decide +kernel⟩, by decide +kernel, rfl, plainFor_of_name (by decide +kernel), by decide, by decide +kernel, fun h => absurd h (by decide), fun _ => ⟨by decide, rfl⟩, fun h => absurd h (by decide), fun h => absurd h (by decide)⟩
theorem sf_8 : SF 2 112 1 4 1 qX1_loadBy := ⟨fw8 wd_361 wd_364 wd_362 wd_368 wd_369 wd_56 wd_377 wd_370, ⟨by decide +kernel, by decide +kernel⟩, by decide +kernel, rfl, plainFor_of_name (by decide +kernel), by decide, by decide +kernel, fun h => absurd h (by decide), fun _ => ⟨by decide, rfl⟩, fun h => absurd h (by decide), fun h => absurd h (by decide)⟩
theorem sf_9 : SF 2 112 3 4 1 qX3_loadBy := ⟨fw8 wd_361 wd_364 wd_362 wd_371 wd_372 wd_60 wd_377 wd_373, ⟨by decide +kernel, by decide +kernel⟩, by decide +kernel, rfl, plainFor_of_name (by decide +kernel), by decide, by decide +kernel, fun h => absurd h (by decide), fun _ => ⟨by decide, rfl⟩, fun h => absurd h (by decide), fun h => absurd h (by decide)⟩
theorem sf_10 : SF 2 112 4 4 1 qX1_loadBy := ⟨fw8 wd_361 wd_364 wd_362 wd_375 wd_369 wd_56 wd_377 wd_370, ⟨by decide +kernel, by decide +kernel⟩, by decide +kernel, rfl, plainFor_of_name (by decide +kernel), by decide, by decide +kernel, fun h => absurd h (by decide), fun _ => ⟨by decide, rfl⟩, fun h => absurd h (by decide), fun h => absurd h (by decide)⟩
theorem sf_11 : SF 2 112 5 4 1 qX7_loadBy := ⟨fw8 wd_361 wd_364 wd_362 wd_376 wd_362 wd_55 wd_377 wd_377, ⟨by decide +kernel, by decide +kernel⟩, by decide +kernel, rfl, plainFor_of_name (by decide +kernel), by decide, by decide +kernel, fun h => absurd h (by decide), fun _ => ⟨by decide, rfl⟩, fun h => absurd h (by decide), fun h => absurd h (by decide)⟩
theorem sf_12 : SF 2 112 7 4 1 qX7_loadBy := ⟨fw8 wd_361 wd_364 wd_362 wd_363 wd_362 wd_55 wd_377 wd_377, ⟨by decide +kernel, by decide +kernel⟩, by decide +kernel, rfl, plainFor_of_name (by decide +kernel), by decide, by decide +kernel, fun h => absurd h (by decide), fun _ => ⟨by decide, rfl⟩, fun h => absurd h (by decide), fun h => absurd h (by decide)⟩
theorem sf_13 : SF 2 116 99 2 2 qJ9_min_7cf53 := ⟨fw4 wd_542 wd_543 wd_71 wd_544, ⟨by decide +kernel, by decide +kernel⟩, by decide +kernel, rfl, by decide +kernel, by decide, by decide +kernel, fun h => absurd h (by decide), fun h => absurd h (by decide), fun h => absurd h (by decide), fun h => absurd h (by decide)⟩
theorem sf_14 : SF 2 122 99 2 2 qJ9_max_7cf53 := ⟨fw4 wd_545 wd_546 wd_71 wd_547, ⟨by decide +kernel, by decide +kernel⟩, by decide +kernel, rfl, by decide +kernel, by decide, by decide +kernel, fun h => absurd h (by decide), fun h => absurd h (by decide), fun h => absurd h (by decide), fun h => absurd h (by decide)⟩
theorem sf_15 : SF 2 125 2 0 1 qX2_isDown := ⟨fw5 wd_548 wd_550 wd_8 wd_54 wd_551, ⟨by decide +kernel, by decide +kernel⟩, by decide +kernel, rfl, plainFor_of_name (by decide +kernel), by decide, by decide +kernel, fun _ => ⟨rfl, by decide, rfl⟩, fun h => absurd h (by decide), fun h => absurd h (by decide), fun h => absurd h (by decide)⟩
theorem sf_16 : SF 2 128 2 0 1 qX2_loadOn := ⟨fw5 wd_568 wd_358 wd_359 wd_54 wd_360, ⟨by decide +kernel, by decide +kernel⟩, by decide +kernel, rfl, plainFor_of_name (by decide +kernel), by decide, by decide +kernel, fun _ => ⟨rfl, by decide, rfl⟩, fun h => absurd h (by decide), fun h => absurd h (by decide), fun h => absurd h (by decide)⟩
theorem sf_17 : SF 2 131 2 0 2 qX2_tip := ⟨fw5 wd_569 wd_571 wd_10 wd_54 wd_572, ⟨by decide +kernel, by decide +kernel⟩, by decide +kernel, rfl, plainFor_of_name (by decide +kernel), by decide, by decide +kernel, fun _ => ⟨rfl, by decide, rfl⟩, fun h => absurd h (by decide), fun h => absurd h (by decide), fun h => absurd h (by decide)⟩
theorem sf_18 : SF 2 135 0 4 0 qX7_mayFall := ⟨fw8 wd_573 wd_576 wd_574 wd_577 wd_574 wd_55 wd_584 wd_584, ⟨by decide +kernel, by decide +kernel⟩, by decide +kernel, rfl, plainFor_of_name (by decide +kernel), by decide, by decide +kernel, fun h => absurd h (by decide), fun _ => ⟨by decide, rfl⟩, fun h => absurd h (by decide), fun h => absurd h (by decide)⟩
theorem sf_19 : SF 2 135 1 4 0 qX7_mayFall := ⟨fw8 wd_573 wd_576 wd_574 wd_578 wd_574 wd_55 wd_584 wd_584, ⟨by decide +kernel, by decide +kernel⟩, by decide +kernel, rfl, plainFor_of_name (by decide +kernel), by decide, by decide +kernel, fun h => absurd h (by decide), fun _ => ⟨by decide, rfl⟩, fun h => absurd h (by decide), fun h => absurd h (by decide)⟩
theorem sf_20 : SF 2 135 3 4 0 qX7_mayFall := ⟨fw8 wd_573 wd_576 wd_574 wd_579 wd_574 wd_55 wd_584 wd_584, ⟨by decide +kernel, by decide +kernel⟩, by decide +kernel, rfl, plainFor_of_name (by decide +kernel), by decide, by decide +kernel, fun h => absurd h (by decide), fun _ => ⟨by decide, rfl⟩, fun h => absurd h (by decide), fun h => absurd h (by decide)⟩
theorem sf_21 : SF 2 135 4 4 0 qX4_mayFall := ⟨fw8 wd_573 wd_576 wd_574 wd_580 wd_581 wd_59 wd_584 wd_582, ⟨by decide +kernel, by decide +kernel⟩, by decide +kernel, rfl, plainFor_of_name (by decide +kernel), by decide, by decide +kernel, fun h => absurd h (by decide), fun _ => ⟨by decide, rfl⟩, fun h => absurd h (by decide), fun h => absurd h (by decide)⟩
theorem sf_22 : SF 2 135 5 4 0 qX7_mayFall := ⟨fw8 wd_573 wd_576 wd_574 wd_583 wd_574 wd_55 wd_584 wd_584, ⟨by decide +kernel, by decide +kernel⟩, by decide +kernel, rfl, plainFor_of_name (by decide +kernel), by decide, by decide +kernel, fun h => absurd h (by decide), fun _ => ⟨by decide, rfl⟩, fun h => absurd h (by decide), fun h => absurd h (by decide)⟩
theorem sf_23 : SF 2 135 7 4 0 qX7_mayFall := ⟨fw8 wd_573 wd_576 wd_574 wd_575 wd_574 wd_55 wd_584 wd_584, ⟨by decide +kernel, by decide +kernel⟩, by decide +kernel, rfl, plainFor_of_name (by decide +kernel), by decide, by decide +kernel, fun h => absurd h (by decide), fun _ => ⟨by decide, rfl⟩, fun h => absurd h (by decide), fun h => absurd h (by decide)⟩
theorem sf_24 : SF 2 139 0 4 0 qX7_mayRise := ⟨fw8 wd_585 wd_588 wd_586 wd_589 wd_586 wd_55 wd_596 wd_596, ⟨by decide +kernel, by decide +kernel⟩, by decide +kernel, rfl, plainFor_of_name (by decide +kernel), by decide, by decide +kernel, fun h => absurd h (by decide), fun _ => ⟨by decide, rfl⟩, fun h => absurd h (by decide), fun h => absurd h (by decide)⟩
theorem sf_25 : SF 2 139 1 4 0 qX7_mayRise := ⟨fw8 wd_585 wd_588 wd_586 wd_590 wd_586 wd_55 wd_596 wd_596, ⟨by decide +kernel, by decide +kernel⟩, by decide +kernel, rfl, plainFor_of_name (by decide +kernel), by decide, by decide +kernel, fun h => absurd h (by decide), fun _ => ⟨by decide, rfl⟩, fun h => absurd h (by decide), fun h => absurd h (by decide)⟩
theorem sf_26 : SF 2 139 3 4 0 qX7_mayRise := ⟨fw8 wd_585 wd_588 wd_586 wd_591 wd_586 wd_55 wd_596 wd_596, ⟨by decide +kernel, by decide +kernel⟩, by decide +kernel, rfl, plainFor_of_name (by decide +kernel), by decide, by decide +kernel, fun h => absurd h (by decide), fun _ => ⟨by decide, rfl⟩, fun h => absurd h (by decide), fun h => absurd h (by decide)⟩
theorem sf_27 : SF 2 139 4 4 0 qX7_mayRise := ⟨fw8 wd_585 wd_588 wd_586 wd_592 wd_586 wd_55 wd_596 wd_596, ⟨by decide +kernel, by decide +kernel⟩, by decide +kernel, rfl, plainFor_of_name (by decide +kernel), by decide, by decide +kernel, fun h => absurd h (by decide), fun _ => ⟨by decide, rfl⟩, fun h => absurd h (by decide), fun h => absurd h (by decide)⟩
theorem sf_28 : SF 2 139 5 4 0 qX5_mayRise := ⟨fw8 wd_585 wd_588 wd_586 wd_593 wd_594 wd_58 wd_596 wd_595, ⟨by decide +kernel, by decide +kernel⟩, by decide +kernel, rfl, plainFor_of_name (by decide +kernel), by decide, by decide +kernel, fun h => absurd h (by decide), fun _ => ⟨by decide, rfl⟩, fun h => absurd h (by decide), fun h => absurd h (by decide)⟩
theorem sf_29 : SF 2 139 7 4 0 qX7_mayRise := ⟨fw8 wd_585 wd_588 wd_586 wd_587 wd_586 wd_55 wd_596 wd_596, ⟨by decide +kernel, by decide +kernel⟩, by decide +kernel, rfl, plainFor_of_name (by decide +kernel), by decide, by decide +kernel, fun h => absurd h (by decide), fun _ => ⟨by decide, rfl⟩, fun h => absurd h (by decide), fun h => absurd h (by decide)⟩
theorem sf_30 : SF 3 7 0 5 1 qX0_loadBy := ⟨fw6 wd_374 wd_1149 wd_130 wd_366 wd_57 wd_367, ⟨by decide +kernel, by decide +kernel⟩, by decide +kernel, rfl, plainFor_of_name (by decide +kernel), by decide, by decide +kernel, fun h => absurd h (by decide), fun h => absurd h (by decide), fun h => absurd h (by decide), fun _ => ⟨by decide, rfl⟩⟩
theorem sf_31 : SF 8 15 2 0 0 qX2_empty := ⟨fw5 wd_415 wd_416 wd_417 wd_54 wd_418, ⟨by decide +kernel, by decide +kernel⟩, by decide +kernel, rfl, plainFor_of_name (by decide +kernel), by decide, by decide +kernel, fun _ => ⟨rfl, by decide, rfl⟩, fun h => absurd h (by decide), fun h => absurd h (by decide), fun h => absurd h (by decide)⟩
theorem sf_32 : SF 8 20 10 0 0 qX10_lookAtFirst := ⟨fw5 wd_419 wd_420 wd_421 wd_62 wd_422, ⟨by decide +kernel, by decide +kernel⟩, by decide +kernel, rfl, plainFor_of_name (by decide +kernel), by decide, by decide +kernel, fun _ => ⟨rfl, by decide, rfl⟩, fun h => absurd h (by decide), fun h => absurd h (by decide), fun h => absurd h (by decide)⟩
theorem sf_33 : SF 8 29 8 0 1 qX8_readItem := ⟨fw5 wd_502 wd_504 wd_6 wd_63 wd_505, ⟨by decide +kernel, by decide +kernel⟩, by decide +kernel, rfl, plainFor_of_name (by decide +kernel), by decide, by decide +kernel, fun _ => ⟨rfl, by decide, rfl⟩, fun h => absurd h (by decide), fun h => absurd h (by decide), fun h => absurd h (by decide)⟩
theorem sf_34 : SF 8 36 8 0 1 qX8_tell := ⟨fw5 wd_509 wd_511 wd_7 wd_63 wd_512, ⟨by decide +kernel, by decide +kernel⟩, by decide +kernel, rfl, plainFor_of_name (by decide +kernel), by decide, by decide +kernel, fun _ => ⟨rfl, by decide, rfl⟩, fun h => absurd h (by decide), fun h => absurd h (by decide), fun h => absurd h (by decide)⟩
theorem sf_35 : SF 8 49 10 0 0 qX10_lookAtNext := ⟨fw5 wd_508 wd_424 wd_425 wd_62 wd_426, ⟨by decide +kernel, by decide +kernel⟩, by decide +kernel, rfl, plainFor_of_name (by decide +kernel), by decide, by decide +kernel, fun _ => ⟨rfl, by decide, rfl⟩, fun h => absurd h (by decide), fun h => absurd h (by decide), fun h => absurd h (by decide)⟩
theorem sf_36 : SF 8 52 2 0 4 qX2_addBridge := ⟨fw5 wd_513 wd_306 wd_307 wd_54 wd_308, ⟨by decide +kernel, by decide +kernel⟩, by decide +kernel, rfl, plainFor_of_name (by decide +kernel), by decide, by decide +kernel, fun _ => ⟨rfl, by decide, rfl⟩, fun h => absurd h (by decide), fun h => absurd h (by decide), fun h => absurd h (by decide)⟩
theorem sf_37 : SF 8 56 2 0 3 qX2_addChain := ⟨fw5 wd_514 wd_325 wd_326 wd_54 wd_327, ⟨by decide +kernel, by decide +kernel⟩, by decide +kernel, rfl, plainFor_of_name (by decide +kernel), by decide, by decide +kernel, fun _ => ⟨rfl, by decide, rfl⟩, fun h => absurd h (by decide), fun h => absurd h (by decide), fun h => absurd h (by decide)⟩
theorem sf_38 : SF 8 60 2 0 2 qX2_addPerson := ⟨fw5 wd_515 wd_349 wd_350 wd_54 wd_351, ⟨by decide +kernel, by decide +kernel⟩, by decide +kernel, rfl, plainFor_of_name (by decide +kernel), by decide, by decide +kernel, fun _ => ⟨rfl, by decide, rfl⟩, fun h => absurd h (by decide), fun h => absurd h (by decide), fun h => absurd h (by decide)⟩
theorem sf_39 : SF 8 64 2 0 2 qX2_setBallast := ⟨fw5 wd_516 wd_341 wd_342 wd_54 wd_343, ⟨by decide +kernel, by decide +kernel⟩, by decide +kernel, rfl, plainFor_of_name (by decide +kernel), by decide, by decide +kernel, fun _ => ⟨rfl, by decide, rfl⟩, fun h => absurd h (by decide), fun h => absurd h (by decide), fun h => absurd h (by decide)⟩
theorem sf_40 : SF 9 19 2 0 0 qX2_packed := ⟨fw5 wd_626 wd_557 wd_558 wd_54 wd_559, ⟨by decide +kernel, by decide +kernel⟩, by decide +kernel, rfl, plainFor_of_name (by decide +kernel), by decide, by decide +kernel, fun _ => ⟨rfl, by decide, rfl⟩, fun h => absurd h (by decide), fun h => absurd h (by decide), fun h => absurd h (by decide)⟩
theorem sf_41 : SF 9 25 9 0 1 qX9_begin := ⟨fw5 wd_627 wd_629 wd_12 wd_64 wd_630, ⟨by decide +kernel, by decide +kernel⟩, by decide +kernel, rfl, plainFor_of_name (by decide +kernel), by decide, by decide +kernel, fun _ => ⟨rfl, by decide, rfl⟩, fun h => absurd h (by decide), fun h => absurd h (by decide), fun h => absurd h (by decide)⟩
theorem sf_42 : SF 9 33 9 0 1 qX9_stateAt := ⟨fw5 wd_638 wd_640 wd_14 wd_64 wd_641, ⟨by decide +kernel, by decide +kernel⟩, by decide +kernel, rfl, plainFor_of_name (by decide +kernel), by decide, by decide +kernel, fun _ => ⟨rfl, by decide, rfl⟩, fun h => absurd h (by decide), fun h => absurd h (by decide), fun h => absurd h (by decide)⟩
theorem sf_43 : SF 9 37 2 0 1 qX2_unpack := ⟨fw5 wd_642 wd_606 wd_607 wd_54 wd_608, ⟨by decide +kernel, by decide +kernel⟩, by decide +kernel, rfl, plainFor_of_name (by decide +kernel), by decide, by decide +kernel, fun _ => ⟨rfl, by decide, rfl⟩, fun h => absurd h (by decide), fun h => absurd h (by decide), fun h => absurd h (by decide)⟩
theorem sf_44 : SF 9 40 2 0 2 qX2_areIn := ⟨fw5 wd_643 wd_644 wd_645 wd_54 wd_646, ⟨by decide +kernel, by decide +kernel⟩, by decide +kernel, rfl, plainFor_of_name (by decide +kernel), by decide, by decide +kernel, fun _ => ⟨rfl, by decide, rfl⟩, fun h => absurd h (by decide), fun h => absurd h (by decide), fun h => absurd h (by decide)⟩
theorem sf_45 : SF 9 47 9 0 2 qX9_goOn := ⟨fw5 wd_647 wd_649 wd_15 wd_64 wd_650, ⟨by decide +kernel, by decide +kernel⟩, by decide +kernel, rfl, plainFor_of_name (by decide +kernel), by decide, by decide +kernel, fun _ => ⟨rfl, by decide, rfl⟩, fun h => absurd h (by decide), fun h => absurd h (by decide), fun h => absurd h (by decide)⟩
theorem sf_46 : SF 9 51 99 2 2 qJ7_fill_d0a16 := ⟨fw4 wd_631 wd_632 wd_72 wd_633, ⟨by decide +kernel, by decide +kernel⟩, by decide +kernel, rfl, plainFor_of_name (by decide +kernel), by decide, by decide +kernel, fun h => absurd h (by decide), fun h => absurd h (by decide), fun h => absurd h (by decide), fun h => absurd h (by decide)⟩
theorem sf_47 : SF 9 60 9 0 2 qX9_note := ⟨fw5 wd_634 wd_636 wd_13 wd_64 wd_637, ⟨by decide +kernel, by decide +kernel⟩, by decide +kernel, rfl, plainFor_of_name (by decide +kernel), by decide, by decide +kernel, fun _ => ⟨rfl, by decide, rfl⟩, fun h => absurd h (by decide), fun h => absurd h (by decide), fun h => absurd h (by decide)⟩
theorem sf_48 : SF 9 73 2 0 2 qX2_canGo := ⟨fw5 wd_651 wd_539 wd_540 wd_54 wd_541, ⟨by decide +kernel, by decide +kernel⟩, by decide +kernel, rfl, plainFor_of_name (by decide +kernel), by decide, by decide +kernel, fun _ => ⟨rfl, by decide, rfl⟩, fun h => absurd h (by decide), fun h => absurd h (by decide), fun h => absurd h (by decide)⟩
theorem sf_49 : SF 9 76 2 0 2 qX2_go := ⟨fw5 wd_652 wd_565 wd_566 wd_54 wd_567, ⟨by decide +kernel, by decide +kernel⟩, by decide +kernel, rfl, plainFor_of_name (by decide +kernel), by decide, by decide +kernel, fun _ => ⟨rfl, by decide, rfl⟩, fun h => absurd h (by decide), fun h => absurd h (by decide), fun h => absurd h (by decide)⟩
theorem sf_50 : SF 9 79 9 0 1 qX9_before := ⟨fw5 wd_657 wd_659 wd_16 wd_64 wd_660, ⟨by decide +kernel, by decide +kernel⟩, by decide +kernel, rfl, plainFor_of_name (by decide +kernel), by decide, by decide +kernel, fun _ => ⟨rfl, by decide, rfl⟩, fun h => absurd h (by decide), fun h => absurd h (by decide), fun h => absurd h (by decide)⟩
theorem sf_51 : SF 9 82 99 2 2 qX9_stepBetween := ⟨fw4 wd_661 wd_662 wd_64 wd_663, ⟨by decide +kernel, by decide +kernel⟩, by decide +kernel, rfl, plainFor_of_name (by decide +kernel), by decide, by decide +kernel, fun h => absurd h (by decide), fun h => absurd h (by decide), fun h => absurd h (by decide), fun h => absurd h (by decide)⟩
theorem sf_52 : SF 10 24 10 0 0 qX10_lookAtNext := ⟨fw5 wd_423 wd_424 wd_425 wd_62 wd_426, ⟨by decide +kernel, by decide +kernel⟩, by decide +kernel, rfl, plainFor_of_name (by decide +kernel), by decide, by decide +kernel, fun _ => ⟨rfl, by decide, rfl⟩, fun h => absurd h (by decide), fun h => absurd h (by decide), fun h => absurd h (by decide)⟩
theorem sf_53 : SF 10 33 99 2 1 qX10_isLetter := ⟨fw4 wd_427 wd_428 wd_62 wd_429, ⟨by decide +kernel, by decide +kernel⟩, by decide +kernel, rfl, plainFor_of_name (by decide +kernel), by decide, by decide +kernel, fun h => absurd h (by decide), fun h => absurd h (by decide), fun h => absurd h (by decide), fun h => absurd h (by decide)⟩
theorem sf_54 : SF 10 37 10 0 0 qX10_takeWord := ⟨fw5 wd_430 wd_432 wd_2 wd_62 wd_433, ⟨by decide +kernel, by decide +kernel⟩, by decide +kernel, rfl, plainFor_of_name (by decide +kernel), by decide, by decide +kernel, fun _ => ⟨rfl, by decide, rfl⟩, fun h => absurd h (by decide), fun h => absurd h (by decide), fun h => absurd h (by decide)⟩
theorem sf_55 : SF 10 40 99 2 1 qX10_isFigure := ⟨fw4 wd_495 wd_496 wd_62 wd_497, ⟨by decide +kernel, by decide +kernel⟩, by decide +kernel, rfl, plainFor_of_name (by decide +kernel), by decide, by decide +kernel, fun h => absurd h (by decide), fun h => absurd h (by decide), fun h => absurd h (by decide), fun h => absurd h (by decide)⟩
theorem sf_56 : SF 10 43 10 0 0 qX10_takeNumber := ⟨fw5 wd_498 wd_500 wd_5 wd_62 wd_501, ⟨by decide +kernel, by decide +kernel⟩, by decide +kernel, rfl, plainFor_of_name (by decide +kernel), by decide, by decide +kernel, fun _ => ⟨rfl, by decide, rfl⟩, fun h => absurd h (by decide), fun h => absurd h (by decide), fun h => absurd h (by decide)⟩
theorem sf_57 : SF 10 46 10 0 0 qX10_itemOfWord := ⟨fw5 wd_434 wd_436 wd_3 wd_62 wd_437, ⟨by decide +kernel, by decide +kernel⟩, by decide +kernel, rfl, plainFor_of_name (by decide +kernel), by decide, by decide +kernel, fun _ => ⟨rfl, by decide, rfl⟩, fun h => absurd h (by decide), fun h => absurd h (by decide), fun h => absurd h (by decide)⟩
theorem sf_58 : SF 10 55 10 0 1 qX10_isWord := ⟨fw5 wd_439 wd_441 wd_4 wd_62 wd_442, ⟨by decide +kernel, by decide +kernel⟩, by decide +kernel, rfl, plainFor_of_name (by decide +kernel), by decide, by decide +kernel, fun _ => ⟨rfl, by decide, rfl⟩, fun h => absurd h (by decide), fun h => absurd h (by decide), fun h => absurd h (by decide)⟩
theorem sf_59 : SF 11 48 2 0 4 qX2_addBridge := ⟨fw5 wd_305 wd_306 wd_307 wd_54 wd_308, ⟨by decide +kernel, by decide +kernel⟩, by decide +kernel, rfl, plainFor_of_name (by decide +kernel), by decide, by decide +kernel, fun _ => ⟨rfl, by decide, rfl⟩, fun h => absurd h (by decide), fun h => absurd h (by decide), fun h => absurd h (by decide)⟩
theorem sf_60 : SF 11 52 11 0 1 qX11_counted := ⟨fw5 wd_316 wd_318 wd_0 wd_53 wd_319, ⟨by decide +kernel, by decide +kernel⟩, by decide +kernel, rfl, plainFor_of_name (by decide +kernel), by decide, by decide +kernel, fun _ => ⟨rfl, by decide, rfl⟩, fun h => absurd h (by decide), fun h => absurd h (by decide), fun h => absurd h (by decide)⟩
theorem sf_61 : SF 11 56 2 0 3 qX2_addChain := ⟨fw5 wd_324 wd_325 wd_326 wd_54 wd_327, ⟨by decide +kernel, by decide +kernel⟩, by decide +kernel, rfl, plainFor_of_name (by decide +kernel), by decide, by decide +kernel, fun _ => ⟨rfl, by decide, rfl⟩, fun h => absurd h (by decide), fun h => absurd h (by decide), fun h => absurd h (by decide)⟩
theorem sf_62 : SF 11 60 2 0 2 qX2_setBallast := ⟨fw5 wd_340 wd_341 wd_342 wd_54 wd_343, ⟨by decide +kernel, by decide +kernel⟩, by decide +kernel, rfl, plainFor_of_name (by decide +kernel), by decide, by decide +kernel, fun _ => ⟨rfl, by decide, rfl⟩, fun h => absurd h (by decide), fun h => absurd h (by decide), fun h => absurd h (by decide)⟩
theorem sf_63 : SF 11 64 2 0 2 qX2_addPerson := ⟨fw5 wd_348 wd_349 wd_350 wd_54 wd_351, ⟨by decide +kernel, by decide +kernel⟩, by decide +kernel, rfl, plainFor_of_name (by decide +kernel), by decide, by decide +kernel, fun _ => ⟨rfl, by decide, rfl⟩, fun h => absurd h (by decide), fun h => absurd h (by decide), fun h => absurd h (by decide)⟩
theorem sf_64 : SF 11 67 2 0 1 qX2_isBridge := ⟨fw5 wd_356 wd_329 wd_330 wd_54 wd_331, ⟨by decide +kernel, by decide +kernel⟩, by decide +kernel, rfl, plainFor_of_name (by decide +kernel), by decide, by decide +kernel, fun _ => ⟨rfl, by decide, rfl⟩, fun h => absurd h (by decide), fun h => absurd h (by decide), fun h => absurd h (by decide)⟩
theorem sf_65 : SF 11 71 2 0 1 qX2_loadOn := ⟨fw5 wd_357 wd_358 wd_359 wd_54 wd_360, ⟨by decide +kernel, by decide +kernel⟩, by decide +kernel, rfl, plainFor_of_name (by decide +kernel), by decide, by decide +kernel, fun _ => ⟨rfl, by decide, rfl⟩, fun h => absurd h (by decide), fun h => absurd h (by decide), fun h => absurd h (by decide)⟩
theorem sf_66 : SF 11 74 2 0 1 qX2_isPerson := ⟨fw5 wd_382 wd_383 wd_384 wd_54 wd_385, ⟨by decide +kernel, by decide +kernel⟩, by decide +kernel, rfl, plainFor_of_name (by decide +kernel), by decide, by decide +kernel, fun _ => ⟨rfl, by decide, rfl⟩, fun h => absurd h (by decide), fun h => absurd h (by decide), fun h => absurd h (by decide)⟩
theorem sf_67 : SF 11 85 10 0 2 qX10_append := ⟨fw5 wd_394 wd_395 wd_396 wd_62 wd_397, ⟨by decide +kernel, by decide +kernel⟩, by decide +kernel, rfl, plainFor_of_name (by decide +kernel), by decide, by decide +kernel, fun _ => ⟨rfl, by decide, rfl⟩, fun h => absurd h (by decide), fun h => absurd h (by decide), fun h => absurd h (by decide)⟩
theorem sf_68 : SF 11 89 10 0 0 qX10_wipe := ⟨fw5 wd_403 wd_404 wd_405 wd_62 wd_406, ⟨by decide +kernel, by decide +kernel⟩, by decide +kernel, rfl, plainFor_of_name (by decide +kernel), by decide, by decide +kernel, fun _ => ⟨rfl, by decide, rfl⟩, fun h => absurd h (by decide), fun h => absurd h (by decide), fun h => absurd h (by decide)⟩
theorem sf_69 : SF 11 93 8 0 2 qX8_readInto := ⟨fw5 wd_411 wd_412 wd_413 wd_63 wd_414, ⟨by decide +kernel, by decide +kernel⟩, by decide +kernel, rfl, plainFor_of_name (by decide +kernel), by decide, by decide +kernel, fun _ => ⟨rfl, by decide, rfl⟩, fun h => absurd h (by decide), fun h => absurd h (by decide), fun h => absurd h (by decide)⟩
theorem sf_70 : SF 11 97 2 0 1 qX2_take := ⟨fw5 wd_517 wd_518 wd_519 wd_54 wd_520, ⟨by decide +kernel, by decide +kernel⟩, by decide +kernel, rfl, plainFor_of_name (by decide +kernel), by decide, by decide +kernel, fun _ => ⟨rfl, by decide, rfl⟩, fun h => absurd h (by decide), fun h => absurd h (by decide), fun h => absurd h (by decide)⟩
theorem sf_71 : SF 11 101 2 0 1 qX2_isPlace := ⟨fw5 wd_534 wd_535 wd_536 wd_54 wd_537, ⟨by decide +kernel, by decide +kernel⟩, by decide +kernel, rfl, plainFor_of_name (by decide +kernel), by decide, by decide +kernel, fun _ => ⟨rfl, by decide, rfl⟩, fun h => absurd h (by decide), fun h => absurd h (by decide), fun h => absurd h (by decide)⟩
theorem sf_72 : SF 11 104 2 0 2 qX2_canGo := ⟨fw5 wd_538 wd_539 wd_540 wd_54 wd_541, ⟨by decide +kernel, by decide +kernel⟩, by decide +kernel, rfl, plainFor_of_name (by decide +kernel), by decide, by decide +kernel, fun _ => ⟨rfl, by decide, rfl⟩, fun h => absurd h (by decide), fun h => absurd h (by decide), fun h => absurd h (by decide)⟩
theorem sf_73 : SF 11 112 2 0 0 qX2_packed := ⟨fw5 wd_556 wd_557 wd_558 wd_54 wd_559, ⟨by decide +kernel, by decide +kernel⟩, by decide +kernel, rfl, plainFor_of_name (by decide +kernel), by decide, by decide +kernel, fun _ => ⟨rfl, by decide, rfl⟩, fun h => absurd h (by decide), fun h => absurd h (by decide), fun h => absurd h (by decide)⟩
theorem sf_74 : SF 11 115 6 0 1 qX6_push := ⟨fw5 wd_560 wd_561 wd_562 wd_61 wd_563, ⟨by decide +kernel, by decide +kernel⟩, by decide +kernel, rfl, plainFor_of_name (by decide +kernel), by decide, by decide +kernel, fun _ => ⟨rfl, by decide, rfl⟩, fun h => absurd h (by decide), fun h => absurd h (by decide), fun h => absurd h (by decide)⟩
theorem sf_75 : SF 11 121 2 0 2 qX2_go := ⟨fw5 wd_564 wd_565 wd_566 wd_54 wd_567, ⟨by decide +kernel, by decide +kernel⟩, by decide +kernel, rfl, plainFor_of_name (by decide +kernel), by decide, by decide +kernel, fun _ => ⟨rfl, by decide, rfl⟩, fun h => absurd h (by decide), fun h => absurd h (by decide), fun h => absurd h (by decide)⟩
theorem sf_76 : SF 11 128 6 0 0 qX6_pop := ⟨fw5 wd_601 wd_602 wd_603 wd_61 wd_604, ⟨by decide +kernel, by decide +kernel⟩, by decide +kernel, rfl, plainFor_of_name (by decide +kernel), by decide, by decide +kernel, fun _ => ⟨rfl, by decide, rfl⟩, fun h => absurd h (by decide), fun h => absurd h (by decide), fun h => absurd h (by decide)⟩
theorem sf_77 : SF 11 131 2 0 1 qX2_unpack := ⟨fw5 wd_605 wd_606 wd_607 wd_54 wd_608, ⟨by decide +kernel, by decide +kernel⟩, by decide +kernel, rfl, plainFor_of_name (by decide +kernel), by decide, by decide +kernel, fun _ => ⟨rfl, by decide, rfl⟩, fun h => absurd h (by decide), fun h => absurd h (by decide), fun h => absurd h (by decide)⟩
theorem sf_78 : SF 11 134 2 0 1 qX2_areSome := ⟨fw5 wd_613 wd_614 wd_615 wd_54 wd_616, ⟨by decide +kernel, by decide +kernel⟩, by decide +kernel, rfl, plainFor_of_name (by decide +kernel), by decide, by decide +kernel, fun _ => ⟨rfl, by decide, rfl⟩, fun h => absurd h (by decide), fun h => absurd h (by decide), fun h => absurd h (by decide)⟩
theorem sf_79 : SF 11 137 99 2 1 qX11_isRoom := ⟨fw4 wd_617 wd_310 wd_53 wd_311, ⟨by decide +kernel, by decide +kernel⟩, by decide +kernel, rfl, plainFor_of_name (by decide +kernel), by decide, by decide +kernel, fun h => absurd h (by decide), fun h => absurd h (by decide), fun h => absurd h (by decide), fun h => absurd h (by decide)⟩
theorem sf_80 : SF 11 140 11 0 2 qX11_stepsNow := ⟨fw5 wd_618 wd_620 wd_11 wd_53 wd_621, ⟨by decide +kernel, by decide +kernel⟩, by decide +kernel, rfl, plainFor_of_name (by decide +kernel), by decide, by decide +kernel, fun _ => ⟨rfl, by decide, rfl⟩, fun h => absurd h (by decide), fun h => absurd h (by decide), fun h => absurd h (by decide)⟩
theorem sf_81 : SF 11 143 9 0 2 qX9_stepOfWay := ⟨fw5 wd_653 wd_654 wd_655 wd_64 wd_656, ⟨by decide +kernel, by decide +kernel⟩, by decide +kernel, rfl, plainFor_of_name (by decide +kernel), by decide, by decide +kernel, fun _ => ⟨rfl, by decide, rfl⟩, fun h => absurd h (by decide), fun h => absurd h (by decide), fun h => absurd h (by decide)⟩
theorem sf_82 : SF 11 146 11 0 0 qX11_lyingsNow := ⟨fw5 wd_668 wd_670 wd_17 wd_53 wd_671, ⟨by decide +kernel, by decide +kernel⟩, by decide +kernel, rfl, plainFor_of_name (by decide +kernel), by decide, by decide +kernel, fun _ => ⟨rfl, by decide, rfl⟩, fun h => absurd h (by decide), fun h => absurd h (by decide), fun h => absurd h (by decide)⟩
theorem sf_83 : SF 11 152 99 2 1 qJ6_bitCount_0f7a4 := ⟨fw4 wd_672 wd_673 wd_73 wd_674, ⟨by decide +kernel, by decide +kernel⟩, by decide +kernel, rfl, plainFor_of_name (by decide +kernel), by decide, by decide +kernel, fun h => absurd h (by decide), fun h => absurd h (by decide), fun h => absurd h (by decide), fun h => absurd h (by decide)⟩
theorem sf_84 : SF 11 157 2 0 0 qX2_allBridges := ⟨fw5 wd_678 wd_679 wd_680 wd_54 wd_681, ⟨by decide +kernel, by decide +kernel⟩, by decide +kernel, rfl, plainFor_of_name (by decide +kernel), by decide, by decide +kernel, fun _ => ⟨rfl, by decide, rfl⟩, fun h => absurd h (by decide), fun h => absurd h (by decide), fun h => absurd h (by decide)⟩
theorem sf_85 : SF 11 160 99 2 2 qX11_downInAll := ⟨fw4 wd_682 wd_683 wd_53 wd_684, ⟨by decide +kernel, by decide +kernel⟩, by decide +kernel, rfl, plainFor_of_name (by decide +kernel), by decide, by decide +kernel, fun h => absurd h (by decide), fun h => absurd h (by decide), fun h => absurd h (by decide), fun h => absurd h (by decide)⟩
theorem sf_86 : SF 11 163 99 2 1 qX11_downInSome := ⟨fw4 wd_688 wd_689 wd_53 wd_690, ⟨by decide +kernel, by decide +kernel⟩, by decide +kernel, rfl, plainFor_of_name (by decide +kernel), by decide, by decide +kernel, fun h => absurd h (by decide), fun h => absurd h (by decide), fun h => absurd h (by decide), fun h => absurd h (by decide)⟩
theorem sf_87 : SF 11 166 2 0 1 qX2_areBridges := ⟨fw5 wd_695 wd_696 wd_697 wd_54 wd_698, ⟨by decide +kernel, by decide +kernel⟩, by decide +kernel, rfl, plainFor_of_name (by decide +kernel), by decide, by decide +kernel, fun _ => ⟨rfl, by decide, rfl⟩, fun h => absurd h (by decide), fun h => absurd h (by decide), fun h => absurd h (by decide)⟩
theorem sf_88 : SF 11 169 99 2 2 qX11_isAmong := ⟨fw4 wd_685 wd_686 wd_53 wd_687, ⟨by decide +kernel, by decide +kernel⟩, by decide +kernel, rfl, plainFor_of_name (by decide +kernel), by decide, by decide +kernel, fun h => absurd h (by decide), fun h => absurd h (by decide), fun h => absurd h (by decide), fun h => absurd h (by decide)⟩
theorem sf_89 : SF 11 172 2 0 1 qX2_bridgesOf := ⟨fw5 wd_704 wd_705 wd_706 wd_54 wd_707, ⟨by decide +kernel, by decide +kernel⟩, by decide +kernel, rfl, plainFor_of_name (by decide +kernel), by decide, by decide +kernel, fun _ => ⟨rfl, by decide, rfl⟩, fun h => absurd h (by decide), fun h => absurd h (by decide), fun h => absurd h (by decide)⟩
theorem sf_90 : SF 11 175 2 0 1 qX2_leaveOut := ⟨fw5 wd_712 wd_713 wd_714 wd_54 wd_715, ⟨by decide +kernel, by decide +kernel⟩, by decide +kernel, rfl, plainFor_of_name (by decide +kernel), by decide, by decide +kernel, fun _ => ⟨rfl, by decide, rfl⟩, fun h => absurd h (by decide), fun h => absurd h (by decide), fun h => absurd h (by decide)⟩
theorem sf_91 : SF 11 178 9 0 4 qX9_shorter := ⟨fw5 wd_622 wd_623 wd_624 wd_64 wd_625, ⟨by decide +kernel, by decide +kernel⟩, by decide +kernel, rfl, plainFor_of_name (by decide +kernel), by decide, by decide +kernel, fun _ => ⟨rfl, by decide, rfl⟩, fun h => absurd h (by decide), fun h => absurd h (by decide), fun h => absurd h (by decide)⟩
theorem sf_92 : SF 11 188 2 0 1 qX2_dropChain := ⟨fw5 wd_720 wd_721 wd_722 wd_54 wd_723, ⟨by decide +kernel, by decide +kernel⟩, by decide +kernel, rfl, plainFor_of_name (by decide +kernel), by decide, by decide +kernel, fun _ => ⟨rfl, by decide, rfl⟩, fun h => absurd h (by decide), fun h => absurd h (by decide), fun h => absurd h (by decide)⟩
theorem sf_93 : SF 11 194 99 2 1 qX11_isStone := ⟨fw4 wd_732 wd_733 wd_53 wd_734, ⟨by decide +kernel, by decide +kernel⟩, by decide +kernel, rfl, plainFor_of_name (by decide +kernel), by decide, by decide +kernel, fun h => absurd h (by decide), fun h => absurd h (by decide), fun h => absurd h (by decide), fun h => absurd h (by decide)⟩
theorem sf_94 : SF 11 197 2 0 2 qX2_addStones := ⟨fw5 wd_735 wd_736 wd_737 wd_54 wd_738, ⟨by decide +kernel, by decide +kernel⟩, by decide +kernel, rfl, plainFor_of_name (by decide +kernel), by decide, by decide +kernel, fun _ => ⟨rfl, by decide, rfl⟩, fun h => absurd h (by decide), fun h => absurd h (by decide), fun h => absurd h (by decide)⟩
theorem sf_95 : SF 11 200 2 0 1 qX2_leaveAlone := ⟨fw5 wd_743 wd_744 wd_745 wd_54 wd_746, ⟨by decide +kernel, by decide +kernel⟩, by decide +kernel, rfl, plainFor_of_name (by decide +kernel), by decide, by decide +kernel, fun _ => ⟨rfl, by decide, rfl⟩, fun h => absurd h (by decide), fun h => absurd h (by decide), fun h => absurd h (by decide)⟩
theorem sf_96 : SF 11 203 99 2 5 qX11_rowsOf := ⟨fw4 wd_751 wd_752 wd_53 wd_753, ⟨by decide +kernel, by decide +kernel⟩, by decide +kernel, rfl, plainFor_of_name (by decide +kernel), by decide, by decide +kernel, fun h => absurd h (by decide), fun h => absurd h (by decide), fun h => absurd h (by decide), fun h => absurd h (by decide)⟩
theorem sf_97 : SF 11 207 99 2 1 qX11_isImage := ⟨fw4 wd_758 wd_759 wd_53 wd_760, ⟨by decide +kernel, by decide +kernel⟩, by decide +kernel, rfl, plainFor_of_name (by decide +kernel), by decide, by decide +kernel, fun h => absurd h (by decide), fun h => absurd h (by decide), fun h => absurd h (by decide), fun h => absurd h (by decide)⟩
theorem sf_98 : SF 11 229 2 0 1 qX2_digestOn := ⟨fw5 wd_779 wd_780 wd_781 wd_54 wd_782, ⟨by decide +kernel, by decide +kernel⟩, by decide +kernel, rfl, plainFor_of_name (by decide +kernel), by decide, by decide +kernel, fun _ => ⟨rfl, by decide, rfl⟩, fun h => absurd h (by decide), fun h => absurd h (by decide), fun h => absurd h (by decide)⟩
theorem sf_99 : SF 12 56 12 0 1 qX12_met := ⟨fw5 wd_876 wd_878 wd_19 wd_65 wd_879, ⟨by decide +kernel, by decide +kernel⟩, by decide +kernel, rfl, plainFor_of_name (by decide +kernel), by decide, by decide +kernel, fun _ => ⟨rfl, by decide, rfl⟩, fun h => absurd h (by decide), fun h => absurd h (by decide), fun h => absurd h (by decide)⟩
theorem sf_100 : SF 12 62 99 2 3 qX12_in := ⟨fw4 wd_872 wd_873 wd_65 wd_874, ⟨by decide +kernel, by decide +kernel⟩, by decide +kernel, rfl, plainFor_of_name (by decide +kernel), by decide, by decide +kernel, fun h => absurd h (by decide), fun h => absurd h (by decide), fun h => absurd h (by decide), fun h => absurd h (by decide)⟩
theorem sf_101 : SF 12 68 12 0 2 qX12_isBridge := ⟨fw5 wd_888 wd_890 wd_21 wd_65 wd_891, ⟨by decide +kernel, by decide +kernel⟩, by decide +kernel, rfl, plainFor_of_name (by decide +kernel), by decide, by decide +kernel, fun _ => ⟨rfl, by decide, rfl⟩, fun h => absurd h (by decide), fun h => absurd h (by decide), fun h => absurd h (by decide)⟩
theorem sf_102 : SF 12 74 12 0 2 qX12_isTied := ⟨fw5 wd_893 wd_895 wd_22 wd_65 wd_896, ⟨by decide +kernel, by decide +kernel⟩, by decide +kernel, rfl, plainFor_of_name (by decide +kernel), by decide, by decide +kernel, fun _ => ⟨rfl, by decide, rfl⟩, fun h => absurd h (by decide), fun h => absurd h (by decide), fun h => absurd h (by decide)⟩
theorem sf_103 : SF 12 79 12 0 5 qX12_addBridge := ⟨fw5 wd_867 wd_869 wd_18 wd_65 wd_870, ⟨by decide +kernel, by decide +kernel⟩, by decide +kernel, rfl, plainFor_of_name (by decide +kernel), by decide, by decide +kernel, fun _ => ⟨rfl, by decide, rfl⟩, fun h => absurd h (by decide), fun h => absurd h (by decide), fun h => absurd h (by decide)⟩
theorem sf_104 : SF 12 83 12 0 4 qX12_addChain := ⟨fw5 wd_884 wd_886 wd_20 wd_65 wd_887, ⟨by decide +kernel, by decide +kernel⟩, by decide +kernel, rfl, plainFor_of_name (by decide +kernel), by decide, by decide +kernel, fun _ => ⟨rfl, by decide, rfl⟩, fun h => absurd h (by decide), fun h => absurd h (by decide), fun h => absurd h (by decide)⟩
theorem sf_105 : SF 12 87 12 0 3 qX12_setLoad := ⟨fw5 wd_901 wd_903 wd_23 wd_65 wd_904, ⟨by decide +kernel, by decide +kernel⟩, by decide +kernel, rfl, plainFor_of_name (by decide +kernel), by decide, by decide +kernel, fun _ => ⟨rfl, by decide, rfl⟩, fun h => absurd h (by decide), fun h => absurd h (by decide), fun h => absurd h (by decide)⟩
theorem sf_106 : SF 12 91 12 0 3 qX12_addOne := ⟨fw5 wd_910 wd_912 wd_24 wd_65 wd_913, ⟨by decide +kernel, by decide +kernel⟩, by decide +kernel, rfl, plainFor_of_name (by decide +kernel), by decide, by decide +kernel, fun _ => ⟨rfl, by decide, rfl⟩, fun h => absurd h (by decide), fun h => absurd h (by decide), fun h => absurd h (by decide)⟩
theorem sf_107 : SF 12 98 12 0 3 qX12_tieMore := ⟨fw5 wd_926 wd_928 wd_27 wd_65 wd_929, ⟨by decide +kernel, by decide +kernel⟩, by decide +kernel, rfl, plainFor_of_name (by decide +kernel), by decide, by decide +kernel, fun _ => ⟨rfl, by decide, rfl⟩, fun h => absurd h (by decide), fun h => absurd h (by decide), fun h => absurd h (by decide)⟩
theorem sf_108 : SF 12 105 99 2 2 qX12_has := ⟨fw4 wd_934 wd_935 wd_65 wd_936, ⟨by decide +kernel, by decide +kernel⟩, by decide +kernel, rfl, plainFor_of_name (by decide +kernel), by decide, by decide +kernel, fun h => absurd h (by decide), fun h => absurd h (by decide), fun h => absurd h (by decide), fun h => absurd h (by decide)⟩
theorem sf_109 : SF 12 111 12 0 1 qX12_loadOf := ⟨fw5 wd_937 wd_939 wd_29 wd_65 wd_940, ⟨by decide +kernel, by decide +kernel⟩, by decide +kernel, rfl, plainFor_of_name (by decide +kernel), by decide, by decide +kernel, fun _ => ⟨rfl, by decide, rfl⟩, fun h => absurd h (by decide), fun h => absurd h (by decide), fun h => absurd h (by decide)⟩
theorem sf_110 : SF 12 114 12 0 2 qX12_tip := ⟨fw5 wd_1021 wd_1023 wd_40 wd_65 wd_1024, ⟨by decide +kernel, by decide +kernel⟩, by decide +kernel, rfl, plainFor_of_name (by decide +kernel), by decide, by decide +kernel, fun _ => ⟨rfl, by decide, rfl⟩, fun h => absurd h (by decide), fun h => absurd h (by decide), fun h => absurd h (by decide)⟩
theorem sf_111 : SF 12 118 12 0 2 qX12_isOf := ⟨fw5 wd_1013 wd_1015 wd_38 wd_65 wd_1016, ⟨by decide +kernel, by decide +kernel⟩, by decide +kernel, rfl, plainFor_of_name (by decide +kernel), by decide, by decide +kernel, fun _ => ⟨rfl, by decide, rfl⟩, fun h => absurd h (by decide), fun h => absurd h (by decide), fun h => absurd h (by decide)⟩
theorem sf_112 : SF 12 121 12 0 0 qX12_bad := ⟨fw5 wd_918 wd_920 wd_25 wd_65 wd_921, ⟨by decide +kernel, by decide +kernel⟩, by decide +kernel, rfl, plainFor_of_name (by decide +kernel), by decide, by decide +kernel, fun _ => ⟨rfl, by decide, rfl⟩, fun h => absurd h (by decide), fun h => absurd h (by decide), fun h => absurd h (by decide)⟩
theorem sf_113 : SF 12 125 12 0 0 qX12_layNow := ⟨fw5 wd_922 wd_924 wd_26 wd_65 wd_925, ⟨by decide +kernel, by decide +kernel⟩, by decide +kernel, rfl, plainFor_of_name (by decide +kernel), by decide, by decide +kernel, fun _ => ⟨rfl, by decide, rfl⟩, fun h => absurd h (by decide), fun h => absurd h (by decide), fun h => absurd h (by decide)⟩
theorem sf_114 : SF 12 128 12 0 0 qX12_asNow := ⟨fw5 wd_930 wd_932 wd_28 wd_65 wd_933, ⟨by decide +kernel, by decide +kernel⟩, by decide +kernel, rfl, plainFor_of_name (by decide +kernel), by decide, by decide +kernel, fun _ => ⟨rfl, by decide, rfl⟩, fun h => absurd h (by decide), fun h => absurd h (by decide), fun h => absurd h (by decide)⟩
theorem sf_115 : SF 12 131 12 0 1 qX12_isOne := ⟨fw5 wd_945 wd_947 wd_30 wd_65 wd_948, ⟨by decide +kernel, by decide +kernel⟩, by decide +kernel, rfl, plainFor_of_name (by decide +kernel), by decide, by decide +kernel, fun _ => ⟨rfl, by decide, rfl⟩, fun h => absurd h (by decide), fun h => absurd h (by decide), fun h => absurd h (by decide)⟩
theorem sf_116 : SF 12 155 12 0 0 qX12_isEnd := ⟨fw5 wd_967 wd_969 wd_31 wd_65 wd_970, ⟨by decide +kernel, by decide +kernel⟩, by decide +kernel, rfl, plainFor_of_name (by decide +kernel), by decide, by decide +kernel, fun _ => ⟨rfl, by decide, rfl⟩, fun h => absurd h (by decide), fun h => absurd h (by decide), fun h => absurd h (by decide)⟩
theorem sf_117 : SF 12 174 99 2 1 qX12_wordOf := ⟨fw4 wd_979 wd_980 wd_65 wd_981, ⟨by decide +kernel, by decide +kernel⟩, by decide +kernel, rfl, plainFor_of_name (by decide +kernel), by decide, by decide +kernel, fun h => absurd h (by decide), fun h => absurd h (by decide), fun h => absurd h (by decide), fun h => absurd h (by decide)⟩
theorem sf_118 : SF 12 181 12 0 0 qX12_takeNumber := ⟨fw5 wd_987 wd_989 wd_33 wd_65 wd_990, ⟨by decide +kernel, by decide +kernel⟩, by decide +kernel, rfl, plainFor_of_name (by decide +kernel), by decide, by decide +kernel, fun _ => ⟨rfl, by decide, rfl⟩, fun h => absurd h (by decide), fun h => absurd h (by decide), fun h => absurd h (by decide)⟩
theorem sf_119 : SF 12 184 12 0 0 qX12_takeItem := ⟨fw5 wd_971 wd_973 wd_32 wd_65 wd_974, ⟨by decide +kernel, by decide +kernel⟩, by decide +kernel, rfl, plainFor_of_name (by decide +kernel), by decide, by decide +kernel, fun _ => ⟨rfl, by decide, rfl⟩, fun h => absurd h (by decide), fun h => absurd h (by decide), fun h => absurd h (by decide)⟩
theorem sf_120 : SF 12 187 12 0 1 qX12_tellItem := ⟨fw5 wd_993 wd_995 wd_34 wd_65 wd_996, ⟨by decide +kernel, by decide +kernel⟩, by decide +kernel, rfl, plainFor_of_name (by decide +kernel), by decide, by decide +kernel, fun _ => ⟨rfl, by decide, rfl⟩, fun h => absurd h (by decide), fun h => absurd h (by decide), fun h => absurd h (by decide)⟩
theorem sf_121 : SF 12 190 12 0 2 qX12_copy := ⟨fw5 wd_997 wd_999 wd_35 wd_65 wd_1000, ⟨by decide +kernel, by decide +kernel⟩, by decide +kernel, rfl, plainFor_of_name (by decide +kernel), by decide, by decide +kernel, fun _ => ⟨rfl, by decide, rfl⟩, fun h => absurd h (by decide), fun h => absurd h (by decide), fun h => absurd h (by decide)⟩
theorem sf_122 : SF 12 193 12 0 1 qX12_isPlace := ⟨fw5 wd_1005 wd_1007 wd_36 wd_65 wd_1008, ⟨by decide +kernel, by decide +kernel⟩, by decide +kernel, rfl, plainFor_of_name (by decide +kernel), by decide, by decide +kernel, fun _ => ⟨rfl, by decide, rfl⟩, fun h => absurd h (by decide), fun h => absurd h (by decide), fun h => absurd h (by decide)⟩
theorem sf_123 : SF 12 196 12 0 2 qX12_mayStep := ⟨fw5 wd_1009 wd_1011 wd_37 wd_65 wd_1012, ⟨by decide +kernel, by decide +kernel⟩, by decide +kernel, rfl, plainFor_of_name (by decide +kernel), by decide, by decide +kernel, fun _ => ⟨rfl, by decide, rfl⟩, fun h => absurd h (by decide), fun h => absurd h (by decide), fun h => absurd h (by decide)⟩
theorem sf_124 : SF 12 199 12 0 0 qX12_tipAll := ⟨fw5 wd_1017 wd_1019 wd_39 wd_65 wd_1020, ⟨by decide +kernel, by decide +kernel⟩, by decide +kernel, rfl, plainFor_of_name (by decide +kernel), by decide, by decide +kernel, fun _ => ⟨rfl, by decide, rfl⟩, fun h => absurd h (by decide), fun h => absurd h (by decide), fun h => absurd h (by decide)⟩
theorem sf_125 : SF 12 202 12 0 0 qX12_codeNow := ⟨fw5 wd_1048 wd_1050 wd_44 wd_65 wd_1051, ⟨by decide +kernel, by decide +kernel⟩, by decide +kernel, rfl, plainFor_of_name (by decide +kernel), by decide, by decide +kernel, fun _ => ⟨rfl, by decide, rfl⟩, fun h => absurd h (by decide), fun h => absurd h (by decide), fun h => absurd h (by decide)⟩
theorem sf_126 : SF 12 208 12 0 1 qX12_decode := ⟨fw5 wd_1052 wd_1054 wd_45 wd_65 wd_1055, ⟨by decide +kernel, by decide +kernel⟩, by decide +kernel, rfl, plainFor_of_name (by decide +kernel), by decide, by decide +kernel, fun _ => ⟨rfl, by decide, rfl⟩, fun h => absurd h (by decide), fun h => absurd h (by decide), fun h => absurd h (by decide)⟩
theorem sf_127 : SF 12 212 12 0 0 qX12_goAll := ⟨fw5 wd_1044 wd_1046 wd_43 wd_65 wd_1047, ⟨by decide +kernel, by decide +kernel⟩, by decide +kernel, rfl, plainFor_of_name (by decide +kernel), by decide, by decide +kernel, fun _ => ⟨rfl, by decide, rfl⟩, fun h => absurd h (by decide), fun h => absurd h (by decide), fun h => absurd h (by decide)⟩
theorem sf_128 : SF 12 215 12 0 2 qX12_findWay := ⟨fw5 wd_1040 wd_1042 wd_42 wd_65 wd_1043, ⟨by decide +kernel, by decide +kernel⟩, by decide +kernel, rfl, plainFor_of_name (by decide +kernel), by decide, by decide +kernel, fun _ => ⟨rfl, by decide, rfl⟩, fun h => absurd h (by decide), fun h => absurd h (by decide), fun h => absurd h (by decide)⟩
theorem sf_129 : SF 12 220 12 0 1 qX12_stepsTo := ⟨fw5 wd_1056 wd_1058 wd_46 wd_65 wd_1059, ⟨by decide +kernel, by decide +kernel⟩, by decide +kernel, rfl, plainFor_of_name (by decide +kernel), by decide, by decide +kernel, fun _ => ⟨rfl, by decide, rfl⟩, fun h => absurd h (by decide), fun h => absurd h (by decide), fun h => absurd h (by decide)⟩
theorem sf_130 : SF 12 223 12 0 1 qX12_areSome := ⟨fw5 wd_1033 wd_1035 wd_41 wd_65 wd_1036, ⟨by decide +kernel, by decide +kernel⟩, by decide +kernel, rfl, plainFor_of_name (by decide +kernel), by decide, by decide +kernel, fun _ => ⟨rfl, by decide, rfl⟩, fun h => absurd h (by decide), fun h => absurd h (by decide), fun h => absurd h (by decide)⟩
theorem sf_131 : SF 12 226 99 2 1 qX12_isRoom := ⟨fw4 wd_1037 wd_1038 wd_65 wd_1039, ⟨by decide +kernel, by decide +kernel⟩, by decide +kernel, rfl, plainFor_of_name (by decide +kernel), by decide, by decide +kernel, fun h => absurd h (by decide), fun h => absurd h (by decide), fun h => absurd h (by decide), fun h => absurd h (by decide)⟩
theorem sf_132 : SF 12 229 12 0 0 qX12_lyings := ⟨fw5 wd_1069 wd_1071 wd_48 wd_65 wd_1072, ⟨by decide +kernel, by decide +kernel⟩, by decide +kernel, rfl, plainFor_of_name (by decide +kernel), by decide, by decide +kernel, fun _ => ⟨rfl, by decide, rfl⟩, fun h => absurd h (by decide), fun h => absurd h (by decide), fun h => absurd h (by decide)⟩
theorem sf_133 : SF 12 234 12 0 0 qX12_allLyings := ⟨fw5 wd_1065 wd_1067 wd_47 wd_65 wd_1068, ⟨by decide +kernel, by decide +kernel⟩, by decide +kernel, rfl, plainFor_of_name (by decide +kernel), by decide, by decide +kernel, fun _ => ⟨rfl, by decide, rfl⟩, fun h => absurd h (by decide), fun h => absurd h (by decide), fun h => absurd h (by decide)⟩
theorem sf_134 : SF 12 237 99 2 1 qX12_many := ⟨fw4 wd_1073 wd_1074 wd_65 wd_1075, ⟨by decide +kernel, by decide +kernel⟩, by decide +kernel, rfl, plainFor_of_name (by decide +kernel), by decide, by decide +kernel, fun h => absurd h (by decide), fun h => absurd h (by decide), fun h => absurd h (by decide), fun h => absurd h (by decide)⟩
theorem sf_135 : SF 12 240 12 0 2 qX12_stepsOf := ⟨fw5 wd_1092 wd_1094 wd_49 wd_65 wd_1095, ⟨by decide +kernel, by decide +kernel⟩, by decide +kernel, rfl, plainFor_of_name (by decide +kernel), by decide, by decide +kernel, fun _ => ⟨rfl, by decide, rfl⟩, fun h => absurd h (by decide), fun h => absurd h (by decide), fun h => absurd h (by decide)⟩
theorem sf_136 : SF 12 243 99 2 1 qX12_ones := ⟨fw4 wd_1109 wd_1110 wd_65 wd_1111, ⟨by decide +kernel, by decide +kernel⟩, by decide +kernel, rfl, plainFor_of_name (by decide +kernel), by decide, by decide +kernel, fun h => absurd h (by decide), fun h => absurd h (by decide), fun h => absurd h (by decide), fun h => absurd h (by decide)⟩
theorem sf_137 : SF 12 249 12 0 1 qX12_countOf := ⟨fw5 wd_1134 wd_1136 wd_50 wd_65 wd_1137, ⟨by decide +kernel, by decide +kernel⟩, by decide +kernel, rfl, plainFor_of_name (by decide +kernel), by decide, by decide +kernel, fun _ => ⟨rfl, by decide, rfl⟩, fun h => absurd h (by decide), fun h => absurd h (by decide), fun h => absurd h (by decide)⟩
theorem sf_138 : SF 12 260 12 0 1 qX12_mix := ⟨fw5 wd_1143 wd_1145 wd_51 wd_65 wd_1146, ⟨by decide +kernel, by decide +kernel⟩, by decide +kernel, rfl, plainFor_of_name (by decide +kernel), by decide, by decide +kernel, fun _ => ⟨rfl, by decide, rfl⟩, fun h => absurd h (by decide), fun h => absurd h (by decide), fun h => absurd h (by decide)⟩
theorem sf_139 : SF 30 13 11 0 4 qX11_bridge := ⟨fw5 wd_301 wd_302 wd_303 wd_53 wd_304, ⟨by decide +kernel, by decide +kernel⟩, by decide +kernel, rfl, plainFor_of_name (by decide +kernel), by decide, by decide +kernel, fun _ => ⟨rfl, by decide, rfl⟩, fun h => absurd h (by decide), fun h => absurd h (by decide), fun h => absurd h (by decide)⟩
theorem sf_140 : SF 30 17 12 0 4 qX12_bridge := ⟨fw5 wd_863 wd_864 wd_865 wd_65 wd_866, ⟨by decide +kernel, by decide +kernel⟩, by decide +kernel, rfl, plainFor_of_name (by decide +kernel), by decide, by decide +kernel, fun _ => ⟨rfl, by decide, rfl⟩, fun h => absurd h (by decide), fun h => absurd h (by decide), fun h => absurd h (by decide)⟩
theorem sf_141 : SF 30 18 11 0 3 qX11_chain := ⟨fw5 wd_320 wd_321 wd_322 wd_53 wd_323, ⟨by decide +kernel, by decide +kernel⟩, by decide +kernel, rfl, plainFor_of_name (by decide +kernel), by decide, by decide +kernel, fun _ => ⟨rfl, by decide, rfl⟩, fun h => absurd h (by decide), fun h => absurd h (by decide), fun h => absurd h (by decide)⟩
theorem sf_142 : SF 30 22 12 0 3 qX12_chain := ⟨fw5 wd_880 wd_881 wd_882 wd_65 wd_883, ⟨by decide +kernel, by decide +kernel⟩, by decide +kernel, rfl, plainFor_of_name (by decide +kernel), by decide, by decide +kernel, fun _ => ⟨rfl, by decide, rfl⟩, fun h => absurd h (by decide), fun h => absurd h (by decide), fun h => absurd h (by decide)⟩
theorem sf_143 : SF 30 23 11 0 2 qX11_load := ⟨fw5 wd_336 wd_337 wd_338 wd_53 wd_339, ⟨by decide +kernel, by decide +kernel⟩, by decide +kernel, rfl, plainFor_of_name (by decide +kernel), by decide, by decide +kernel, fun _ => ⟨rfl, by decide, rfl⟩, fun h => absurd h (by decide), fun h => absurd h (by decide), fun h => absurd h (by decide)⟩
theorem sf_144 : SF 30 27 12 0 2 qX12_load := ⟨fw5 wd_897 wd_898 wd_899 wd_65 wd_900, ⟨by decide +kernel, by decide +kernel⟩, by decide +kernel, rfl, plainFor_of_name (by decide +kernel), by decide, by decide +kernel, fun _ => ⟨rfl, by decide, rfl⟩, fun h => absurd h (by decide), fun h => absurd h (by decide), fun h => absurd h (by decide)⟩
theorem sf_145 : SF 30 28 11 0 2 qX11_one := ⟨fw5 wd_344 wd_345 wd_346 wd_53 wd_347, ⟨by decide +kernel, by decide +kernel⟩, by decide +kernel, rfl, plainFor_of_name (by decide +kernel), by decide, by decide +kernel, fun _ => ⟨rfl, by decide, rfl⟩, fun h => absurd h (by decide), fun h => absurd h (by decide), fun h => absurd h (by decide)⟩
theorem sf_146 : SF 30 31 12 0 2 qX12_one := ⟨fw5 wd_906 wd_907 wd_908 wd_65 wd_909, ⟨by decide +kernel, by decide +kernel⟩, by decide +kernel, rfl, plainFor_of_name (by decide +kernel), by decide, by decide +kernel, fun _ => ⟨rfl, by decide, rfl⟩, fun h => absurd h (by decide), fun h => absurd h (by decide), fun h => absurd h (by decide)⟩
theorem sf_147 : SF 30 32 11 0 1 qX11_weight := ⟨fw5 wd_352 wd_353 wd_354 wd_53 wd_355, ⟨by decide +kernel, by decide +kernel⟩, by decide +kernel, rfl, plainFor_of_name (by decide +kernel), by decide, by decide +kernel, fun _ => ⟨rfl, by decide, rfl⟩, fun h => absurd h (by decide), fun h => absurd h (by decide), fun h => absurd h (by decide)⟩
theorem sf_148 : SF 30 36 12 0 1 qX12_weight := ⟨fw5 wd_914 wd_915 wd_916 wd_65 wd_917, ⟨by decide +kernel, by decide +kernel⟩, by decide +kernel, rfl, plainFor_of_name (by decide +kernel), by decide, by decide +kernel, fun _ => ⟨rfl, by decide, rfl⟩, fun h => absurd h (by decide), fun h => absurd h (by decide), fun h => absurd h (by decide)⟩
theorem sf_149 : SF 30 37 11 0 1 qX11_where := ⟨fw5 wd_378 wd_379 wd_380 wd_53 wd_381, ⟨by decide +kernel, by decide +kernel⟩, by decide +kernel, rfl, plainFor_of_name (by decide +kernel), by decide, by decide +kernel, fun _ => ⟨rfl, by decide, rfl⟩, fun h => absurd h (by decide), fun h => absurd h (by decide), fun h => absurd h (by decide)⟩
theorem sf_150 : SF 30 40 12 0 1 qX12_where := ⟨fw5 wd_941 wd_942 wd_943 wd_65 wd_944, ⟨by decide +kernel, by decide +kernel⟩, by decide +kernel, rfl, plainFor_of_name (by decide +kernel), by decide, by decide +kernel, fun _ => ⟨rfl, by decide, rfl⟩, fun h => absurd h (by decide), fun h => absurd h (by decide), fun h => absurd h (by decide)⟩
theorem sf_151 : SF 30 41 11 0 0 qX11_lying := ⟨fw5 wd_386 wd_387 wd_388 wd_53 wd_389, ⟨by decide +kernel, by decide +kernel⟩, by decide +kernel, rfl, plainFor_of_name (by decide +kernel), by decide, by decide +kernel, fun _ => ⟨rfl, by decide, rfl⟩, fun h => absurd h (by decide), fun h => absurd h (by decide), fun h => absurd h (by decide)⟩
theorem sf_152 : SF 30 45 12 0 0 qX12_lying := ⟨fw5 wd_949 wd_950 wd_951 wd_65 wd_952, ⟨by decide +kernel, by decide +kernel⟩, by decide +kernel, rfl, plainFor_of_name (by decide +kernel), by decide, by decide +kernel, fun _ => ⟨rfl, by decide, rfl⟩, fun h => absurd h (by decide), fun h => absurd h (by decide), fun h => absurd h (by decide)⟩
theorem sf_153 : SF 30 48 11 0 2 qX11_type := ⟨fw5 wd_390 wd_391 wd_392 wd_53 wd_393, ⟨by decide +kernel, by decide +kernel⟩, by decide +kernel, rfl, plainFor_of_name (by decide +kernel), by decide, by decide +kernel, fun _ => ⟨rfl, by decide, rfl⟩, fun h => absurd h (by decide), fun h => absurd h (by decide), fun h => absurd h (by decide)⟩
theorem sf_154 : SF 30 52 12 0 2 qX12_type := ⟨fw5 wd_953 wd_954 wd_955 wd_65 wd_956, ⟨by decide +kernel, by decide +kernel⟩, by decide +kernel, rfl, plainFor_of_name (by decide +kernel), by decide, by decide +kernel, fun _ => ⟨rfl, by decide, rfl⟩, fun h => absurd h (by decide), fun h => absurd h (by decide), fun h => absurd h (by decide)⟩
theorem sf_155 : SF 30 53 11 0 0 qX11_clear := ⟨fw5 wd_399 wd_400 wd_401 wd_53 wd_402, ⟨by decide +kernel, by decide +kernel⟩, by decide +kernel, rfl, plainFor_of_name (by decide +kernel), by decide, by decide +kernel, fun _ => ⟨rfl, by decide, rfl⟩, fun h => absurd h (by decide), fun h => absurd h (by decide), fun h => absurd h (by decide)⟩
theorem sf_156 : SF 30 56 12 0 0 qX12_clear := ⟨fw5 wd_959 wd_960 wd_961 wd_65 wd_962, ⟨by decide +kernel, by decide +kernel⟩, by decide +kernel, rfl, plainFor_of_name (by decide +kernel), by decide, by decide +kernel, fun _ => ⟨rfl, by decide, rfl⟩, fun h => absurd h (by decide), fun h => absurd h (by decide), fun h => absurd h (by decide)⟩
theorem sf_157 : SF 30 57 11 0 0 qX11_read := ⟨fw5 wd_407 wd_408 wd_409 wd_53 wd_410, ⟨by decide +kernel, by decide +kernel⟩, by decide +kernel, rfl, plainFor_of_name (by decide +kernel), by decide, by decide +kernel, fun _ => ⟨rfl, by decide, rfl⟩, fun h => absurd h (by decide), fun h => absurd h (by decide), fun h => absurd h (by decide)⟩
theorem sf_158 : SF 30 60 12 0 0 qX12_read := ⟨fw5 wd_963 wd_964 wd_965 wd_65 wd_966, ⟨by decide +kernel, by decide +kernel⟩, by decide +kernel, rfl, plainFor_of_name (by decide +kernel), by decide, by decide +kernel, fun _ => ⟨rfl, by decide, rfl⟩, fun h => absurd h (by decide), fun h => absurd h (by decide), fun h => absurd h (by decide)⟩
theorem sf_159 : SF 30 61 11 0 2 qX11_step := ⟨fw5 wd_530 wd_531 wd_532 wd_53 wd_533, ⟨by decide +kernel, by decide +kernel⟩, by decide +kernel, rfl, plainFor_of_name (by decide +kernel), by decide, by decide +kernel, fun _ => ⟨rfl, by decide, rfl⟩, fun h => absurd h (by decide), fun h => absurd h (by decide), fun h => absurd h (by decide)⟩
theorem sf_160 : SF 30 64 12 0 2 qX12_step := ⟨fw5 wd_1001 wd_1002 wd_1003 wd_65 wd_1004, ⟨by decide +kernel, by decide +kernel⟩, by decide +kernel, rfl, plainFor_of_name (by decide +kernel), by decide, by decide +kernel, fun _ => ⟨rfl, by decide, rfl⟩, fun h => absurd h (by decide), fun h => absurd h (by decide), fun h => absurd h (by decide)⟩
theorem sf_161 : SF 30 65 11 0 0 qX11_undo := ⟨fw5 wd_597 wd_598 wd_599 wd_53 wd_600, ⟨by decide +kernel, by decide +kernel⟩, by decide +kernel, rfl, plainFor_of_name (by decide +kernel), by decide, by decide +kernel, fun _ => ⟨rfl, by decide, rfl⟩, fun h => absurd h (by decide), fun h => absurd h (by decide), fun h => absurd h (by decide)⟩
theorem sf_162 : SF 30 68 12 0 0 qX12_undo := ⟨fw5 wd_1025 wd_1026 wd_1027 wd_65 wd_1028, ⟨by decide +kernel, by decide +kernel⟩, by decide +kernel, rfl, plainFor_of_name (by decide +kernel), by decide, by decide +kernel, fun _ => ⟨rfl, by decide, rfl⟩, fun h => absurd h (by decide), fun h => absurd h (by decide), fun h => absurd h (by decide)⟩
theorem sf_163 : SF 30 69 11 0 3 qX11_way := ⟨fw5 wd_609 wd_610 wd_611 wd_53 wd_612, ⟨by decide +kernel, by decide +kernel⟩, by decide +kernel, rfl, plainFor_of_name (by decide +kernel), by decide, by decide +kernel, fun _ => ⟨rfl, by decide, rfl⟩, fun h => absurd h (by decide), fun h => absurd h (by decide), fun h => absurd h (by decide)⟩
theorem sf_164 : SF 30 72 12 0 3 qX12_way := ⟨fw5 wd_1029 wd_1030 wd_1031 wd_65 wd_1032, ⟨by decide +kernel, by decide +kernel⟩, by decide +kernel, rfl, plainFor_of_name (by decide +kernel), by decide, by decide +kernel, fun _ => ⟨rfl, by decide, rfl⟩, fun h => absurd h (by decide), fun h => absurd h (by decide), fun h => absurd h (by decide)⟩
theorem sf_165 : SF 30 73 11 0 1 qX11_reach := ⟨fw5 wd_664 wd_665 wd_666 wd_53 wd_667, ⟨by decide +kernel, by decide +kernel⟩, by decide +kernel, rfl, plainFor_of_name (by decide +kernel), by decide, by decide +kernel, fun _ => ⟨rfl, by decide, rfl⟩, fun h => absurd h (by decide), fun h => absurd h (by decide), fun h => absurd h (by decide)⟩
theorem sf_166 : SF 30 76 12 0 1 qX12_reach := ⟨fw5 wd_1060 wd_1061 wd_1062 wd_65 wd_1063, ⟨by decide +kernel, by decide +kernel⟩, by decide +kernel, rfl, plainFor_of_name (by decide +kernel), by decide, by decide +kernel, fun _ => ⟨rfl, by decide, rfl⟩, fun h => absurd h (by decide), fun h => absurd h (by decide), fun h => absurd h (by decide)⟩
theorem sf_167 : SF 30 77 11 0 1 qX11_can := ⟨fw5 wd_691 wd_692 wd_693 wd_53 wd_694, ⟨by decide +kernel, by decide +kernel⟩, by decide +kernel, rfl, plainFor_of_name (by decide +kernel), by decide, by decide +kernel, fun _ => ⟨rfl, by decide, rfl⟩, fun h => absurd h (by decide), fun h => absurd h (by decide), fun h => absurd h (by decide)⟩
theorem sf_168 : SF 30 80 12 0 1 qX12_can := ⟨fw5 wd_1076 wd_1077 wd_1078 wd_65 wd_1079, ⟨by decide +kernel, by decide +kernel⟩, by decide +kernel, rfl, plainFor_of_name (by decide +kernel), by decide, by decide +kernel, fun _ => ⟨rfl, by decide, rfl⟩, fun h => absurd h (by decide), fun h => absurd h (by decide), fun h => absurd h (by decide)⟩
theorem sf_169 : SF 30 81 11 0 1 qX11_closed := ⟨fw5 wd_700 wd_701 wd_702 wd_53 wd_703, ⟨by decide +kernel, by decide +kernel⟩, by decide +kernel, rfl, plainFor_of_name (by decide +kernel), by decide, by decide +kernel, fun _ => ⟨rfl, by decide, rfl⟩, fun h => absurd h (by decide), fun h => absurd h (by decide), fun h => absurd h (by decide)⟩
theorem sf_170 : SF 30 84 12 0 1 qX12_closed := ⟨fw5 wd_1080 wd_1081 wd_1082 wd_65 wd_1083, ⟨by decide +kernel, by decide +kernel⟩, by decide +kernel, rfl, plainFor_of_name (by decide +kernel), by decide, by decide +kernel, fun _ => ⟨rfl, by decide, rfl⟩, fun h => absurd h (by decide), fun h => absurd h (by decide), fun h => absurd h (by decide)⟩
theorem sf_171 : SF 30 85 11 0 1 qX11_child := ⟨fw5 wd_708 wd_709 wd_710 wd_53 wd_711, ⟨by decide +kernel, by decide +kernel⟩, by decide +kernel, rfl, plainFor_of_name (by decide +kernel), by decide, by decide +kernel, fun _ => ⟨rfl, by decide, rfl⟩, fun h => absurd h (by decide), fun h => absurd h (by decide), fun h => absurd h (by decide)⟩
theorem sf_172 : SF 30 88 12 0 1 qX12_child := ⟨fw5 wd_1084 wd_1085 wd_1086 wd_65 wd_1087, ⟨by decide +kernel, by decide +kernel⟩, by decide +kernel, rfl, plainFor_of_name (by decide +kernel), by decide, by decide +kernel, fun _ => ⟨rfl, by decide, rfl⟩, fun h => absurd h (by decide), fun h => absurd h (by decide), fun h => absurd h (by decide)⟩
theorem sf_173 : SF 30 89 11 0 2 qX11_cut := ⟨fw5 wd_716 wd_717 wd_718 wd_53 wd_719, ⟨by decide +kernel, by decide +kernel⟩, by decide +kernel, rfl, plainFor_of_name (by decide +kernel), by decide, by decide +kernel, fun _ => ⟨rfl, by decide, rfl⟩, fun h => absurd h (by decide), fun h => absurd h (by decide), fun h => absurd h (by decide)⟩
theorem sf_174 : SF 30 92 12 0 2 qX12_cut := ⟨fw5 wd_1088 wd_1089 wd_1090 wd_65 wd_1091, ⟨by decide +kernel, by decide +kernel⟩, by decide +kernel, rfl, plainFor_of_name (by decide +kernel), by decide, by decide +kernel, fun _ => ⟨rfl, by decide, rfl⟩, fun h => absurd h (by decide), fun h => absurd h (by decide), fun h => absurd h (by decide)⟩
theorem sf_175 : SF 30 93 11 0 2 qX11_tie := ⟨fw5 wd_724 wd_725 wd_726 wd_53 wd_727, ⟨by decide +kernel, by decide +kernel⟩, by decide +kernel, rfl, plainFor_of_name (by decide +kernel), by decide, by decide +kernel, fun _ => ⟨rfl, by decide, rfl⟩, fun h => absurd h (by decide), fun h => absurd h (by decide), fun h => absurd h (by decide)⟩
theorem sf_176 : SF 30 96 12 0 2 qX12_tie := ⟨fw5 wd_1097 wd_1098 wd_1099 wd_65 wd_1100, ⟨by decide +kernel, by decide +kernel⟩, by decide +kernel, rfl, plainFor_of_name (by decide +kernel), by decide, by decide +kernel, fun _ => ⟨rfl, by decide, rfl⟩, fun h => absurd h (by decide), fun h => absurd h (by decide), fun h => absurd h (by decide)⟩
theorem sf_177 : SF 30 97 11 0 3 qX11_stone := ⟨fw5 wd_728 wd_729 wd_730 wd_53 wd_731, ⟨by decide +kernel, by decide +kernel⟩, by decide +kernel, rfl, plainFor_of_name (by decide +kernel), by decide, by decide +kernel, fun _ => ⟨rfl, by decide, rfl⟩, fun h => absurd h (by decide), fun h => absurd h (by decide), fun h => absurd h (by decide)⟩
theorem sf_178 : SF 30 100 12 0 3 qX12_stone := ⟨fw5 wd_1101 wd_1102 wd_1103 wd_65 wd_1104, ⟨by decide +kernel, by decide +kernel⟩, by decide +kernel, rfl, plainFor_of_name (by decide +kernel), by decide, by decide +kernel, fun _ => ⟨rfl, by decide, rfl⟩, fun h => absurd h (by decide), fun h => absurd h (by decide), fun h => absurd h (by decide)⟩
theorem sf_179 : SF 30 101 11 0 3 qX11_keep := ⟨fw5 wd_739 wd_740 wd_741 wd_53 wd_742, ⟨by decide +kernel, by decide +kernel⟩, by decide +kernel, rfl, plainFor_of_name (by decide +kernel), by decide, by decide +kernel, fun _ => ⟨rfl, by decide, rfl⟩, fun h => absurd h (by decide), fun h => absurd h (by decide), fun h => absurd h (by decide)⟩
theorem sf_180 : SF 30 104 12 0 3 qX12_keep := ⟨fw5 wd_1105 wd_1106 wd_1107 wd_65 wd_1108, ⟨by decide +kernel, by decide +kernel⟩, by decide +kernel, rfl, plainFor_of_name (by decide +kernel), by decide, by decide +kernel, fun _ => ⟨rfl, by decide, rfl⟩, fun h => absurd h (by decide), fun h => absurd h (by decide), fun h => absurd h (by decide)⟩
theorem sf_181 : SF 30 105 11 0 4 qX11_wet := ⟨fw5 wd_747 wd_748 wd_749 wd_53 wd_750, ⟨by decide +kernel, by decide +kernel⟩, by decide +kernel, rfl, plainFor_of_name (by decide +kernel), by decide, by decide +kernel, fun _ => ⟨rfl, by decide, rfl⟩, fun h => absurd h (by decide), fun h => absurd h (by decide), fun h => absurd h (by decide)⟩
theorem sf_182 : SF 30 109 12 0 4 qX12_wet := ⟨fw5 wd_1112 wd_1113 wd_1114 wd_65 wd_1115, ⟨by decide +kernel, by decide +kernel⟩, by decide +kernel, rfl, plainFor_of_name (by decide +kernel), by decide, by decide +kernel, fun _ => ⟨rfl, by decide, rfl⟩, fun h => absurd h (by decide), fun h => absurd h (by decide), fun h => absurd h (by decide)⟩
theorem sf_183 : SF 30 110 11 0 1 qX11_image := ⟨fw5 wd_754 wd_755 wd_756 wd_53 wd_757, ⟨by decide +kernel, by decide +kernel⟩, by decide +kernel, rfl, plainFor_of_name (by decide +kernel), by decide, by decide +kernel, fun _ => ⟨rfl, by decide, rfl⟩, fun h => absurd h (by decide), fun h => absurd h (by decide), fun h => absurd h (by decide)⟩
theorem sf_184 : SF 30 113 12 0 1 qX12_image := ⟨fw5 wd_1117 wd_1118 wd_1119 wd_65 wd_1120, ⟨by decide +kernel, by decide +kernel⟩, by decide +kernel, rfl, plainFor_of_name (by decide +kernel), by decide, by decide +kernel, fun _ => ⟨rfl, by decide, rfl⟩, fun h => absurd h (by decide), fun h => absurd h (by decide), fun h => absurd h (by decide)⟩
theorem sf_185 : SF 30 114 11 0 1 qX11_from := ⟨fw5 wd_761 wd_762 wd_763 wd_53 wd_764, ⟨by decide +kernel, by decide +kernel⟩, by decide +kernel, rfl, plainFor_of_name (by decide +kernel), by decide, by decide +kernel, fun _ => ⟨rfl, by decide, rfl⟩, fun h => absurd h (by decide), fun h => absurd h (by decide), fun h => absurd h (by decide)⟩
theorem sf_186 : SF 30 117 12 0 1 qX12_from := ⟨fw5 wd_1121 wd_1122 wd_1123 wd_65 wd_1124, ⟨by decide +kernel, by decide +kernel⟩, by decide +kernel, rfl, plainFor_of_name (by decide +kernel), by decide, by decide +kernel, fun _ => ⟨rfl, by decide, rfl⟩, fun h => absurd h (by decide), fun h => absurd h (by decide), fun h => absurd h (by decide)⟩
theorem sf_187 : SF 30 118 11 0 1 qX11_status := ⟨fw5 wd_765 wd_766 wd_767 wd_53 wd_768, ⟨by decide +kernel, by decide +kernel⟩, by decide +kernel, rfl, plainFor_of_name (by decide +kernel), by decide, by decide +kernel, fun _ => ⟨rfl, by decide, rfl⟩, fun h => absurd h (by decide), fun h => absurd h (by decide), fun h => absurd h (by decide)⟩
theorem sf_188 : SF 30 121 12 0 1 qX12_status := ⟨fw5 wd_1125 wd_1126 wd_1127 wd_65 wd_1128, ⟨by decide +kernel, by decide +kernel⟩, by decide +kernel, rfl, plainFor_of_name (by decide +kernel), by decide, by decide +kernel, fun _ => ⟨rfl, by decide, rfl⟩, fun h => absurd h (by decide), fun h => absurd h (by decide), fun h => absurd h (by decide)⟩
theorem sf_189 : SF 30 122 11 0 1 qX11_count := ⟨fw5 wd_769 wd_770 wd_771 wd_53 wd_772, ⟨by decide +kernel, by decide +kernel⟩, by decide +kernel, rfl, plainFor_of_name (by decide +kernel), by decide, by decide +kernel, fun _ => ⟨rfl, by decide, rfl⟩, fun h => absurd h (by decide), fun h => absurd h (by decide), fun h => absurd h (by decide)⟩
theorem sf_190 : SF 30 125 12 0 1 qX12_count := ⟨fw5 wd_1130 wd_1131 wd_1132 wd_65 wd_1133, ⟨by decide +kernel, by decide +kernel⟩, by decide +kernel, rfl, plainFor_of_name (by decide +kernel), by decide, by decide +kernel, fun _ => ⟨rfl, by decide, rfl⟩, fun h => absurd h (by decide), fun h => absurd h (by decide), fun h => absurd h (by decide)⟩
theorem sf_191 : SF 30 126 11 0 0 qX11_digest := ⟨fw5 wd_773 wd_774 wd_775 wd_53 wd_776, ⟨by decide +kernel, by decide +kernel⟩, by decide +kernel, rfl, plainFor_of_name (by decide +kernel), by decide, by decide +kernel, fun _ => ⟨rfl, by decide, rfl⟩, fun h => absurd h (by decide), fun h => absurd h (by decide), fun h => absurd h (by decide)⟩
theorem sf_192 : SF 30 130 12 0 0 qX12_digest := ⟨fw5 wd_1138 wd_1139 wd_1140 wd_65 wd_1141, ⟨by decide +kernel, by decide +kernel⟩, by decide +kernel, rfl, plainFor_of_name (by decide +kernel), by decide, by decide +kernel, fun _ => ⟨rfl, by decide, rfl⟩, fun h => absurd h (by decide), fun h => absurd h (by decide), fun h => absurd h (by decide)⟩
theorem sfs_0 : ∀ e ∈ sTb_0, SFe e := (List.forall_mem_cons.mpr ⟨sf_0, (List.forall_mem_cons.mpr ⟨sf_1, (List.forall_mem_cons.mpr ⟨sf_2, (List.forall_mem_cons.mpr ⟨sf_3, (List.forall_mem_cons.mpr ⟨sf_4, (List.forall_mem_cons.mpr ⟨sf_5, (List.forall_mem_cons.mpr ⟨sf_6, (List.forall_mem_cons.mpr ⟨sf_7, (List.forall_mem_cons.mpr ⟨sf_8, (List.forall_mem_cons.mpr ⟨sf_9, (List.forall_mem_cons.mpr ⟨sf_10, (List.forall_mem_cons.mpr ⟨sf_11, (List.forall_mem_cons.mpr ⟨sf_12, (List.forall_mem_cons.mpr ⟨sf_13, (List.forall_mem_cons.mpr ⟨sf_14, (List.forall_mem_cons.mpr ⟨sf_15, (List.forall_mem_cons.mpr ⟨sf_16, (List.forall_mem_cons.mpr ⟨sf_17, (List.forall_mem_cons.mpr ⟨sf_18, (List.forall_mem_cons.mpr ⟨sf_19, (List.forall_mem_cons.mpr ⟨sf_20, (List.forall_mem_cons.mpr ⟨sf_21, (List.forall_mem_cons.mpr ⟨sf_22, (List.forall_mem_cons.mpr ⟨sf_23, (List.forall_mem_cons.mpr ⟨sf_24, (fun _ h => absurd h List.not_mem_nil)⟩)⟩)⟩)⟩)⟩)⟩)⟩)⟩)⟩)⟩)⟩)⟩)⟩)⟩)⟩)⟩)⟩)⟩)⟩)⟩)⟩)⟩)⟩)⟩)⟩)
theorem sfs_1 : ∀ e ∈ sTb_1, SFe e := (List.forall_mem_cons.mpr ⟨sf_25, (List.forall_mem_cons.mpr ⟨sf_26, (List.forall_mem_cons.mpr ⟨sf_27, (List.forall_mem_cons.mpr ⟨sf_28, (List.forall_mem_cons.mpr ⟨sf_29, (List.forall_mem_cons.mpr ⟨sf_30, (List.forall_mem_cons.mpr ⟨sf_31, (List.forall_mem_cons.mpr ⟨sf_32, (List.forall_mem_cons.mpr ⟨sf_33, (List.forall_mem_cons.mpr ⟨sf_34, (List.forall_mem_cons.mpr ⟨sf_35, (List.forall_mem_cons.mpr ⟨sf_36, (List.forall_mem_cons.mpr ⟨sf_37, (List.forall_mem_cons.mpr ⟨sf_38, (List.forall_mem_cons.mpr ⟨sf_39, (List.forall_mem_cons.mpr ⟨sf_40, (List.forall_mem_cons.mpr ⟨sf_41, (List.forall_mem_cons.mpr ⟨sf_42, (List.forall_mem_cons.mpr ⟨sf_43, (List.forall_mem_cons.mpr ⟨sf_44, (List.forall_mem_cons.mpr ⟨sf_45, (List.forall_mem_cons.mpr ⟨sf_46, (List.forall_mem_cons.mpr ⟨sf_47, (List.forall_mem_cons.mpr ⟨sf_48, (List.forall_mem_cons.mpr ⟨sf_49, (fun _ h => absurd h List.not_mem_nil)⟩)⟩)⟩)⟩)⟩)⟩)⟩)⟩)⟩)⟩)⟩)⟩)⟩)⟩)⟩)⟩)⟩)⟩)⟩)⟩)⟩)⟩)⟩)⟩)⟩)
theorem sfs_2 : ∀ e ∈ sTb_2, SFe e := (List.forall_mem_cons.mpr ⟨sf_50, (List.forall_mem_cons.mpr ⟨sf_51, (List.forall_mem_cons.mpr ⟨sf_52, (List.forall_mem_cons.mpr ⟨sf_53, (List.forall_mem_cons.mpr ⟨sf_54, (List.forall_mem_cons.mpr ⟨sf_55, (List.forall_mem_cons.mpr ⟨sf_56, (List.forall_mem_cons.mpr ⟨sf_57, (List.forall_mem_cons.mpr ⟨sf_58, (List.forall_mem_cons.mpr ⟨sf_59, (List.forall_mem_cons.mpr ⟨sf_60, (List.forall_mem_cons.mpr ⟨sf_61, (List.forall_mem_cons.mpr ⟨sf_62, (List.forall_mem_cons.mpr ⟨sf_63, (List.forall_mem_cons.mpr ⟨sf_64, (List.forall_mem_cons.mpr ⟨sf_65, (List.forall_mem_cons.mpr ⟨sf_66, (List.forall_mem_cons.mpr ⟨sf_67, (List.forall_mem_cons.mpr ⟨sf_68, (List.forall_mem_cons.mpr ⟨sf_69, (List.forall_mem_cons.mpr ⟨sf_70, (List.forall_mem_cons.mpr ⟨sf_71, (List.forall_mem_cons.mpr ⟨sf_72, (List.forall_mem_cons.mpr ⟨sf_73, (List.forall_mem_cons.mpr ⟨sf_74, (fun _ h => absurd h List.not_mem_nil)⟩)⟩)⟩)⟩)⟩)⟩)⟩)⟩)⟩)⟩)⟩)⟩)⟩)⟩)⟩)⟩)⟩)⟩)⟩)⟩)⟩)⟩)⟩)⟩)⟩)
theorem sfs_3 : ∀ e ∈ sTb_3, SFe e := (List.forall_mem_cons.mpr ⟨sf_75, (List.forall_mem_cons.mpr ⟨sf_76, (List.forall_mem_cons.mpr ⟨sf_77, (List.forall_mem_cons.mpr ⟨sf_78, (List.forall_mem_cons.mpr ⟨sf_79, (List.forall_mem_cons.mpr ⟨sf_80, (List.forall_mem_cons.mpr ⟨sf_81, (List.forall_mem_cons.mpr ⟨sf_82, (List.forall_mem_cons.mpr ⟨sf_83, (List.forall_mem_cons.mpr ⟨sf_84, (List.forall_mem_cons.mpr ⟨sf_85, (List.forall_mem_cons.mpr ⟨sf_86, (List.forall_mem_cons.mpr ⟨sf_87, (List.forall_mem_cons.mpr ⟨sf_88, (List.forall_mem_cons.mpr ⟨sf_89, (List.forall_mem_cons.mpr ⟨sf_90, (List.forall_mem_cons.mpr ⟨sf_91, (List.forall_mem_cons.mpr ⟨sf_92, (List.forall_mem_cons.mpr ⟨sf_93, (List.forall_mem_cons.mpr ⟨sf_94, (List.forall_mem_cons.mpr ⟨sf_95, (List.forall_mem_cons.mpr ⟨sf_96, (List.forall_mem_cons.mpr ⟨sf_97, (List.forall_mem_cons.mpr ⟨sf_98, (List.forall_mem_cons.mpr ⟨sf_99, (fun _ h => absurd h List.not_mem_nil)⟩)⟩)⟩)⟩)⟩)⟩)⟩)⟩)⟩)⟩)⟩)⟩)⟩)⟩)⟩)⟩)⟩)⟩)⟩)⟩)⟩)⟩)⟩)⟩)⟩)
theorem sfs_4 : ∀ e ∈ sTb_4, SFe e := (List.forall_mem_cons.mpr ⟨sf_100, (List.forall_mem_cons.mpr ⟨sf_101, (List.forall_mem_cons.mpr ⟨sf_102, (List.forall_mem_cons.mpr ⟨sf_103, (List.forall_mem_cons.mpr ⟨sf_104, (List.forall_mem_cons.mpr ⟨sf_105, (List.forall_mem_cons.mpr ⟨sf_106, (List.forall_mem_cons.mpr ⟨sf_107, (List.forall_mem_cons.mpr ⟨sf_108, (List.forall_mem_cons.mpr ⟨sf_109, (List.forall_mem_cons.mpr ⟨sf_110, (List.forall_mem_cons.mpr ⟨sf_111, (List.forall_mem_cons.mpr ⟨sf_112, (List.forall_mem_cons.mpr ⟨sf_113, (List.forall_mem_cons.mpr ⟨sf_114, (List.forall_mem_cons.mpr ⟨sf_115, (List.forall_mem_cons.mpr ⟨sf_116, (List.forall_mem_cons.mpr ⟨sf_117, (List.forall_mem_cons.mpr ⟨sf_118, (List.forall_mem_cons.mpr ⟨sf_119, (List.forall_mem_cons.mpr ⟨sf_120, (List.forall_mem_cons.mpr ⟨sf_121, (List.forall_mem_cons.mpr ⟨sf_122, (List.forall_mem_cons.mpr ⟨sf_123, (List.forall_mem_cons.mpr ⟨sf_124, (fun _ h => absurd h List.not_mem_nil)⟩)⟩)⟩)⟩)⟩)⟩)⟩)⟩)⟩)⟩)⟩)⟩)⟩)⟩)⟩)⟩)⟩)⟩)⟩)⟩)⟩)⟩)⟩)⟩)⟩)
theorem sfs_5 : ∀ e ∈ sTb_5, SFe e := (List.forall_mem_cons.mpr ⟨sf_125, (List.forall_mem_cons.mpr ⟨sf_126, (List.forall_mem_cons.mpr ⟨sf_127, (List.forall_mem_cons.mpr ⟨sf_128, (List.forall_mem_cons.mpr ⟨sf_129, (List.forall_mem_cons.mpr ⟨sf_130, (List.forall_mem_cons.mpr ⟨sf_131, (List.forall_mem_cons.mpr ⟨sf_132, (List.forall_mem_cons.mpr ⟨sf_133, (List.forall_mem_cons.mpr ⟨sf_134, (List.forall_mem_cons.mpr ⟨sf_135, (List.forall_mem_cons.mpr ⟨sf_136, (List.forall_mem_cons.mpr ⟨sf_137, (List.forall_mem_cons.mpr ⟨sf_138, (List.forall_mem_cons.mpr ⟨sf_139, (List.forall_mem_cons.mpr ⟨sf_140, (List.forall_mem_cons.mpr ⟨sf_141, (List.forall_mem_cons.mpr ⟨sf_142, (List.forall_mem_cons.mpr ⟨sf_143, (List.forall_mem_cons.mpr ⟨sf_144, (List.forall_mem_cons.mpr ⟨sf_145, (List.forall_mem_cons.mpr ⟨sf_146, (List.forall_mem_cons.mpr ⟨sf_147, (List.forall_mem_cons.mpr ⟨sf_148, (List.forall_mem_cons.mpr ⟨sf_149, (fun _ h => absurd h List.not_mem_nil)⟩)⟩)⟩)⟩)⟩)⟩)⟩)⟩)⟩)⟩)⟩)⟩)⟩)⟩)⟩)⟩)⟩)⟩)⟩)⟩)⟩)⟩)⟩)⟩)⟩)
theorem sfs_6 : ∀ e ∈ sTb_6, SFe e := (List.forall_mem_cons.mpr ⟨sf_150, (List.forall_mem_cons.mpr ⟨sf_151, (List.forall_mem_cons.mpr ⟨sf_152, (List.forall_mem_cons.mpr ⟨sf_153, (List.forall_mem_cons.mpr ⟨sf_154, (List.forall_mem_cons.mpr ⟨sf_155, (List.forall_mem_cons.mpr ⟨sf_156, (List.forall_mem_cons.mpr ⟨sf_157, (List.forall_mem_cons.mpr ⟨sf_158, (List.forall_mem_cons.mpr ⟨sf_159, (List.forall_mem_cons.mpr ⟨sf_160, (List.forall_mem_cons.mpr ⟨sf_161, (List.forall_mem_cons.mpr ⟨sf_162, (List.forall_mem_cons.mpr ⟨sf_163, (List.forall_mem_cons.mpr ⟨sf_164, (List.forall_mem_cons.mpr ⟨sf_165, (List.forall_mem_cons.mpr ⟨sf_166, (List.forall_mem_cons.mpr ⟨sf_167, (List.forall_mem_cons.mpr ⟨sf_168, (List.forall_mem_cons.mpr ⟨sf_169, (List.forall_mem_cons.mpr ⟨sf_170, (List.forall_mem_cons.mpr ⟨sf_171, (List.forall_mem_cons.mpr ⟨sf_172, (List.forall_mem_cons.mpr ⟨sf_173, (List.forall_mem_cons.mpr ⟨sf_174, (fun _ h => absurd h List.not_mem_nil)⟩)⟩)⟩)⟩)⟩)⟩)⟩)⟩)⟩)⟩)⟩)⟩)⟩)⟩)⟩)⟩)⟩)⟩)⟩)⟩)⟩)⟩)⟩)⟩)⟩)
theorem sfs_7 : ∀ e ∈ sTb_7, SFe e := (List.forall_mem_cons.mpr ⟨sf_175, (List.forall_mem_cons.mpr ⟨sf_176, (List.forall_mem_cons.mpr ⟨sf_177, (List.forall_mem_cons.mpr ⟨sf_178, (List.forall_mem_cons.mpr ⟨sf_179, (List.forall_mem_cons.mpr ⟨sf_180, (List.forall_mem_cons.mpr ⟨sf_181, (List.forall_mem_cons.mpr ⟨sf_182, (List.forall_mem_cons.mpr ⟨sf_183, (List.forall_mem_cons.mpr ⟨sf_184, (List.forall_mem_cons.mpr ⟨sf_185, (List.forall_mem_cons.mpr ⟨sf_186, (List.forall_mem_cons.mpr ⟨sf_187, (List.forall_mem_cons.mpr ⟨sf_188, (List.forall_mem_cons.mpr ⟨sf_189, (List.forall_mem_cons.mpr ⟨sf_190, (List.forall_mem_cons.mpr ⟨sf_191, (List.forall_mem_cons.mpr ⟨sf_192, (fun _ h => absurd h List.not_mem_nil)⟩)⟩)⟩)⟩)⟩)⟩)⟩)⟩)⟩)⟩)⟩)⟩)⟩)⟩)⟩)⟩)⟩)⟩)
theorem sTb_ok : ∀ e ∈ sTb, SFe e := List.forall_mem_append.mpr ⟨sfs_0, List.forall_mem_append.mpr ⟨sfs_1, List.forall_mem_append.mpr ⟨sfs_2, List.forall_mem_append.mpr ⟨sfs_3, List.forall_mem_append.mpr ⟨sfs_4, List.forall_mem_append.mpr ⟨sfs_5, List.forall_mem_append.mpr ⟨sfs_6, sfs_7⟩⟩⟩⟩⟩⟩⟩
theorem sTab_facts {ow k C kd n : Nat} {q : MI} (h : sTab ow k C = some (kd, n, q)) : SF ow k C kd n q := by
  unfold sTab at h
  cases hf : sTb.find? (fun q => q.1 == ow && (q.2.1 == k && q.2.2.1 == C)) with
  | none => rw [hf] at h; cases h
  | some e =>
    rw [hf] at h
    obtain ⟨a, b, c, kd', n', q'⟩ := e
    have hp := List.find?_some hf
    have hm := List.mem_of_find?_eq_some hf
    have hk := sTb_ok _ hm
    simp only [Option.map_some, Option.some.injEq, Prod.mk.injEq] at h
    obtain ⟨rfl, rfl, rfl⟩ := h
    simp only [Bool.and_eq_true, beq_iff_eq] at hp
    obtain ⟨rfl, rfl, rfl⟩ := hp
    exact hk
set_option maxRecDepth 100000 in
theorem kTb_ok : kTb.all (fun q => decide (lw_tbl[q.2.2.2]? = some (Cond.constant (oNm q.1) q.2.1 (Int32.ofInt q.2.2.1))) && decide (ir q.2.2.1)) = true := by decide +kernel
set_option maxRecDepth 100000 in
theorem lTb_ok : lTb.all (fun q => decide (lw_tbl[q.2.2.2]? = some (Cond.constantLong (oNm q.1) q.2.1 (Int64.ofInt q.2.2.1))) && decide (lr q.2.2.1)) = true := by decide +kernel
theorem kTab_facts {ow k : Nat} {x : Int} (h : kTab ow k = some x) : Cond.constant (oNm ow) k (Int32.ofInt x) ∈ lw_good ∧ ir x := by
  unfold kTab at h
  cases hf : kTb.find? (fun q => q.1 == ow && q.2.1 == k) with
  | none => rw [hf] at h; cases h
  | some e =>
    rw [hf] at h
    obtain ⟨a, b, c, ix⟩ := e
    have hp := List.find?_some hf
    have hk := List.all_eq_true.mp kTb_ok _ (List.mem_of_find?_eq_some hf)
    simp only [Option.map_some, Option.some.injEq] at h
    subst h
    simp only [Bool.and_eq_true, beq_iff_eq] at hp
    obtain ⟨rfl, rfl⟩ := hp
    simp only [Bool.and_eq_true, decide_eq_true_eq] at hk
    exact ⟨good_of hk.1 rfl, hk.2⟩
theorem lTab_facts {ow k : Nat} {x : Int} (h : lTab ow k = some x) : Cond.constantLong (oNm ow) k (Int64.ofInt x) ∈ lw_good ∧ lr x := by
  unfold lTab at h
  cases hf : lTb.find? (fun q => q.1 == ow && q.2.1 == k) with
  | none => rw [hf] at h; cases h
  | some e =>
    rw [hf] at h
    obtain ⟨a, b, c, ix⟩ := e
    have hp := List.find?_some hf
    have hk := List.all_eq_true.mp lTb_ok _ (List.mem_of_find?_eq_some hf)
    simp only [Option.map_some, Option.some.injEq] at h
    subst h
    simp only [Bool.and_eq_true, beq_iff_eq] at hp
    obtain ⟨rfl, rfl⟩ := hp
    simp only [Bool.and_eq_true, decide_eq_true_eq] at hk
    exact ⟨good_of hk.1 rfl, hk.2⟩
/-- the fields' words of each class -/
def inAll (C : String) (T : u_T) (N : Nat) : Bool := (u_ws C T N).all (fun w => decide (w ∈ lw_tbl) && goodWord w)
theorem inW_of {C : String} {T : u_T} {N : Nat} (h : inAll C T N = true) : ∀ w ∈ u_ws C T N, w ∈ lw_good := fun w hw => by
  have := List.all_eq_true.mp h w hw
  simp only [Bool.and_eq_true, decide_eq_true_eq] at this
  exact List.mem_filter.mpr this
set_option maxRecDepth 100000 in
theorem inW_2 : inAll RX2 TX2 15 = true := by decide +kernel
set_option maxRecDepth 100000 in
theorem inW_6 : inAll RX6 TX6 2 = true := by decide +kernel
set_option maxRecDepth 100000 in
theorem inW_8 : inAll RX8 TX8 2 = true := by decide +kernel
set_option maxRecDepth 100000 in
theorem inW_9 : inAll RX9 TX9 5 = true := by decide +kernel
set_option maxRecDepth 100000 in
theorem inW_10 : inAll RX10 TX10 6 = true := by decide +kernel
set_option maxRecDepth 100000 in
theorem inW_11 : inAll RX11 TX11 10 = true := by decide +kernel
set_option maxRecDepth 100000 in
theorem inW_12 : inAll RX12 TX12 24 = true := by decide +kernel
theorem inW {ci : Nat} (h : ci < 13) : ∀ w ∈ u_ws (clN ci).1 (clN ci).2.1 (clN ci).2.2, w ∈ lw_good := by
  match ci, h with
  | 0, _ => exact fun w hw => absurd hw (by show w ∉ u_ws RX0 TX0 0; simp [u_ws])
  | 1, _ => exact fun w hw => absurd hw (by show w ∉ u_ws RX1 TX1 0; simp [u_ws])
  | 2, _ => exact inW_of inW_2
  | 3, _ => exact fun w hw => absurd hw (by show w ∉ u_ws RX3 TX3 0; simp [u_ws])
  | 4, _ => exact fun w hw => absurd hw (by show w ∉ u_ws RX4 TX4 0; simp [u_ws])
  | 5, _ => exact fun w hw => absurd hw (by show w ∉ u_ws RX5 TX5 0; simp [u_ws])
  | 6, _ => exact inW_of inW_6
  | 7, _ => exact fun w hw => absurd hw (by show w ∉ u_ws RX7 TX7 0; simp [u_ws])
  | 8, _ => exact inW_of inW_8
  | 9, _ => exact inW_of inW_9
  | 10, _ => exact inW_of inW_10
  | 11, _ => exact inW_of inW_11
  | 12, _ => exact inW_of inW_12
  | k + 13, h => exact absurd h (by omega)
def clTy (ci : Nat) : Nat → FieldType := match ci with
  | 2 => tyX2
  | 6 => tyX6
  | 8 => tyX8
  | 9 => tyX9
  | 10 => tyX10
  | 11 => tyX11
  | 12 => tyX12
  | _ => tyX0
theorem clTy_ok {ci : Nat} (h : ci < 13) : (∀ k, k < (clN ci).2.2 → parseFieldDescriptor ((clN ci).2.1 k).2.2.1 = some (clTy ci k)) ∧ ∀ a, a < (clN ci).2.2 → ∀ b, b < (clN ci).2.2 → a ≠ b → ((clN ci).2.1 a).2.1 ≠ ((clN ci).2.1 b).2.1 := by
  match ci, h with
  | 0, _ => exact ⟨fun k hk => absurd hk (Nat.not_lt_zero k), fun k hk => absurd hk (Nat.not_lt_zero k)⟩
  | 1, _ => exact ⟨fun k hk => absurd hk (Nat.not_lt_zero k), fun k hk => absurd hk (Nat.not_lt_zero k)⟩
  | 2, _ => exact ⟨tyX2_ok, nmX2⟩
  | 3, _ => exact ⟨fun k hk => absurd hk (Nat.not_lt_zero k), fun k hk => absurd hk (Nat.not_lt_zero k)⟩
  | 4, _ => exact ⟨fun k hk => absurd hk (Nat.not_lt_zero k), fun k hk => absurd hk (Nat.not_lt_zero k)⟩
  | 5, _ => exact ⟨fun k hk => absurd hk (Nat.not_lt_zero k), fun k hk => absurd hk (Nat.not_lt_zero k)⟩
  | 6, _ => exact ⟨tyX6_ok, nmX6⟩
  | 7, _ => exact ⟨fun k hk => absurd hk (Nat.not_lt_zero k), fun k hk => absurd hk (Nat.not_lt_zero k)⟩
  | 8, _ => exact ⟨tyX8_ok, nmX8⟩
  | 9, _ => exact ⟨tyX9_ok, nmX9⟩
  | 10, _ => exact ⟨tyX10_ok, nmX10⟩
  | 11, _ => exact ⟨tyX11_ok, nmX11⟩
  | 12, _ => exact ⟨tyX12_ok, nmX12⟩
  | k + 13, h => exact absurd h (by omega)
/-- words of nest mates, and how they hold on -/
def nFrm (w : Cond) : Bool := match w with
  | .fieldLinkNest .. => true
  | .methodLinkNest .. => true
  | _ => false
theorem nestW_frm : nestW.all nFrm = true := by decide +kernel
theorem nestW_warm {w : Cond} (hw : w ∈ nestW) {s U : State} (hW : s.WarmedH U.vm) (h : va_Nw w s) : va_Nw w U := by
  have hf := List.all_eq_true.mp nestW_frm w hw
  cases w <;> first | exact va_Nw.warmF hW h | exact va_Nw.warmM hW h | exact absurd hf (by simp [nFrm])
theorem nestW_tab {w : Cond} (hw : w ∈ nestW) : w.onTables = true := by
  have hf := List.all_eq_true.mp nestW_frm w hw
  cases w <;> first | rfl | exact absurd hf (by simp [nFrm])

