section SY
variable {p : Program} {l : Launch} {e : Env} {R : Room} {s : State} {m : MethodId} {args : Array Value} {below : List Frame} {meth : Method} {c : Code} {H : Heap} {locs : List Loc} {cells slots : Nat} {Q : State → Prop}
variable {ad : Nat → Nat} {cA dC : Nat → ClassId} {dI : Nat → Nat → Nat} {n0 x0 : Int → Int} {Sx : State → Prop} {q : MI} {d pc : Nat} {ls st ls' st' : List SV} {g g' : Hp} {pc' : Nat} {ra : Array Slot} {ins : ClassFile.Instr} {len : Nat}
theorem i8_c {n : Int} (h : -128 ≤ n ∧ n < 128) : (Int8.ofInt n).toInt32 = Int32.ofInt n := by
  rw [← Int32.toInt_inj, i32_ti ⟨by omega, by omega⟩, Int8.toInt_toInt32, Int8.toInt_ofInt_of_le (by omega) (by omega)]
theorem i16_c {n : Int} (h : -32768 ≤ n ∧ n < 32768) : (Int16.ofInt n).toInt32 = Int32.ofInt n := by
  rw [← Int32.toInt_inj, i32_ti ⟨by omega, by omega⟩, Int16.toInt_toInt32, Int16.toInt_ofInt_of_le (by omega) (by omega)]
theorem i2l_c {x : Int} (h : ir x) : (Int32.ofInt x).toInt64 = Int64.ofInt x := by
  rw [← Int64.toInt_inj, Int32.toInt_toInt64, i32_ti h, i64_ti ⟨by have := h.1; omega, by have := h.2; omega⟩]
theorem l2i_c {x : Int} (h : lr x) : (Int64.ofInt x).toInt32 = Int32.ofInt (w32 x) := by
  rw [w32, o32]
  exact Int64.toInt32_ofInt
theorem lcmp_c {a b : Int} (ha : lr a) (hb : lr b) : lg_cmp (Int64.ofInt a) (Int64.ofInt b) = Int32.ofInt (lCmp a b) := by
  unfold lg_cmp lCmp
  by_cases h1 : b < a
  · rw [if_pos h1, if_pos ((i64_lt hb ha).mpr h1)]; decide
  · rw [if_neg h1, if_neg (fun h => h1 ((i64_lt hb ha).mp h))]
    by_cases h2 : a = b
    · rw [if_pos h2, if_pos ((i64_eq ha hb).mpr h2)]; decide
    · rw [if_neg h2, if_neg (fun h => h2 ((i64_eq ha hb).mp h))]; decide
theorem bnot {b : Bool} (h : ¬ b = true) : b = false := by cases b <;> simp_all
theorem rv_cat {v : SV} (h : cat v = 1) : (rv ad v).category = 1 := by
  rcases v with x | x | x | x
  · rfl
  · simp [cat] at h
  · rfl
  · rfl
theorem rv_sum (r : List SV) : ((r.map (rv ad)).map fun v => v.category).sum = (r.map cat).sum := by
  induction r with
  | nil => rfl
  | cons v r ih =>
    simp only [List.map_cons, List.sum_cons, ih]
    congr 1
    rcases v with x | x | x | x <;> rfl
theorem gTab_mem {ow k a : Nat} (h : gTab ow k = some a) : (ow, k, a) ∈ gTb := by
  unfold gTab at h
  cases hf : gTb.find? (fun q => q.1 == ow && q.2.1 == k) with
  | none => rw [hf] at h; cases h
  | some z =>
    rw [hf] at h
    obtain ⟨x, y, w⟩ := z
    have hp := List.find?_some hf
    simp only [Option.map_some, Option.some.injEq] at h
    subst h
    simp only [Bool.and_eq_true, beq_iff_eq] at hp
    obtain ⟨rfl, rfl⟩ := hp
    exact List.mem_of_find?_eq_some hf
theorem iinc_less {k : Nat} {x y : Int} (hl : lv_has ra q.2.1 (lvl ad ls)) (hk : ls[k]? = some (.inl x)) : ∀ z ∈ lvl ad (ls.set k (.inl y)), z ∈ (k, Value.int (Int32.ofInt y)) :: (lvl ad ls).filter (fun q => !(q.1 == k) && !(q.1 + 1 == k && q.2.category == 2)) := by
  rintro ⟨j, w⟩ hq
  obtain ⟨u, h1, h2, rfl⟩ := lvl_mem.mp hq
  by_cases hjk : j = k
  · subst hjk
    rw [List.getElem?_set_self (List.getElem?_eq_some_iff.mp hk).1] at h1
    cases h1
    exact List.mem_cons_self
  · rw [List.getElem?_set_ne (fun e => hjk e.symm)] at h1
    refine List.mem_cons_of_mem _ (List.mem_filter.mpr ⟨lvl_mem.mpr ⟨u, h1, h2, rfl⟩, ?_⟩)
    simp only [Bool.and_eq_true, Bool.not_eq_true', beq_eq_false_iff_ne, ne_eq, Bool.and_eq_false_iff]
    refine ⟨hjk, ?_⟩
    by_cases e1 : j + 1 = k
    · right
      intro e2
      have hw := hl.2.1.1 j _ (lvl_at hl h1 h2) e2
      have hw2 := lvl_at hl hk rfl
      rw [e1, hw2] at hw
      cases hw
    · exact Or.inl e1
set_option maxHeartbeats 8000000 in
theorem snd_sx (hinj : ∀ i j, i < cNum → j < cNum → ad i = ad j → i = j) (hSL : StrLen ad Sx) (hSA : StrAt ad Sx) (hF : FrC p R s m args c q d cells slots) (hK : ShK cA dC dI s) (hZ : ShF ad n0 x0 Sx s) (hP : va_P (dC, dI) vwCl (wl ad cA g) H) (hg : okH g) (h210 : g 210 = n0) (h220 : g 220 = x0) (hS : va_S (ShA ad) s.heap H locs) (hl : lv_has ra q.2.1 (lvl ad ls)) (hll : ls.length = q.2.1) (hls : ∀ v ∈ ls, okV v) (hst : ∀ v ∈ st, okV v)
    (hd : decode q.2.2.2.1 pc = .ok (ins, len)) (hln : lnOk ins len = true) (h : sx q.1 pc ls st g ins = some (pc', ls', st', g')) (K : Kon p l e R s m args below meth c cells slots Q ad cA dC dI q.2.1 pc' ls' st' g') : W p l e R s m args below meth c H locs cells slots Q (F0 m pc ra (st.map (rv ad))) := by
  obtain ⟨hx, hb, hml, hown, hts, hfr, hlo, hce, hsl⟩ := hF
  have hD := wl_D cA g hinj
  cases ins with
  | iconst n =>
    have e1 : len = 1 := eq_of_beq (show (len == 1) = true from hln)
    subst e1
    simp only [sx] at h
    split at h
    · cases h; exact lv_iconst hx hb hd rfl (K H locs ra hP hS hl)
    · cases h
  | bipush n =>
    have e1 : len = 2 := eq_of_beq (show (len == 2) = true from hln)
    subst e1
    simp only [sx] at h
    split at h
    · rename_i hn; cases h; exact lv_bipush hx hb hd (i8_c hn) (K H locs ra hP hS hl)
    · cases h
  | sipush n =>
    have e1 : len = 3 := eq_of_beq (show (len == 3) = true from hln)
    subst e1
    simp only [sx] at h
    split at h
    · rename_i hn; cases h; exact lv_sipush hx hb hd (i16_c hn) (K H locs ra hP hS hl)
    · cases h
  | lconst n =>
    have e1 : len = 1 := eq_of_beq (show (len == 1) = true from hln)
    subst e1
    simp only [sx] at h
    cases h
    exact lv_lconst hx hb hd (v := Int64.ofInt ((n : Nat) : Int)) (by rw [Int64.ofInt_eq_ofNat]) (K H locs ra hP hS hl)
  | ldc k =>
    have e1 : len = 2 := eq_of_beq (show (len == 2) = true from hln)
    subst e1
    simp only [sx] at h
    split at h
    · rename_i x hk
      cases h
      have hw := hts _ (kTab_facts hk).1
      exact lv_ldc hx hb hown hw hd (K H locs ra hP hS hl)
    · split at h
      · rename_i a ha
        cases h
        have hw := hZ.2.2.2.2.2.1 _ (gTab_mem ha)
        exact va_ldcS hx hb hown hw hd (K H locs ra hP hS hl)
      · cases h
  | ldc_w k =>
    have e1 : len = 3 := eq_of_beq (show (len == 3) = true from hln)
    subst e1
    simp only [sx] at h
    split at h
    · rename_i x hk
      cases h
      have hw := hts _ (kTab_facts hk).1
      exact lv_ldcw hx hb hown hw hd (K H locs ra hP hS hl)
    · cases h
  | ldc2_w k =>
    have e1 : len = 3 := eq_of_beq (show (len == 3) = true from hln)
    subst e1
    simp only [sx] at h
    split at h
    · rename_i x hk
      cases h
      have hw := hts _ (lTab_facts hk).1
      exact lv_ldc2 hx hb hown hw hd (K H locs ra hP hS hl)
    · cases h
  | iload_n k =>
    have e1 : len = 1 := eq_of_beq (show (len == 1) = true from hln)
    subst e1
    exact k_ldI hx hb hP hS hl (fun x hx' kk => lv_iload_n hx hb hd rfl hx' kk) h K
  | iload k =>
    have e1 : len = 2 := eq_of_beq (show (len == 2) = true from hln)
    subst e1
    exact k_ldI hx hb hP hS hl (fun x hx' kk => lv_iload hx hb hd hx' kk) h K
  | lload_n k =>
    have e1 : len = 1 := eq_of_beq (show (len == 1) = true from hln)
    subst e1
    exact k_ldL hx hb hP hS hl (fun x hx' kk => lv_lload_n hx hb hd rfl hx' kk) h K
  | lload k =>
    have e1 : len = 2 := eq_of_beq (show (len == 2) = true from hln)
    subst e1
    exact k_ldL hx hb hP hS hl (fun x hx' kk => lv_lload hx hb hd hx' kk) h K
  | aload_n k =>
    have e1 : len = 1 := eq_of_beq (show (len == 1) = true from hln)
    subst e1
    exact k_ldR hx hb hP hS hl (fun x hx' kk => lv_aload_n hx hb hd rfl hx' kk) h K
  | aload k =>
    have e1 : len = 2 := eq_of_beq (show (len == 2) = true from hln)
    subst e1
    exact k_ldR hx hb hP hS hl (fun x hx' kk => lv_aload hx hb hd hx' kk) h K
  | istore_n k =>
    have e1 : len = 1 := eq_of_beq (show (len == 1) = true from hln)
    subst e1
    exact k_soI hP hS hl hll (fun x rest hn kk => lv_istore_n hx hb hd rfl hl hn rfl kk) h K
  | istore k =>
    have e1 : len = 2 := eq_of_beq (show (len == 2) = true from hln)
    subst e1
    exact k_soI hP hS hl hll (fun x rest hn kk => lv_istore hx hb hd hl hn rfl kk) h K
  | lstore_n k =>
    have e1 : len = 1 := eq_of_beq (show (len == 1) = true from hln)
    subst e1
    exact k_soL hP hS hl hll (fun x rest hn kk => lv_lstore_n hx hb hd rfl hl hn rfl kk) h K
  | lstore k =>
    have e1 : len = 2 := eq_of_beq (show (len == 2) = true from hln)
    subst e1
    exact k_soL hP hS hl hll (fun x rest hn kk => lv_lstore hx hb hd hl hn rfl kk) h K
  | iinc k n =>
    have e1 : len = 3 := eq_of_beq (show (len == 3) = true from hln)
    subst e1
    simp only [sx] at h
    split at h
    · rename_i x hk
      cases h
      have hm : (k, Value.int (Int32.ofInt x)) ∈ lvl ad ls := lvl_mem.mpr ⟨_, hk, rfl, rfl⟩
      obtain ⟨j, hj⟩ := List.getElem?_of_mem hm
      exact lv_iinc hx hb hd hl hj (v := Int32.ofInt (w32 (x + n))) (by rw [i32_add]) (by have := (List.getElem?_eq_some_iff.mp hk).1; omega) rfl (fun ra' hl' => K H locs ra' hP hS (lv_less hl' (iinc_less hl hk)))
    · cases h
  | iadd =>
    have e1 : len = 1 := eq_of_beq (show (len == 1) = true from hln)
    subst e1
    exact k_bi (f := fun a b => w32 (a + b)) (F := fun x y => x + y) (fun a b => i32_add a b) hP hS hl (fun x y rest kk => lv_iadd hx hb hd kk) h K
  | isub =>
    have e1 : len = 1 := eq_of_beq (show (len == 1) = true from hln)
    subst e1
    exact k_bi (f := fun a b => w32 (a - b)) (F := fun x y => x - y) (fun a b => i32_sub a b) hP hS hl (fun x y rest kk => lv_isub hx hb hd kk) h K
  | imul =>
    have e1 : len = 1 := eq_of_beq (show (len == 1) = true from hln)
    subst e1
    exact k_bi (f := fun a b => w32 (a * b)) (F := fun x y => x * y) (fun a b => i32_mul a b) hP hS hl (fun x y rest kk => lv_imul hx hb hd kk) h K
  | iand =>
    have e1 : len = 1 := eq_of_beq (show (len == 1) = true from hln)
    subst e1
    exact k_bi (f := bAnd) (F := fun x y => x &&& y) (fun a b => (o32 _).symm) hP hS hl (fun x y rest kk => lv_iand hx hb hd kk) h K
  | ior =>
    have e1 : len = 1 := eq_of_beq (show (len == 1) = true from hln)
    subst e1
    exact k_bi (f := bOr) (F := fun x y => x ||| y) (fun a b => (o32 _).symm) hP hS hl (fun x y rest kk => lv_ior hx hb hd kk) h K
  | ixor =>
    have e1 : len = 1 := eq_of_beq (show (len == 1) = true from hln)
    subst e1
    exact k_bi (f := bXor) (F := fun x y => x ^^^ y) (fun a b => (o32 _).symm) hP hS hl (fun x y rest kk => lv_ixor hx hb hd kk) h K
  | ishl =>
    have e1 : len = 1 := eq_of_beq (show (len == 1) = true from hln)
    subst e1
    exact k_bi (f := bShl) (F := fun x y => x <<< (y &&& 31)) (fun a b => (o32 _).symm) hP hS hl (fun x y rest kk => lv_ishl hx hb hd kk) h K
  | ishr =>
    have e1 : len = 1 := eq_of_beq (show (len == 1) = true from hln)
    subst e1
    exact k_bi (f := bShr) (F := fun x y => x >>> (y &&& 31)) (fun a b => (o32 _).symm) hP hS hl (fun x y rest kk => lv_ishr hx hb hd kk) h K
  | iushr =>
    have e1 : len = 1 := eq_of_beq (show (len == 1) = true from hln)
    subst e1
    exact k_bi (f := bUsh) (F := fun x y => (x.toUInt32 >>> (y.toUInt32 &&& Int32.toUInt32 31)).toInt32) (fun a b => (o32 _).symm) hP hS hl (fun x y rest kk => lv_iushr hx hb hd rfl kk) h K
  | idiv =>
    have e1 : len = 1 := eq_of_beq (show (len == 1) = true from hln)
    subst e1
    simp only [sx] at h
    split at h
    · split at h
      · rename_i b a r hc
        cases h
        have hb2 : ir b := ok_h hst
        have ha2 : ir a := ok_h (ok_t hst)
        refine lv_idiv hx hb hd (fun e => ?_) ?_
        · have := (i32_eq hb2 (show ir 0 by decide)).mp e
          omega
        · rw [i32_div ha2 hb2 hc.1 hc.2]
          exact K H locs ra hP hS hl
      · cases h
    · cases h
  | irem =>
    have e1 : len = 1 := eq_of_beq (show (len == 1) = true from hln)
    subst e1
    simp only [sx] at h
    split at h
    · split at h
      · rename_i b a r hc
        cases h
        have hb2 : ir b := ok_h hst
        have ha2 : ir a := ok_h (ok_t hst)
        refine lv_irem hx hb hd (fun e => ?_) ?_
        · have := (i32_eq hb2 (show ir 0 by decide)).mp e
          omega
        · rw [i32_rem ha2 hb2 hc.1 hc.2]
          exact K H locs ra hP hS hl
      · cases h
    · cases h
  | ineg =>
    have e1 : len = 1 := eq_of_beq (show (len == 1) = true from hln)
    subst e1
    simp only [sx] at h
    split at h
    · rename_i a r
      cases h
      refine lv_ineg hx hb hd ?_
      rw [show -Int32.ofInt a = Int32.ofInt (w32 (-a)) by rw [w32, o32, Int32.ofInt_neg]]
      exact K H locs ra hP hS hl
    · cases h
  | ladd =>
    have e1 : len = 1 := eq_of_beq (show (len == 1) = true from hln)
    subst e1
    exact k_bl (f := fun a b => w64 (a + b)) (F := fun x y => x + y) (fun a b => i64_add a b) hP hS hl (fun x y rest kk => lv_ladd hx hb hd kk) h K
  | lsub =>
    have e1 : len = 1 := eq_of_beq (show (len == 1) = true from hln)
    subst e1
    exact k_bl (f := fun a b => w64 (a - b)) (F := fun x y => x - y) (fun a b => i64_sub a b) hP hS hl (fun x y rest kk => lv_lsub hx hb hd kk) h K
  | lmul =>
    have e1 : len = 1 := eq_of_beq (show (len == 1) = true from hln)
    subst e1
    exact k_bl (f := fun a b => w64 (a * b)) (F := fun x y => x * y) (fun a b => i64_mul a b) hP hS hl (fun x y rest kk => lv_lmul hx hb hd kk) h K
  | land =>
    have e1 : len = 1 := eq_of_beq (show (len == 1) = true from hln)
    subst e1
    exact k_bl (f := lAnd) (F := fun x y => x &&& y) (fun a b => (o64 _).symm) hP hS hl (fun x y rest kk => lv_land hx hb hd kk) h K
  | lor =>
    have e1 : len = 1 := eq_of_beq (show (len == 1) = true from hln)
    subst e1
    exact k_bl (f := lOr) (F := fun x y => x ||| y) (fun a b => (o64 _).symm) hP hS hl (fun x y rest kk => lv_lor hx hb hd kk) h K
  | lshl =>
    have e1 : len = 1 := eq_of_beq (show (len == 1) = true from hln)
    subst e1
    exact k_bs (f := lShl) (F := fun x y => x <<< (y.toInt64 &&& 63)) (fun a b => (o64 _).symm) hP hS hl (fun x y rest kk => lv_lshl hx hb hd rfl kk) h K
  | lshr =>
    have e1 : len = 1 := eq_of_beq (show (len == 1) = true from hln)
    subst e1
    exact k_bs (f := lShr) (F := fun x y => x >>> (y.toInt64 &&& 63)) (fun a b => (o64 _).symm) hP hS hl (fun x y rest kk => lv_lshr hx hb hd rfl kk) h K
  | lushr =>
    have e1 : len = 1 := eq_of_beq (show (len == 1) = true from hln)
    subst e1
    exact k_bs (f := lUsh) (F := fun x y => (x.toUInt64 >>> (y.toInt64.toUInt64 &&& Int64.toUInt64 63)).toInt64) (fun a b => (o64 _).symm) hP hS hl (fun x y rest kk => lv_lushr hx hb hd rfl kk) h K
  | lcmp =>
    have e1 : len = 1 := eq_of_beq (show (len == 1) = true from hln)
    subst e1
    simp only [sx] at h
    split at h
    · rename_i b a r
      cases h
      refine W.lcmp hx hb hd ?_
      rw [lcmp_c (ok_h (ok_t hst)) (ok_h hst)]
      exact K H locs ra hP hS hl
    · cases h
  | i2l =>
    have e1 : len = 1 := eq_of_beq (show (len == 1) = true from hln)
    subst e1
    simp only [sx] at h
    split at h
    · rename_i a r
      cases h
      exact lv_i2l hx hb hd (i2l_c (ok_h hst)) (K H locs ra hP hS hl)
    · cases h
  | l2i =>
    have e1 : len = 1 := eq_of_beq (show (len == 1) = true from hln)
    subst e1
    simp only [sx] at h
    split at h
    · rename_i a r
      cases h
      exact lv_l2i hx hb hd (l2i_c (ok_h hst)) (K H locs ra hP hS hl)
    · cases h
  | dup =>
    have e1 : len = 1 := eq_of_beq (show (len == 1) = true from hln)
    subst e1
    simp only [sx] at h
    split at h
    · split at h
      · rename_i v r hc
        cases h
        exact lv_dup hx hb hd (rv_cat hc) (K H locs ra hP hS hl)
      · cases h
    · cases h
  | pop =>
    have e1 : len = 1 := eq_of_beq (show (len == 1) = true from hln)
    subst e1
    simp only [sx] at h
    split at h
    · split at h
      · rename_i v r hc
        cases h
        exact lv_pop hx hb hd (rv_cat hc) (K H locs ra hP hS hl)
      · cases h
    · cases h
  | dup_x1 =>
    have e1 : len = 1 := eq_of_beq (show (len == 1) = true from hln)
    subst e1
    simp only [sx] at h
    split at h
    · split at h
      · rename_i v w r hc
        cases h
        exact lv_dup_x1 hx hb hd (rv_cat hc.1) (rv_cat hc.2) (K H locs ra hP hS hl)
      · cases h
    · cases h
  | dup2 =>
    have e1 : len = 1 := eq_of_beq (show (len == 1) = true from hln)
    subst e1
    simp only [sx] at h
    split at h
    · split at h
      · rename_i v w r hc
        cases h
        exact lv_dup2_11 hx hb hd (rv_cat hc.1) (rv_cat hc.2) (K H locs ra hP hS hl)
      · cases h
    · cases h
  | goto off =>
    have e1 : len = 3 := eq_of_beq (show (len == 3) = true from hln)
    subst e1
    obtain ⟨ht, kk⟩ := k_jmp hP hS hl h K
    exact lv_goto hx hb hd ht kk
  | ifCond cd off =>
    have e1 : len = 3 := eq_of_beq (show (len == 3) = true from hln)
    subst e1
    simp only [sx, br] at h
    split at h
    · rename_i a r
      split at h
      · rename_i h0
        have ha : ir a := ok_h hst
        have z0 : ir 0 := by decide
        have ht : (pc : Int) + off = ((((pc : Int) + off).toNat : Nat) : Int) := by omega
        cases h
        have kk := K H locs ra hP hS hl
        by_cases hc : cnd cd a 0 = true
        · rw [if_pos hc] at kk
          cases cd with
          | eq => exact lv_if_eq hx hb hd ht (fun _ => kk) (fun hn => absurd ((i32_eq ha z0).mpr (by simpa [cnd] using hc)) hn)
          | ne => exact lv_if_ne hx hb hd ht (fun _ => kk) (fun hn => absurd ((i32_eq ha z0).mp hn) (by simpa [cnd] using hc))
          | lt => exact lv_if_lt hx hb hd ht (fun _ => kk) (fun hn => absurd ((i32_lt ha z0).mpr (by simpa [cnd] using hc)) hn)
          | ge => exact lv_if_ge hx hb hd ht (fun _ => kk) (fun hn => absurd ((i32_le z0 ha).mpr (by simpa [cnd] using hc)) hn)
          | gt => exact lv_if_gt hx hb hd ht (fun _ => kk) (fun hn => absurd ((i32_lt z0 ha).mpr (by simpa [cnd] using hc)) hn)
          | le => exact lv_if_le hx hb hd ht (fun _ => kk) (fun hn => absurd ((i32_le ha z0).mpr (by simpa [cnd] using hc)) hn)
        · rw [if_neg hc] at kk
          cases cd with
          | eq => exact lv_if_eq hx hb hd ht (fun hn => absurd (by simpa [cnd] using (i32_eq ha z0).mp hn) hc) (fun _ => kk)
          | ne => exact lv_if_ne hx hb hd ht (fun hn => absurd (by simpa [cnd] using fun e => hn ((i32_eq ha z0).mpr e)) hc) (fun _ => kk)
          | lt => exact lv_if_lt hx hb hd ht (fun hn => absurd (by simpa [cnd] using (i32_lt ha z0).mp hn) hc) (fun _ => kk)
          | ge => exact lv_if_ge hx hb hd ht (fun hn => absurd (by simpa [cnd] using (i32_le z0 ha).mp hn) hc) (fun _ => kk)
          | gt => exact lv_if_gt hx hb hd ht (fun hn => absurd (by simpa [cnd] using (i32_lt z0 ha).mp hn) hc) (fun _ => kk)
          | le => exact lv_if_le hx hb hd ht (fun hn => absurd (by simpa [cnd] using (i32_le ha z0).mp hn) hc) (fun _ => kk)
      · cases h
    · cases h
  | if_icmp cd off =>
    have e1 : len = 3 := eq_of_beq (show (len == 3) = true from hln)
    subst e1
    simp only [sx, br] at h
    split at h
    · rename_i b a r
      split at h
      · rename_i h0
        have hb2 : ir b := ok_h hst
        have ha : ir a := ok_h (ok_t hst)
        have ht : (pc : Int) + off = ((((pc : Int) + off).toNat : Nat) : Int) := by omega
        cases h
        have kk := K H locs ra hP hS hl
        by_cases hc : cnd cd a b = true
        · rw [if_pos hc] at kk
          cases cd with
          | eq => exact lv_icmp_eq hx hb hd ht (fun _ => kk) (fun hn => absurd ((i32_eq ha hb2).mpr (by simpa [cnd] using hc)) hn)
          | ne => exact lv_icmp_ne hx hb hd ht (fun _ => kk) (fun hn => absurd ((i32_eq ha hb2).mp hn) (by simpa [cnd] using hc))
          | lt => exact lv_icmp_lt hx hb hd ht (fun _ => kk) (fun hn => absurd ((i32_lt ha hb2).mpr (by simpa [cnd] using hc)) hn)
          | ge => exact lv_icmp_ge hx hb hd ht (fun _ => kk) (fun hn => absurd ((i32_le hb2 ha).mpr (by simpa [cnd] using hc)) hn)
          | gt => exact lv_icmp_gt hx hb hd ht (fun _ => kk) (fun hn => absurd ((i32_lt hb2 ha).mpr (by simpa [cnd] using hc)) hn)
          | le => exact lv_icmp_le hx hb hd ht (fun _ => kk) (fun hn => absurd ((i32_le ha hb2).mpr (by simpa [cnd] using hc)) hn)
        · rw [if_neg hc] at kk
          cases cd with
          | eq => exact lv_icmp_eq hx hb hd ht (fun hn => absurd (by simpa [cnd] using (i32_eq ha hb2).mp hn) hc) (fun _ => kk)
          | ne => exact lv_icmp_ne hx hb hd ht (fun hn => absurd (by simpa [cnd] using fun e => hn ((i32_eq ha hb2).mpr e)) hc) (fun _ => kk)
          | lt => exact lv_icmp_lt hx hb hd ht (fun hn => absurd (by simpa [cnd] using (i32_lt ha hb2).mp hn) hc) (fun _ => kk)
          | ge => exact lv_icmp_ge hx hb hd ht (fun hn => absurd (by simpa [cnd] using (i32_le hb2 ha).mp hn) hc) (fun _ => kk)
          | gt => exact lv_icmp_gt hx hb hd ht (fun hn => absurd (by simpa [cnd] using (i32_lt hb2 ha).mp hn) hc) (fun _ => kk)
          | le => exact lv_icmp_le hx hb hd ht (fun hn => absurd (by simpa [cnd] using (i32_le ha hb2).mp hn) hc) (fun _ => kk)
      · cases h
    · cases h
  | tableswitch dd lo hi offs =>
    simp only [sx] at h
    split at h
    · rename_i a r
      have ha : ir a := ok_h hst
      split at h
      · rename_i hc
        obtain ⟨ht, kk⟩ := k_jmp (st := r) hP hS hl h K
        exact lv_tableOut hx hb hd (by rw [i32_ti ha]; exact hc) ht kk
      · rename_i hc
        split at h
        · rename_i off ho
          obtain ⟨ht, kk⟩ := k_jmp (st := r) hP hS hl h K
          exact lv_tableIn hx hb hd (by rw [i32_ti ha]; omega) (by rw [i32_ti ha]; omega) (by rw [i32_ti ha]; exact ho) ht kk
        · cases h
    · cases h
  | getfield k =>
    have e1 : len = 3 := eq_of_beq (show (len == 3) = true from hln)
    subst e1
    simp only [sx] at h
    split at h
    · rename_i a r
      split at h
      · rename_i nst ci sl hf
        split at h
        · rename_i hc
          obtain ⟨f1, f2, f3, f4, f5, f6⟩ := fTab_facts hf
          have hci : ci < 13 := by
            have := (List.getElem?_eq_some_iff.mp f1).1
            exact this
          have hac : a < cNum := cK_lt (by omega)
          have he : (wl ad cA g)[a]? = some (ad a, .inr (ci, (List.range (fNm ci)).map (fun i => fV ad g ci a i))) := by rw [wl_get ad cA g hac, ent_o hc hci]
          have hv : ((List.range (fNm ci)).map (fun i => fV ad g ci a i))[sl]? = some (fV ad g ci a sl) := by
            have : sl < fNm ci := by omega
            simp [this]
          have kk : W p l e R s m args below meth c H locs cells slots Q (F0 m (pc + 3) ra (fV ad g ci a sl :: r.map (rv ad))) := by
            split at h
            · rename_i ht
              cases h
              have := K H locs ra hP hS hl
              simpa [fV, ht, rv] using this
            · rename_i ht
              cases h
              have := K H locs ra hP hS hl
              simpa [fV, ht, rv] using this
            · rename_i ht0 ht1
              cases h
              have := K H locs ra hP hS hl
              have e2 : fV ad g ci a sl = .ref (ad (cRef a sl)) := by
                unfold fV
                split
                · rename_i z; exact absurd z ht0
                · rename_i z; exact absurd z ht1
                · rfl
              rw [e2]
              exact this
          rcases f6 with ⟨-, f6⟩ | ⟨-, f6⟩
          · have hw := hts _ f6
            exact va_get (D := (dC, dI)) (ci := ci) (C := (clN ci).1) (T := (clN ci).2.1) (N := (clN ci).2.2) hx hb hts (inW hci) hown hK.1 hP a he f1 sl f2 hw (fun x hx' => by rw [f3] at hx'; exact hx') hv hd kk
          · have hw := va_Nw.use (A := args) (nestW_tab f6) (hK.2.2 _ f6)
            exact va_getN (D := (dC, dI)) (ci := ci) (C := (clN ci).1) (T := (clN ci).2.1) (N := (clN ci).2.2) hx hb hts (inW hci) hown hK.1 hP a he f1 sl f2 hw (fun x hx' => by rw [f3] at hx'; exact hx') hv hd kk
        · cases h
      · cases h
    · cases h
  | putfield k =>
    have e1 : len = 3 := eq_of_beq (show (len == 3) = true from hln)
    subst e1
    simp only [sx] at h
    have main : ∀ (a ci sl : Nat) (x : Int) (v : Value) (r : List SV), fTab q.1 k = some (0, ci, sl) → cK a = ci → fTy ci sl < 2 → fV ad (up g a sl x) ci a sl = v → narrow (fTyp (fTy ci sl)) v = v → fits (fTyp (fTy ci sl)) v = true → Kon p l e R s m args below meth c cells slots Q ad cA dC dI q.2.1 (pc + 3) ls r (up g a sl x) → W p l e R s m args below meth c H locs cells slots Q (F0 m pc ra (v :: .ref (ad a) :: r.map (rv ad))) := by
      intro a ci sl x v r hf hc hty hv hnar hfit K
      obtain ⟨f1, f2, f3, f4, f5, f6⟩ := fTab_facts hf
      have hci : ci < 13 := by
        have := (List.getElem?_eq_some_iff.mp f1).1
        exact this
      have hac : a < cNum := cK_lt (by omega)
      have he : (wl ad cA g)[a]? = some (ad a, .inr (ci, (List.range (fNm ci)).map (fun i => fV ad g ci a i))) := by rw [wl_get ad cA g hac, ent_o hc hci]
      rcases f5 with f5 | ⟨f5, f5b, -⟩
      · omega
      rcases f6 with ⟨-, f6⟩ | ⟨h01, -⟩
      · have hw := hts _ f6
        refine va_put (D := (dC, dI)) (ci := ci) (C := (clN ci).1) (T := (clN ci).2.1) (N := (clN ci).2.2) hx hb hts (inW hci) (clTy ci) (clTy_ok hci).1 (clTy_ok hci).2 hown hK.1 hP hD hS a he f1 sl f2 hw (fun x hx' => by rw [f3] at hx'; exact hx') f5b f5 hnar hfit (by simp; omega) hd (fun H1 locs1 hP1 _ hS1 => ?_)
        rw [wl_set (ent_put hc hci hv) (fun j hj i => by simp [up, hj])] at hP1
        exact K H1 locs1 ra hP1 hS1 hl
      · omega
    split at h
    · rename_i x a r
      split at h
      · rename_i ci sl hf
        split at h
        · rename_i hc
          cases h
          exact main a ci sl x (.int (Int32.ofInt x)) _ hf hc.1 (by omega) (by simp [fV, hc.2, up, rv]) (by rw [hc.2]; rfl) (by rw [hc.2]; rfl) K
        · cases h
      · cases h
    · rename_i x a r
      split at h
      · rename_i ci sl hf
        split at h
        · rename_i hc
          cases h
          exact main a ci sl x (.long (Int64.ofInt x)) _ hf hc.1 (by omega) (by simp [fV, hc.2, up, rv]) (by rw [hc.2]; rfl) (by rw [hc.2]; rfl) K
        · cases h
      · cases h
    · cases h
  | getstatic k =>
    have e1 : len = 3 := eq_of_beq (show (len == 3) = true from hln)
    subst e1
    simp only [sx] at h
    split at h
    · rename_i hc
      obtain ⟨hc1, rfl⟩ := hc
      cases h
      have hw := hts _ wNum
      rw [hc1] at hown
      exact va_gets (own := RX8) (ref := RX8) hx hb hZ.1 hS hown hw (fun x h => h) hd (K H locs ra hP hS hl)
    · cases h
  | arraylength =>
    have e1 : len = 1 := eq_of_beq (show (len == 1) = true from hln)
    subst e1
    simp only [sx] at h
    split at h
    · rename_i a r
      split at h
      · rename_i hc
        cases h
        have kk := K H locs ra hP hS hl
        by_cases h220' : a = 220
        · subst h220'
          refine va_slen hx hb hZ.2.2.1 hZ.2.2.2.1 hZ.2.2.2.2.1 hS hd ?_
          have e2 : Int32.ofInt (aLen 220 g : Nat) = Int32.ofNat (x0 100000).toNat := by
            rw [show aLen 220 g = (x0 100000).toNat by simp [aLen, h220], Int32.ofInt_eq_ofNat]
          have kk2 : W p l e R s m args below meth c H locs cells slots Q (F0 m (pc + 1) ra (.int (Int32.ofInt (aLen 220 g : Nat)) :: _)) := kk
          rw [e2] at kk2
          exact kk2
        · by_cases h210' : a = 210
          · subst h210'
            exact va_tlen hx hb hZ.2.1 hS rfl hd (by
              have kk2 : W p l e R s m args below meth c H locs cells slots Q (F0 m (pc + 1) ra (.int (Int32.ofInt (aLen 210 g : Nat)) :: _)) := kk
              exact kk2)
          · have hcc : cK a = 100 ∨ cK a = 101 := by
              rcases hc with hc | hc
              · simp only [isIA, Bool.or_eq_true, beq_iff_eq] at hc
                rcases hc with hc | hc | hc
                · exact Or.inl hc
                · exact absurd hc h210'
                · exact absurd hc h220'
              · exact Or.inr hc
            have hac : a < cNum := cK_lt (by omega)
            have e3 : aLen a g = cLn a := by simp [aLen, h220', h210']
            have kk2 : W p l e R s m args below meth c H locs cells slots Q (F0 m (pc + 1) ra (.int (Int32.ofInt (aLen a g : Nat)) :: _)) := kk
            rw [e3] at kk2
            rcases hcc with hcc | hcc
            · exact va_alen hx hb (shK_arr hK hac (by omega) (by rw [hcc]; rfl)) hP a 0 (ty := .int) (by rw [wl_get ad cA g hac, ent_i (Or.inl hcc)]) rfl (v := Int32.ofInt (cLn a : Nat)) (by show Int32.ofNat (cLn a) = _; rw [Int32.ofInt_eq_ofNat]) hd kk2
            · exact va_alen hx hb (shK_arr hK hac (by omega) (by rw [hcc]; rfl)) hP a 0 (ty := .long) (by rw [wl_get ad cA g hac, ent_l hcc]) rfl (v := Int32.ofInt (cLn a : Nat)) (by show Int32.ofNat (cLn a) = _; rw [Int32.ofInt_eq_ofNat]) hd kk2
      · cases h
    · cases h
  | iaload =>
    have e1 : len = 1 := eq_of_beq (show (len == 1) = true from hln)
    subst e1
    simp only [sx] at h
    split at h
    · rename_i i a r
      split at h
      · rename_i hc
        have hi : ir i := ok_h hst
        cases h
        have kk := K H locs ra hP hS hl
        have hc1 := hc.1
        simp only [isIA, Bool.or_eq_true, beq_iff_eq] at hc1
        rcases hc1 with hcc | rfl | rfl
        · have hac : a < cNum := cK_lt (by omega)
          have e3 : aLen a g = cLn a := by
            have h1 : a ≠ 220 := by unfold cNum at hac; omega
            have h2 : a ≠ 210 := by unfold cNum at hac; omega
            simp [aLen, h1, h2]
          refine va_iald hx hb (shK_arr hK hac (by omega) (by rw [hcc]; rfl)) hP a 0 (by rw [wl_get ad cA g hac, ent_i (Or.inl hcc)]) rfl (i32_in hi hc.2.1 (by have := hc.2.2; rw [e3] at this; exact this)) hd ?_
          rw [i32_cl hi, Int.toNat_of_nonneg hc.2.1]
          exact kk
        · refine va_ti hx hb hZ.2.1 hS (i32_in hi hc.2.1 hc.2.2) (v := .int (Int32.ofInt (g 210 i))) (by rw [i32_cl hi, h210, Int.toNat_of_nonneg hc.2.1]) hd ?_
          exact kk
        · refine va_sld hx hb hZ.2.2.1 hZ.2.2.2.1 hZ.2.2.2.2.1 hS (i32_in hi hc.2.1 (by have := hc.2.2; simpa [aLen, h220] using this)) hd ?_
          rw [i32_cl hi, Int.toNat_of_nonneg hc.2.1, ← h220]
          exact kk
      · cases h
    · cases h
  | iastore =>
    have e1 : len = 1 := eq_of_beq (show (len == 1) = true from hln)
    subst e1
    simp only [sx] at h
    split at h
    · rename_i x i a r
      split at h
      · rename_i hc
        have hi : ir i := ok_h (ok_t hst)
        cases h
        have hac : a < cNum := cK_lt (by omega)
        refine va_iast hx hb (shK_arr hK hac (by omega) (by rw [hc.1]; rfl)) hP hD hS a 0 (by rw [wl_get ad cA g hac, ent_i (Or.inl hc.1)]) rfl (i32_in hi hc.2.1 hc.2.2) hd (fun H1 locs1 hP1 _ hS1 => ?_)
        rw [← upd_32 hi hc.2.1, wl_set (g' := up g a i x) (ent_i (Or.inl hc.1)) (fun j hj i => by simp [up, hj])] at hP1
        exact K H1 locs1 ra hP1 hS1 hl
      · cases h
    · cases h
  | laload =>
    have e1 : len = 1 := eq_of_beq (show (len == 1) = true from hln)
    subst e1
    simp only [sx] at h
    split at h
    · rename_i i a r
      split at h
      · rename_i hc
        have hi : ir i := ok_h hst
        cases h
        have kk := K H locs ra hP hS hl
        have hac : a < cNum := cK_lt (by omega)
        refine va_lald hx hb (shK_arr hK hac (by omega) (by rw [hc.1]; rfl)) hP a 0 (by rw [wl_get ad cA g hac, ent_l hc.1]) rfl (i32_in hi hc.2.1 hc.2.2) hd ?_
        rw [i32_cl hi, Int.toNat_of_nonneg hc.2.1]
        exact kk
      · cases h
    · cases h
  | lastore =>
    have e1 : len = 1 := eq_of_beq (show (len == 1) = true from hln)
    subst e1
    simp only [sx] at h
    split at h
    · rename_i x i a r
      split at h
      · rename_i hc
        have hi : ir i := ok_h (ok_t hst)
        cases h
        have hac : a < cNum := cK_lt (by omega)
        refine va_last hx hb (shK_arr hK hac (by omega) (by rw [hc.1]; rfl)) hP hD hS a 0 (by rw [wl_get ad cA g hac, ent_l hc.1]) rfl (i32_in hi hc.2.1 hc.2.2) hd (fun H1 locs1 hP1 _ hS1 => ?_)
        rw [← upd_64 hi hc.2.1, wl_set (g' := up g a i x) (ent_l hc.1) (fun j hj i => by simp [up, hj])] at hP1
        exact K H1 locs1 ra hP1 hS1 hl
      · cases h
    · cases h
  | baload =>
    have e1 : len = 1 := eq_of_beq (show (len == 1) = true from hln)
    subst e1
    simp only [sx] at h
    split at h
    · rename_i i a r
      split at h
      · rename_i hc
        have hi : ir i := ok_h hst
        cases h
        have kk := K H locs ra hP hS hl
        have hac : a < cNum := cK_lt (by omega)
        refine va_zald hx hb (shK_arr hK hac (by omega) (by rw [hc.1]; rfl)) hP a 0 (by rw [wl_get ad cA g hac, ent_i (Or.inr hc.1)]) rfl (i32_in hi hc.2.1 hc.2.2) hd ?_
        rw [i32_cl hi, Int.toNat_of_nonneg hc.2.1]
        exact kk
      · cases h
    · cases h
  | bastore =>
    have e1 : len = 1 := eq_of_beq (show (len == 1) = true from hln)
    subst e1
    simp only [sx] at h
    split at h
    · rename_i x i a r
      split at h
      · rename_i hc
        have hi : ir i := ok_h (ok_t hst)
        cases h
        have hac : a < cNum := cK_lt (by omega)
        have hn : vp_nar .boolean (Int32.ofInt x) = Int32.ofInt x := by
          rcases hc.2.2.2 with rfl | rfl <;> decide
        refine va_zast hx hb (shK_arr hK hac (by omega) (by rw [hc.1]; rfl)) hP hD hS a 0 (by rw [wl_get ad cA g hac, ent_i (Or.inr hc.1)]) rfl (i32_in hi hc.2.1 hc.2.2.1) hd (fun H1 locs1 hP1 _ hS1 => ?_)
        rw [hn, ← upd_32 hi hc.2.1, wl_set (g' := up g a i x) (ent_i (Or.inr hc.1)) (fun j hj i => by simp [up, hj])] at hP1
        exact K H1 locs1 ra hP1 hS1 hl
      · cases h
    · cases h
  | aaload =>
    have e1 : len = 1 := eq_of_beq (show (len == 1) = true from hln)
    subst e1
    simp only [sx] at h
    split at h
    · rename_i i a r
      split at h
      · rename_i hc
        have hi : ir i := ok_h hst
        cases h
        have kk := K H locs ra hP hS hl
        have hac : a < cNum := cK_lt (by omega)
        rcases hc.1 with hcc | hcc
        · refine va_aldq hx hb (shK_arr hK hac (by omega) (by rw [hcc]; rfl)) hP a 0 (C := RX7) (by rw [wl_get ad cA g hac, ent_q (Or.inl hcc)]) rfl (i32_in hi hc.2.1 hc.2.2) hd ?_
          rw [i32_cl hi]
          exact kk
        · refine va_aldq hx hb (shK_arr hK hac (by omega) (by rw [hcc]; rfl)) hP a 0 (C := RX2) (by rw [wl_get ad cA g hac, ent_q (Or.inr hcc)]) rfl (i32_in hi hc.2.1 hc.2.2) hd ?_
          rw [i32_cl hi]
          exact kk
      · cases h
    · cases h
  | invokestatic k =>
    have e1 : len = 3 := eq_of_beq (show (len == 3) = true from hln)
    subst e1
    simp only [sx] at h
    split at h
    · rename_i n9 hct
      split at h
      · rename_i n dp dd sp ss r
        split at h
        · rename_i hc
          obtain ⟨⟨c1, c2⟩, ⟨c3, c4, c5⟩, c6, c7, c8⟩ := hc
          have hn : ir n := ok_h hst
          have hdp : ir dp := ok_h (ok_t hst)
          have hsp : ir sp := ok_h (ok_t (ok_t (ok_t hst)))
          cases h
          have has : ss < cNum := cK_lt (by omega)
          have hac : dd < cNum := cK_lt (by omega)
          have hw := hts _ (ac_link hct)
          have hw2 := hts _ wAcN
          have hw3 := hts _ wAcS
          have hw4 := hts _ wAcI
          have hK2 : va_K (dC, dI) vwCl [(cA ss, .int), (cA dd, .int)] s := by
            have k1 := shK_arr hK has (by omega) (show aTy (cK ss) = .int by rw [c1]; rfl)
            have k2 := shK_arr hK hac (by omega) (show aTy (cK dd) = .int by rw [c2]; rfl)
            exact k1.app k2
          refine va_copyi hx hb (by rw [hml]; exact hl.1.symm) hown hw hw2 hw3 hw4 hK2 hP hD hS ss dd 0 1 (ty := .int) (by rw [wl_get ad cA g has, ent_i (Or.inl c1)]) (by rw [wl_get ad cA g hac, ent_i (Or.inl c2)]) rfl rfl rfl (i32_nn hsp c3) (i32_nn hdp c4) (i32_nn hn c5) (by rw [i32_cl hsp, i32_cl hn]; omega) (by rw [i32_cl hdp, i32_cl hn]; omega) (fun _ _ => rfl) (by omega) (by
              have e5 : ((st'.map (rv ad)).map fun v => v.category).sum = (st'.map cat).sum := rv_sum st'
              rw [e5]
              have : nativeFrameWords "java/lang/System" "arraycopy" 5 = 7 := by decide
              rw [this]; omega) hd (fun H1 locs1 hP1 _ hS1 => ?_)
          rw [i32_cl hsp, i32_cl hdp, i32_cl hn] at hP1
          have e6 : ent ad cA (cpy g ss sp dd dp n) dd = .inl (cA dd, cLn dd, .inl (va_cpy (fun i => Int32.ofInt (g ss i)) (fun i => Int32.ofInt (g dd i)) sp.toNat dp.toNat n.toNat)) := by
            rw [ent_i (Or.inl c2)]
            congr 3
            congr 1
            funext j
            by_cases hj : dp.toNat ≤ j ∧ j < dp.toNat + n.toNat
            · simp only [cpy, va_cpy]
              rw [if_pos ⟨trivial, by omega, by omega⟩, if_pos hj]
              congr 2
              omega
            · simp only [cpy, va_cpy]
              rw [if_neg (fun h => hj ⟨by have := h.2.1; omega, by have := h.2.2; omega⟩), if_neg hj]
          rw [wl_set (g' := cpy g ss sp dd dp n) e6 (fun j hj i => by simp [cpy, hj])] at hP1
          exact K H1 locs1 ra hP1 hS1 hl
        · cases h
      · cases h
    · cases h
  | invokevirtual k =>
    have e1 : len = 3 := eq_of_beq (show (len == 3) = true from hln)
    subst e1
    simp only [sx] at h
    split at h
    · rename_i n9 hct
      split at h
      · rename_i a r
        split at h
        · rename_i hc
          cases h
          exact hSL p l e R s m args below meth c H locs cells slots Q _ _ pc ra _ q.1 k n9 a hx hb hml hown hts (by omega) (by omega) hce hsl hZ.2.2.2.2.2.2 hS hl.1 hct hc.1 hc.2.1 (by rw [rv_sum]; exact hc.2.2) hd (K H locs ra hP hS hl)
        · cases h
      · cases h
    · rename_i n9 hct
      split at h
      · rename_i i a r
        split at h
        · rename_i hc
          cases h
          exact hSA p l e R s m args below meth c H locs cells slots Q _ _ pc ra _ q.1 k n9 a i hx hb hml hown hts (by omega) (by omega) hce hsl hZ.2.2.2.2.2.2 hS hl.1 hct hc.1 hc.2.1 hc.2.2.1 hc.2.2.2.1 (by rw [rv_sum]; exact hc.2.2.2.2) hd (K H locs ra hP hS hl)
        · cases h
      · cases h
    · cases h
  | _ => simp [sx] at h
end SY
