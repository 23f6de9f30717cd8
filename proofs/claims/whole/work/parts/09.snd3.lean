section SY
variable {p : Program} {l : Launch} {e : Env} {R : Room} {s : State} {m : MethodId} {args : Array Value} {below : List Frame} {meth : Method} {c : Code} {H : Heap} {locs : List Loc} {cells slots : Nat} {Q : State → Prop}
variable {ad : Nat → Nat} {cA dC : Nat → ClassId} {dI : Nat → Nat → Nat} {n0 x0 : Nat → Int} {Sx : State → Prop} {q : MI} {d pc : Nat} {ls st ls' st' : List SV} {g g' : Hp} {pc' : Nat} {ra : Array Slot} {ins : ClassFile.Instr} {len : Nat}
theorem i8_c {n : Int} (h : -128 ≤ n ∧ n < 128) : (Int8.ofInt n).toInt32 = Int32.ofInt n := by
  rw [← Int32.toInt_inj, i32_ti ⟨by omega, by omega⟩, Int8.toInt_toInt32, Int8.toInt_ofInt_of_le (by omega) (by omega)]
theorem i16_c {n : Int} (h : -32768 ≤ n ∧ n < 32768) : (Int16.ofInt n).toInt32 = Int32.ofInt n := by
  rw [← Int32.toInt_inj, i32_ti ⟨by omega, by omega⟩, Int16.toInt_toInt32, Int16.toInt_ofInt_of_le (by omega) (by omega)]
theorem i2l_c {x : Int} (h : ir x) : (Int32.ofInt x).toInt64 = Int64.ofInt x := by
  rw [← Int64.toInt_inj, Int32.toInt_toInt64, i32_ti h, i64_ti ⟨by have := h.1; omega, by have := h.2; omega⟩]
theorem l2i_c {x : Int} (h : lr x) : (Int64.ofInt x).toInt32 = Int32.ofInt (w32 x) := by
  rw [w32, o32]
  exact Int64.toInt32_ofInt
theorem lcmp_c {a b : Int} (ha : lr a) (hb : lr b) : lg_cmp (Int64.ofInt a) (Int64.ofInt b) = Int32.ofInt (lCmp a b) := by
  unfold lg_cmp lCmp
  by_cases h1 : b < a
  · rw [if_pos h1, if_pos ((i64_lt hb ha).mpr h1)]; decide
  · rw [if_neg h1, if_neg (fun h => h1 ((i64_lt hb ha).mp h))]
    by_cases h2 : a = b
    · rw [if_pos h2, if_pos ((i64_eq ha hb).mpr h2)]; decide
    · rw [if_neg h2, if_neg (fun h => h2 ((i64_eq ha hb).mp h))]; decide
theorem bnot {b : Bool} (h : ¬ b = true) : b = false := by cases b <;> simp_all
theorem rv_cat {v : SV} (h : cat v = 1) : (rv ad v).category = 1 := by
  rcases v with x | x | x | x
  · rfl
  · simp [cat] at h
  · rfl
  · rfl
theorem rv_sum (r : List SV) : ((r.map (rv ad)).map fun v => v.category).sum = (r.map cat).sum := by
  induction r with
  | nil => rfl
  | cons v r ih =>
    simp only [List.map_cons, List.sum_cons, ih]
    congr 1
    rcases v with x | x | x | x <;> rfl
theorem gTab_mem {ow k a : Nat} (h : gTab ow k = some a) : (ow, k, a) ∈ gTb := by
  unfold gTab at h
  cases hf : gTb.find? (fun q => q.1 == ow && q.2.1 == k) with
  | none => rw [hf] at h; cases h
  | some z =>
    rw [hf] at h
    obtain ⟨x, y, w⟩ := z
    have hp := List.find?_some hf
    simp only [Option.map_some, Option.some.injEq] at h
    subst h
    simp only [Bool.and_eq_true, beq_iff_eq] at hp
    obtain ⟨rfl, rfl⟩ := hp
    exact List.mem_of_find?_eq_some hf
theorem iinc_less {k : Nat} {x y : Int} (hl : lv_has ra q.2.1 (lvl ad ls)) (hk : ls[k]? = some (.inl x)) : ∀ z ∈ lvl ad (ls.set k (.inl y)), z ∈ (k, Value.int (Int32.ofInt y)) :: (lvl ad ls).filter (fun q => !(q.1 == k) && !(q.1 + 1 == k && q.2.category == 2)) := by
  rintro ⟨j, w⟩ hq
  obtain ⟨u, h1, h2, rfl⟩ := lvl_mem.mp hq
  by_cases hjk : j = k
  · subst hjk
    rw [List.getElem?_set_self (List.getElem?_eq_some_iff.mp hk).1] at h1
    cases h1
    exact List.mem_cons_self
  · rw [List.getElem?_set_ne (fun e => hjk e.symm)] at h1
    refine List.mem_cons_of_mem _ (List.mem_filter.mpr ⟨lvl_mem.mpr ⟨u, h1, h2, rfl⟩, ?_⟩)
    simp only [Bool.and_eq_true, Bool.not_eq_true', beq_eq_false_iff_ne, ne_eq, Bool.and_eq_false_iff]
    refine ⟨hjk, ?_⟩
    by_cases e1 : j + 1 = k
    · right
      intro e2
      have hw := hl.2.1.1 j _ (lvl_at hl h1 h2) e2
      have hw2 := lvl_at hl hk rfl
      rw [e1, hw2] at hw
      cases hw
    · exact Or.inl e1
set_option maxHeartbeats 8000000 in
theorem snd_sx (hinj : ∀ i j, i < cNum → j < cNum → ad i = ad j → i = j) (hSL : StrLen ad Sx) (hSA : StrAt ad Sx) (hF : FrC p R s m args c q d cells slots) (hK : ShK cA dC dI s) (hZ : ShF ad n0 x0 Sx s) (hP : va_P (dC, dI) vwCl (wl ad cA g) H) (hg : okH g) (h210 : g 210 = n0) (h220 : g 220 = x0) (hS : va_S (ShA ad) s.heap H locs) (hl : lv_has ra q.2.1 (lvl ad ls)) (hll : ls.length = q.2.1) (hls : ∀ v ∈ ls, okV v) (hst : ∀ v ∈ st, okV v)
    (hd : decode q.2.2.2.1 pc = .ok (ins, len)) (hln : lnOk ins len = true) (h : sx q.1 pc ls st g ins = some (pc', ls', st', g')) (K : Kon p l e R s m args below meth c cells slots Q ad cA dC dI q.2.1 pc' ls' st' g') : W p l e R s m args below meth c H locs cells slots Q (F0 m pc ra (st.map (rv ad))) := by
  obtain ⟨hx, hb, hml, hown, hts, hfr, hlo, hce, hsl⟩ := hF
  have hD := wl_D cA g hinj
  cases ins with
  | iconst n =>
    have e1 : len = 1 := eq_of_beq (show (len == 1) = true from hln)
    subst e1
    simp only [sx] at h
    split at h
    · cases h; exact lv_iconst hx hb hd rfl (K H locs ra hP hS hl)
    · cases h
  | bipush n =>
    have e1 : len = 2 := eq_of_beq (show (len == 2) = true from hln)
    subst e1
    simp only [sx] at h
    split at h
    · rename_i hn; cases h; exact lv_bipush hx hb hd (i8_c hn) (K H locs ra hP hS hl)
    · cases h
  | sipush n =>
    have e1 : len = 3 := eq_of_beq (show (len == 3) = true from hln)
    subst e1
    simp only [sx] at h
    split at h
    · rename_i hn; cases h; exact lv_sipush hx hb hd (i16_c hn) (K H locs ra hP hS hl)
    · cases h
  | lconst n =>
    have e1 : len = 1 := eq_of_beq (show (len == 1) = true from hln)
    subst e1
    simp only [sx] at h
    cases h
    exact lv_lconst hx hb hd (v := Int64.ofInt ((n : Nat) : Int)) (by rw [Int64.ofInt_eq_ofNat]) (K H locs ra hP hS hl)
  | ldc k =>
    have e1 : len = 2 := eq_of_beq (show (len == 2) = true from hln)
    subst e1
    simp only [sx] at h
    split at h
    · rename_i x hk
      cases h
      have hw := hts _ (kTab_facts hk).1
      exact lv_ldc hx hb hown hw hd (K H locs ra hP hS hl)
    · split at h
      · rename_i a ha
        cases h
        have hw := hZ.2.2.2.2.2.1 _ (gTab_mem ha)
        exact va_ldcS hx hb hown hw hd (K H locs ra hP hS hl)
      · cases h
  | ldc_w k =>
    have e1 : len = 3 := eq_of_beq (show (len == 3) = true from hln)
    subst e1
    simp only [sx] at h
    split at h
    · rename_i x hk
      cases h
      have hw := hts _ (kTab_facts hk).1
      exact lv_ldcw hx hb hown hw hd (K H locs ra hP hS hl)
    · cases h
  | ldc2_w k =>
    have e1 : len = 3 := eq_of_beq (show (len == 3) = true from hln)
    subst e1
    simp only [sx] at h
    split at h
    · rename_i x hk
      cases h
      have hw := hts _ (lTab_facts hk).1
      exact lv_ldc2 hx hb hown hw hd (K H locs ra hP hS hl)
    · cases h
  | iload_n k =>
    have e1 : len = 1 := eq_of_beq (show (len == 1) = true from hln)
    subst e1
    exact k_ldI hx hb hP hS hl (fun x hx' kk => lv_iload_n hx hb hd rfl hx' kk) h K
  | iload k =>
    have e1 : len = 2 := eq_of_beq (show (len == 2) = true from hln)
    subst e1
    exact k_ldI hx hb hP hS hl (fun x hx' kk => lv_iload hx hb hd hx' kk) h K
  | lload_n k =>
    have e1 : len = 1 := eq_of_beq (show (len == 1) = true from hln)
    subst e1
    exact k_ldL hx hb hP hS hl (fun x hx' kk => lv_lload_n hx hb hd rfl hx' kk) h K
  | lload k =>
    have e1 : len = 2 := eq_of_beq (show (len == 2) = true from hln)
    subst e1
    exact k_ldL hx hb hP hS hl (fun x hx' kk => lv_lload hx hb hd hx' kk) h K
  | aload_n k =>
    have e1 : len = 1 := eq_of_beq (show (len == 1) = true from hln)
    subst e1
    exact k_ldR hx hb hP hS hl (fun x hx' kk => lv_aload_n hx hb hd rfl hx' kk) h K
  | aload k =>
    have e1 : len = 2 := eq_of_beq (show (len == 2) = true from hln)
    subst e1
    exact k_ldR hx hb hP hS hl (fun x hx' kk => lv_aload hx hb hd hx' kk) h K
  | istore_n k =>
    have e1 : len = 1 := eq_of_beq (show (len == 1) = true from hln)
    subst e1
    exact k_soI hP hS hl hll (fun x rest hn kk => lv_istore_n hx hb hd rfl hl hn rfl kk) h K
  | istore k =>
    have e1 : len = 2 := eq_of_beq (show (len == 2) = true from hln)
    subst e1
    exact k_soI hP hS hl hll (fun x rest hn kk => lv_istore hx hb hd hl hn rfl kk) h K
  | lstore_n k =>
    have e1 : len = 1 := eq_of_beq (show (len == 1) = true from hln)
    subst e1
    exact k_soL hP hS hl hll (fun x rest hn kk => lv_lstore_n hx hb hd rfl hl hn rfl kk) h K
  | lstore k =>
    have e1 : len = 2 := eq_of_beq (show (len == 2) = true from hln)
    subst e1
    exact k_soL hP hS hl hll (fun x rest hn kk => lv_lstore hx hb hd hl hn rfl kk) h K
  | iinc k n =>
    have e1 : len = 3 := eq_of_beq (show (len == 3) = true from hln)
    subst e1
    simp only [sx] at h
    split at h
    · rename_i x hk
      cases h
      have hm : (k, Value.int (Int32.ofInt x)) ∈ lvl ad ls := lvl_mem.mpr ⟨_, hk, rfl, rfl⟩
      obtain ⟨j, hj⟩ := List.getElem?_of_mem hm
      exact lv_iinc hx hb hd hl hj (v := Int32.ofInt (w32 (x + n))) (by rw [i32_add]) (by have := (List.getElem?_eq_some_iff.mp hk).1; omega) rfl (fun ra' hl' => K H locs ra' hP hS (lv_less hl' (iinc_less hl hk)))
    · cases h
  | iadd =>
    have e1 : len = 1 := eq_of_beq (show (len == 1) = true from hln)
    subst e1
    exact k_bi (f := fun a b => w32 (a + b)) (F := fun x y => x + y) (fun a b => i32_add a b) hP hS hl (fun x y rest kk => lv_iadd hx hb hd kk) h K
  | isub =>
    have e1 : len = 1 := eq_of_beq (show (len == 1) = true from hln)
    subst e1
    exact k_bi (f := fun a b => w32 (a - b)) (F := fun x y => x - y) (fun a b => i32_sub a b) hP hS hl (fun x y rest kk => lv_isub hx hb hd kk) h K
  | imul =>
    have e1 : len = 1 := eq_of_beq (show (len == 1) = true from hln)
    subst e1
    exact k_bi (f := fun a b => w32 (a * b)) (F := fun x y => x * y) (fun a b => i32_mul a b) hP hS hl (fun x y rest kk => lv_imul hx hb hd kk) h K
  | iand =>
    have e1 : len = 1 := eq_of_beq (show (len == 1) = true from hln)
    subst e1
    exact k_bi (f := bAnd) (F := fun x y => x &&& y) (fun a b => (o32 _).symm) hP hS hl (fun x y rest kk => lv_iand hx hb hd kk) h K
  | ior =>
    have e1 : len = 1 := eq_of_beq (show (len == 1) = true from hln)
    subst e1
    exact k_bi (f := bOr) (F := fun x y => x ||| y) (fun a b => (o32 _).symm) hP hS hl (fun x y rest kk => lv_ior hx hb hd kk) h K
  | ixor =>
    have e1 : len = 1 := eq_of_beq (show (len == 1) = true from hln)
    subst e1
    exact k_bi (f := bXor) (F := fun x y => x ^^^ y) (fun a b => (o32 _).symm) hP hS hl (fun x y rest kk => lv_ixor hx hb hd kk) h K
  | ishl =>
    have e1 : len = 1 := eq_of_beq (show (len == 1) = true from hln)
    subst e1
    exact k_bi (f := bShl) (F := fun x y => x <<< (y &&& 31)) (fun a b => (o32 _).symm) hP hS hl (fun x y rest kk => lv_ishl hx hb hd kk) h K
  | ishr =>
    have e1 : len = 1 := eq_of_beq (show (len == 1) = true from hln)
    subst e1
    exact k_bi (f := bShr) (F := fun x y => x >>> (y &&& 31)) (fun a b => (o32 _).symm) hP hS hl (fun x y rest kk => lv_ishr hx hb hd kk) h K
  | iushr =>
    have e1 : len = 1 := eq_of_beq (show (len == 1) = true from hln)
    subst e1
    exact k_bi (f := bUsh) (F := fun x y => (x.toUInt32 >>> (y.toUInt32 &&& Int32.toUInt32 31)).toInt32) (fun a b => (o32 _).symm) hP hS hl (fun x y rest kk => lv_iushr hx hb hd rfl kk) h K
  | idiv =>
    have e1 : len = 1 := eq_of_beq (show (len == 1) = true from hln)
    subst e1
    simp only [sx] at h
    split at h
    · split at h
      · rename_i b a r hc
        cases h
        have hb2 : ir b := ok_h hst
        have ha2 : ir a := ok_h (ok_t hst)
        refine lv_idiv hx hb hd (fun e => ?_) ?_
        · have := (i32_eq hb2 (show ir 0 by decide)).mp e
          omega
        · rw [i32_div ha2 hb2 hc.1 hc.2]
          exact K H locs ra hP hS hl
      · cases h
    · cases h
  | irem =>
    have e1 : len = 1 := eq_of_beq (show (len == 1) = true from hln)
    subst e1
    simp only [sx] at h
    split at h
    · split at h
      · rename_i b a r hc
        cases h
        have hb2 : ir b := ok_h hst
        have ha2 : ir a := ok_h (ok_t hst)
        refine lv_irem hx hb hd (fun e => ?_) ?_
        · have := (i32_eq hb2 (show ir 0 by decide)).mp e
          omega
        · rw [i32_rem ha2 hb2 hc.1 hc.2]
          exact K H locs ra hP hS hl
      · cases h
    · cases h
  | ineg =>
    have e1 : len = 1 := eq_of_beq (show (len == 1) = true from hln)
    subst e1
    simp only [sx] at h
    split at h
    · rename_i a r
      cases h
      refine lv_ineg hx hb hd ?_
      rw [show -Int32.ofInt a = Int32.ofInt (w32 (-a)) by rw [w32, o32, Int32.ofInt_neg]]
      exact K H locs ra hP hS hl
    · cases h
  | ladd =>
    have e1 : len = 1 := eq_of_beq (show (len == 1) = true from hln)
    subst e1
    exact k_bl (f := fun a b => w64 (a + b)) (F := fun x y => x + y) (fun a b => i64_add a b) hP hS hl (fun x y rest kk => lv_ladd hx hb hd kk) h K
  | lsub =>
    have e1 : len = 1 := eq_of_beq (show (len == 1) = true from hln)
    subst e1
    exact k_bl (f := fun a b => w64 (a - b)) (F := fun x y => x - y) (fun a b => i64_sub a b) hP hS hl (fun x y rest kk => lv_lsub hx hb hd kk) h K
  | lmul =>
    have e1 : len = 1 := eq_of_beq (show (len == 1) = true from hln)
    subst e1
    exact k_bl (f := fun a b => w64 (a * b)) (F := fun x y => x * y) (fun a b => i64_mul a b) hP hS hl (fun x y rest kk => lv_lmul hx hb hd kk) h K
  | land =>
    have e1 : len = 1 := eq_of_beq (show (len == 1) = true from hln)
    subst e1
    exact k_bl (f := lAnd) (F := fun x y => x &&& y) (fun a b => (o64 _).symm) hP hS hl (fun x y rest kk => lv_land hx hb hd kk) h K
  | lor =>
    have e1 : len = 1 := eq_of_beq (show (len == 1) = true from hln)
    subst e1
    exact k_bl (f := lOr) (F := fun x y => x ||| y) (fun a b => (o64 _).symm) hP hS hl (fun x y rest kk => lv_lor hx hb hd kk) h K
  | lshl =>
    have e1 : len = 1 := eq_of_beq (show (len == 1) = true from hln)
    subst e1
    exact k_bs (f := lShl) (F := fun x y => x <<< (y.toInt64 &&& 63)) (fun a b => (o64 _).symm) hP hS hl (fun x y rest kk => lv_lshl hx hb hd rfl kk) h K
  | lshr =>
    have e1 : len = 1 := eq_of_beq (show (len == 1) = true from hln)
    subst e1
    exact k_bs (f := lShr) (F := fun x y => x >>> (y.toInt64 &&& 63)) (fun a b => (o64 _).symm) hP hS hl (fun x y rest kk => lv_lshr hx hb hd rfl kk) h K
  | lushr =>
    have e1 : len = 1 := eq_of_beq (show (len == 1) = true from hln)
    subst e1
    exact k_bs (f := lUsh) (F := fun x y => (x.toUInt64 >>> (y.toInt64.toUInt64 &&& Int64.toUInt64 63)).toInt64) (fun a b => (o64 _).symm) hP hS hl (fun x y rest kk => lv_lushr hx hb hd rfl kk) h K
  | lcmp =>
    have e1 : len = 1 := eq_of_beq (show (len == 1) = true from hln)
    subst e1
    simp only [sx] at h
    split at h
    · rename_i b a r
      cases h
      refine W.lcmp hx hb hd ?_
      rw [lcmp_c (ok_h (ok_t hst)) (ok_h hst)]
      exact K H locs ra hP hS hl
    · cases h
  | i2l =>
    have e1 : len = 1 := eq_of_beq (show (len == 1) = true from hln)
    subst e1
    simp only [sx] at h
    split at h
    · rename_i a r
      cases h
      exact lv_i2l hx hb hd (i2l_c (ok_h hst)) (K H locs ra hP hS hl)
    · cases h
  | l2i =>
    have e1 : len = 1 := eq_of_beq (show (len == 1) = true from hln)
    subst e1
    simp only [sx] at h
    split at h
    · rename_i a r
      cases h
      exact lv_l2i hx hb hd (l2i_c (ok_h hst)) (K H locs ra hP hS hl)
    · cases h
  | dup =>
    have e1 : len = 1 := eq_of_beq (show (len == 1) = true from hln)
    subst e1
    simp only [sx] at h
    split at h
    · split at h
      · rename_i v r hc
        cases h
        exact lv_dup hx hb hd (rv_cat hc) (K H locs ra hP hS hl)
      · cases h
    · cases h
  | pop =>
    have e1 : len = 1 := eq_of_beq (show (len == 1) = true from hln)
    subst e1
    simp only [sx] at h
    split at h
    · split at h
      · rename_i v r hc
        cases h
        exact lv_pop hx hb hd (rv_cat hc) (K H locs ra hP hS hl)
      · cases h
    · cases h
  | dup_x1 =>
    have e1 : len = 1 := eq_of_beq (show (len == 1) = true from hln)
    subst e1
    simp only [sx] at h
    split at h
    · split at h
      · rename_i v w r hc
        cases h
        exact lv_dup_x1 hx hb hd (rv_cat hc.1) (rv_cat hc.2) (K H locs ra hP hS hl)
      · cases h
    · cases h
  | dup2 =>
    have e1 : len = 1 := eq_of_beq (show (len == 1) = true from hln)
    subst e1
    simp only [sx] at h
    split at h
    · split at h
      · rename_i v w r hc
        cases h
        exact lv_dup2_11 hx hb hd (rv_cat hc.1) (rv_cat hc.2) (K H locs ra hP hS hl)
      · cases h
    · cases h
  | goto off =>
    have e1 : len = 3 := eq_of_beq (show (len == 3) = true from hln)
    subst e1
    obtain ⟨ht, kk⟩ := k_jmp hP hS hl h K
    exact lv_goto hx hb hd ht kk
  | _ => sorry
end SY
