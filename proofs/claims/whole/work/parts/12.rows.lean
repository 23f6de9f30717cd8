/-! one row an instruction: EV here is EV there -/
section RW
variable {d : Nat} {q : MI} {pc : Nat} {ls st : List SV} {g : Hp}
theorem ev_iconst {n : Int} (hd : decode q.2.2.2.1 pc = .ok (.iconst n, 1)) (h : ir n) : EV d q pc ls st g = EV d q (pc + 1) ls (vI n :: st) g := ev_sx hd rfl rfl rfl (by simp only [sx]; rw [if_pos h])
theorem ev_bipush {n : Int} (hd : decode q.2.2.2.1 pc = .ok (.bipush n, 2)) (h : -128 ≤ n ∧ n < 128) : EV d q pc ls st g = EV d q (pc + 2) ls (vI n :: st) g := ev_sx hd rfl rfl rfl (by simp only [sx]; rw [if_pos h])
theorem ev_sipush {n : Int} (hd : decode q.2.2.2.1 pc = .ok (.sipush n, 3)) (h : -32768 ≤ n ∧ n < 32768) : EV d q pc ls st g = EV d q (pc + 3) ls (vI n :: st) g := ev_sx hd rfl rfl rfl (by simp only [sx]; rw [if_pos h])
theorem ev_lconst {n : Fin 2} {x : Int} (hd : decode q.2.2.2.1 pc = .ok (.lconst n, 1)) (h : ((n : Nat) : Int) = x) : EV d q pc ls st g = EV d q (pc + 1) ls (vL x :: st) g := by subst h; exact ev_sx hd rfl rfl rfl rfl
theorem ev_ldc {k : Nat} {x : Int} (hd : decode q.2.2.2.1 pc = .ok (.ldc k, 2)) (h : kTab q.1 k = some x) : EV d q pc ls st g = EV d q (pc + 2) ls (vI x :: st) g := ev_sx hd rfl rfl rfl (by simp only [sx, h])
theorem ev_ldcS {k a : Nat} (hd : decode q.2.2.2.1 pc = .ok (.ldc k, 2)) (h0 : kTab q.1 k = none) (h : gTab q.1 k = some a) : EV d q pc ls st g = EV d q (pc + 2) ls (vR a :: st) g := ev_sx hd rfl rfl rfl (by simp only [sx, h0, h])
theorem ev_ldcw {k : Nat} {x : Int} (hd : decode q.2.2.2.1 pc = .ok (.ldc_w k, 3)) (h : kTab q.1 k = some x) : EV d q pc ls st g = EV d q (pc + 3) ls (vI x :: st) g := ev_sx hd rfl rfl rfl (by simp only [sx, h])
theorem ev_ldc2 {k : Nat} {x : Int} (hd : decode q.2.2.2.1 pc = .ok (.ldc2_w k, 3)) (h : lTab q.1 k = some x) : EV d q pc ls st g = EV d q (pc + 3) ls (vL x :: st) g := ev_sx hd rfl rfl rfl (by simp only [sx, h])
theorem ev_iload_n {k : Fin 4} {x : Int} (hd : decode q.2.2.2.1 pc = .ok (.iload_n k, 1)) (h : ls[(k : Nat)]? = some (vI x)) : EV d q pc ls st g = EV d q (pc + 1) ls (vI x :: st) g := ev_sx hd rfl rfl rfl (by simp only [sx, ldI, h])
theorem ev_iload {k : Nat} {x : Int} (hd : decode q.2.2.2.1 pc = .ok (.iload k, 2)) (h : ls[k]? = some (vI x)) : EV d q pc ls st g = EV d q (pc + 2) ls (vI x :: st) g := ev_sx hd rfl rfl rfl (by simp only [sx, ldI, h])
theorem ev_lload_n {k : Fin 4} {x : Int} (hd : decode q.2.2.2.1 pc = .ok (.lload_n k, 1)) (h : ls[(k : Nat)]? = some (vL x)) : EV d q pc ls st g = EV d q (pc + 1) ls (vL x :: st) g := ev_sx hd rfl rfl rfl (by simp only [sx, ldL, h])
theorem ev_lload {k : Nat} {x : Int} (hd : decode q.2.2.2.1 pc = .ok (.lload k, 2)) (h : ls[k]? = some (vL x)) : EV d q pc ls st g = EV d q (pc + 2) ls (vL x :: st) g := ev_sx hd rfl rfl rfl (by simp only [sx, ldL, h])
theorem ev_aload_n {k : Fin 4} {a : Nat} (hd : decode q.2.2.2.1 pc = .ok (.aload_n k, 1)) (h : ls[(k : Nat)]? = some (vR a)) : EV d q pc ls st g = EV d q (pc + 1) ls (vR a :: st) g := ev_sx hd rfl rfl rfl (by simp only [sx, ldR, h])
theorem ev_aload {k : Nat} {a : Nat} (hd : decode q.2.2.2.1 pc = .ok (.aload k, 2)) (h : ls[k]? = some (vR a)) : EV d q pc ls st g = EV d q (pc + 2) ls (vR a :: st) g := ev_sx hd rfl rfl rfl (by simp only [sx, ldR, h])
theorem ev_istore_n {k : Fin 4} {x : Int} {ls' : List SV} (hd : decode q.2.2.2.1 pc = .ok (.istore_n k, 1)) (h : (k : Nat) < ls.length) (hl : st1 ls k (vI x) = ls') : EV d q pc ls (vI x :: st) g = EV d q (pc + 1) ls' st g := by subst hl; exact ev_sx hd rfl rfl rfl (by simp only [sx, soI]; rw [if_pos h])
theorem ev_istore {k : Nat} {x : Int} {ls' : List SV} (hd : decode q.2.2.2.1 pc = .ok (.istore k, 2)) (h : k < ls.length) (hl : st1 ls k (vI x) = ls') : EV d q pc ls (vI x :: st) g = EV d q (pc + 2) ls' st g := by subst hl; exact ev_sx hd rfl rfl rfl (by simp only [sx, soI]; rw [if_pos h])
theorem ev_lstore_n {k : Fin 4} {x : Int} {ls' : List SV} (hd : decode q.2.2.2.1 pc = .ok (.lstore_n k, 1)) (h : (k : Nat) + 1 < ls.length) (hl : st2 ls k (vL x) = ls') : EV d q pc ls (vL x :: st) g = EV d q (pc + 1) ls' st g := by subst hl; exact ev_sx hd rfl rfl rfl (by simp only [sx, soL]; rw [if_pos h])
theorem ev_lstore {k : Nat} {x : Int} {ls' : List SV} (hd : decode q.2.2.2.1 pc = .ok (.lstore k, 2)) (h : k + 1 < ls.length) (hl : st2 ls k (vL x) = ls') : EV d q pc ls (vL x :: st) g = EV d q (pc + 2) ls' st g := by subst hl; exact ev_sx hd rfl rfl rfl (by simp only [sx, soL]; rw [if_pos h])
theorem ev_iinc {k : Nat} {n x : Int} {ls' : List SV} (hd : decode q.2.2.2.1 pc = .ok (.iinc k n, 3)) (h : ls[k]? = some (vI x)) (hr : ir (x + n)) (hl : ls.set k (vI (x + n)) = ls') : EV d q pc ls st g = EV d q (pc + 3) ls' st g := by subst hl; exact ev_sx hd rfl rfl rfl (by simp only [sx, h, w32_id hr])
theorem ev_iadd {a b : Int} (hd : decode q.2.2.2.1 pc = .ok (.iadd, 1)) (hr : ir (a + b)) : EV d q pc ls (vI b :: vI a :: st) g = EV d q (pc + 1) ls (vI (a + b) :: st) g := ev_sx hd rfl rfl rfl (by simp only [sx, bi, w32_id hr])
theorem ev_isub {a b : Int} (hd : decode q.2.2.2.1 pc = .ok (.isub, 1)) (hr : ir (a - b)) : EV d q pc ls (vI b :: vI a :: st) g = EV d q (pc + 1) ls (vI (a - b) :: st) g := ev_sx hd rfl rfl rfl (by simp only [sx, bi, w32_id hr])
theorem ev_imul {a b : Int} (hd : decode q.2.2.2.1 pc = .ok (.imul, 1)) (hr : ir (a * b)) : EV d q pc ls (vI b :: vI a :: st) g = EV d q (pc + 1) ls (vI (a * b) :: st) g := ev_sx hd rfl rfl rfl (by simp only [sx, bi, w32_id hr])
theorem ev_ineg {a : Int} (hd : decode q.2.2.2.1 pc = .ok (.ineg, 1)) (hr : ir (-a)) : EV d q pc ls (vI a :: st) g = EV d q (pc + 1) ls (vI (-a) :: st) g := ev_sx hd rfl rfl rfl (by simp only [sx, w32_id hr])
theorem ev_iand {a b : Int} (hd : decode q.2.2.2.1 pc = .ok (.iand, 1)) : EV d q pc ls (vI b :: vI a :: st) g = EV d q (pc + 1) ls (vI (bAnd a b) :: st) g := ev_sx hd rfl rfl rfl rfl
theorem ev_ior {a b : Int} (hd : decode q.2.2.2.1 pc = .ok (.ior, 1)) : EV d q pc ls (vI b :: vI a :: st) g = EV d q (pc + 1) ls (vI (bOr a b) :: st) g := ev_sx hd rfl rfl rfl rfl
theorem ev_ixor {a b : Int} (hd : decode q.2.2.2.1 pc = .ok (.ixor, 1)) : EV d q pc ls (vI b :: vI a :: st) g = EV d q (pc + 1) ls (vI (bXor a b) :: st) g := ev_sx hd rfl rfl rfl rfl
theorem ev_ishl {a b : Int} (hd : decode q.2.2.2.1 pc = .ok (.ishl, 1)) : EV d q pc ls (vI b :: vI a :: st) g = EV d q (pc + 1) ls (vI (bShl a b) :: st) g := ev_sx hd rfl rfl rfl rfl
theorem ev_ishr {a b : Int} (hd : decode q.2.2.2.1 pc = .ok (.ishr, 1)) : EV d q pc ls (vI b :: vI a :: st) g = EV d q (pc + 1) ls (vI (bShr a b) :: st) g := ev_sx hd rfl rfl rfl rfl
theorem ev_iushr {a b : Int} (hd : decode q.2.2.2.1 pc = .ok (.iushr, 1)) : EV d q pc ls (vI b :: vI a :: st) g = EV d q (pc + 1) ls (vI (bUsh a b) :: st) g := ev_sx hd rfl rfl rfl rfl
theorem ev_idiv {a b : Int} (hd : decode q.2.2.2.1 pc = .ok (.idiv, 1)) (h : 0 ≤ a ∧ 0 < b) : EV d q pc ls (vI b :: vI a :: st) g = EV d q (pc + 1) ls (vI (a / b) :: st) g := ev_sx hd rfl rfl rfl (by simp only [sx]; rw [if_pos h])
theorem ev_irem {a b : Int} (hd : decode q.2.2.2.1 pc = .ok (.irem, 1)) (h : 0 ≤ a ∧ 0 < b) : EV d q pc ls (vI b :: vI a :: st) g = EV d q (pc + 1) ls (vI (a % b) :: st) g := ev_sx hd rfl rfl rfl (by simp only [sx]; rw [if_pos h])
theorem ev_ladd {a b : Int} (hd : decode q.2.2.2.1 pc = .ok (.ladd, 1)) : EV d q pc ls (vL b :: vL a :: st) g = EV d q (pc + 1) ls (vL (w64 (a + b)) :: st) g := ev_sx hd rfl rfl rfl rfl
theorem ev_lsub {a b : Int} (hd : decode q.2.2.2.1 pc = .ok (.lsub, 1)) : EV d q pc ls (vL b :: vL a :: st) g = EV d q (pc + 1) ls (vL (w64 (a - b)) :: st) g := ev_sx hd rfl rfl rfl rfl
theorem ev_lmul {a b : Int} (hd : decode q.2.2.2.1 pc = .ok (.lmul, 1)) : EV d q pc ls (vL b :: vL a :: st) g = EV d q (pc + 1) ls (vL (w64 (a * b)) :: st) g := ev_sx hd rfl rfl rfl rfl
theorem ev_land {a b : Int} (hd : decode q.2.2.2.1 pc = .ok (.land, 1)) : EV d q pc ls (vL b :: vL a :: st) g = EV d q (pc + 1) ls (vL (lAnd a b) :: st) g := ev_sx hd rfl rfl rfl rfl
theorem ev_lor {a b : Int} (hd : decode q.2.2.2.1 pc = .ok (.lor, 1)) : EV d q pc ls (vL b :: vL a :: st) g = EV d q (pc + 1) ls (vL (lOr a b) :: st) g := ev_sx hd rfl rfl rfl rfl
theorem ev_lshl {a b : Int} (hd : decode q.2.2.2.1 pc = .ok (.lshl, 1)) : EV d q pc ls (vI b :: vL a :: st) g = EV d q (pc + 1) ls (vL (lShl a b) :: st) g := ev_sx hd rfl rfl rfl rfl
theorem ev_lshr {a b : Int} (hd : decode q.2.2.2.1 pc = .ok (.lshr, 1)) : EV d q pc ls (vI b :: vL a :: st) g = EV d q (pc + 1) ls (vL (lShr a b) :: st) g := ev_sx hd rfl rfl rfl rfl
theorem ev_lushr {a b : Int} (hd : decode q.2.2.2.1 pc = .ok (.lushr, 1)) : EV d q pc ls (vI b :: vL a :: st) g = EV d q (pc + 1) ls (vL (lUsh a b) :: st) g := ev_sx hd rfl rfl rfl rfl
theorem ev_lcmp {a b : Int} (hd : decode q.2.2.2.1 pc = .ok (.lcmp, 1)) : EV d q pc ls (vL b :: vL a :: st) g = EV d q (pc + 1) ls (vI (lCmp a b) :: st) g := ev_sx hd rfl rfl rfl rfl
theorem ev_i2l {a : Int} (hd : decode q.2.2.2.1 pc = .ok (.i2l, 1)) : EV d q pc ls (vI a :: st) g = EV d q (pc + 1) ls (vL a :: st) g := ev_sx hd rfl rfl rfl rfl
theorem ev_l2i {a : Int} (hd : decode q.2.2.2.1 pc = .ok (.l2i, 1)) : EV d q pc ls (vL a :: st) g = EV d q (pc + 1) ls (vI (w32 a) :: st) g := ev_sx hd rfl rfl rfl rfl
theorem ev_dup {v : SV} (hd : decode q.2.2.2.1 pc = .ok (.dup, 1)) (h : cat v = 1) : EV d q pc ls (v :: st) g = EV d q (pc + 1) ls (v :: v :: st) g := ev_sx hd rfl rfl rfl (by simp only [sx]; rw [if_pos h])
theorem ev_pop {v : SV} (hd : decode q.2.2.2.1 pc = .ok (.pop, 1)) (h : cat v = 1) : EV d q pc ls (v :: st) g = EV d q (pc + 1) ls st g := ev_sx hd rfl rfl rfl (by simp only [sx]; rw [if_pos h])
theorem ev_dup_x1 {v w : SV} (hd : decode q.2.2.2.1 pc = .ok (.dup_x1, 1)) (h : cat v = 1 ∧ cat w = 1) : EV d q pc ls (v :: w :: st) g = EV d q (pc + 1) ls (v :: w :: v :: st) g := ev_sx hd rfl rfl rfl (by simp only [sx]; rw [if_pos h])
theorem ev_dup2 {v w : SV} (hd : decode q.2.2.2.1 pc = .ok (.dup2, 1)) (h : cat v = 1 ∧ cat w = 1) : EV d q pc ls (v :: w :: st) g = EV d q (pc + 1) ls (v :: w :: v :: w :: st) g := ev_sx hd rfl rfl rfl (by simp only [sx]; rw [if_pos h])
theorem ev_goto {off : Int} {t : Nat} (hd : decode q.2.2.2.1 pc = .ok (.goto off, 3)) (ht : (pc : Int) + off = (t : Int)) : EV d q pc ls st g = EV d q t ls st g := ev_sx hd rfl rfl rfl (by
  simp only [sx, jmp]
  rw [if_pos (by omega), show ((pc : Int) + off).toNat = t by omega])
theorem ev_br {b : Bool} {c : Prop} [Decidable c] {off : Int} {t : Nat} {ins : ClassFile.Instr} {st0 : List SV} (hd : decode q.2.2.2.1 pc = .ok (ins, 3)) (hl : lnOk ins 3 = true) (hr : rx q.2.2.2.2.2 st0 ins = none) (hc : cx d q.1 st0 ins = none) (hs : sx q.1 pc ls st0 g ins = br pc off b ls st g) (hb : b = true ↔ c) (ht : (pc : Int) + off = (t : Int)) : EV d q pc ls st0 g = if c then EV d q t ls st g else EV d q (pc + 3) ls st g := by
  have h1 : sx q.1 pc ls st0 g ins = some (if c then t else pc + 3, ls, st, g) := by
    rw [hs]
    unfold br
    rw [if_pos (by omega), show ((pc : Int) + off).toNat = t by omega]
    by_cases h : c
    · rw [if_pos (hb.mpr h), if_pos h]
    · rw [if_neg (fun z => h (hb.mp z)), if_neg h]
  rw [ev_sx hd hl hr hc h1]
  split <;> rfl
theorem ev_if_eq {a off : Int} {t : Nat} (hd : decode q.2.2.2.1 pc = .ok (.ifCond .eq off, 3)) (ht : (pc : Int) + off = (t : Int)) : EV d q pc ls (vI a :: st) g = if a = 0 then EV d q t ls st g else EV d q (pc + 3) ls st g := ev_br hd rfl rfl rfl rfl (by simp [cnd]) ht
theorem ev_if_ne {a off : Int} {t : Nat} (hd : decode q.2.2.2.1 pc = .ok (.ifCond .ne off, 3)) (ht : (pc : Int) + off = (t : Int)) : EV d q pc ls (vI a :: st) g = if a = 0 then EV d q (pc + 3) ls st g else EV d q t ls st g := by
  rw [ev_br (c := ¬ a = 0) hd rfl rfl rfl rfl (by simp [cnd]) ht]
  by_cases h : a = 0 <;> simp [h]
theorem ev_if_lt {a off : Int} {t : Nat} (hd : decode q.2.2.2.1 pc = .ok (.ifCond .lt off, 3)) (ht : (pc : Int) + off = (t : Int)) : EV d q pc ls (vI a :: st) g = if a < 0 then EV d q t ls st g else EV d q (pc + 3) ls st g := ev_br hd rfl rfl rfl rfl (by simp [cnd]) ht
theorem ev_if_ge {a off : Int} {t : Nat} (hd : decode q.2.2.2.1 pc = .ok (.ifCond .ge off, 3)) (ht : (pc : Int) + off = (t : Int)) : EV d q pc ls (vI a :: st) g = if 0 ≤ a then EV d q t ls st g else EV d q (pc + 3) ls st g := ev_br hd rfl rfl rfl rfl (by simp [cnd]) ht
theorem ev_if_gt {a off : Int} {t : Nat} (hd : decode q.2.2.2.1 pc = .ok (.ifCond .gt off, 3)) (ht : (pc : Int) + off = (t : Int)) : EV d q pc ls (vI a :: st) g = if 0 < a then EV d q t ls st g else EV d q (pc + 3) ls st g := ev_br hd rfl rfl rfl rfl (by simp [cnd]) ht
theorem ev_if_le {a off : Int} {t : Nat} (hd : decode q.2.2.2.1 pc = .ok (.ifCond .le off, 3)) (ht : (pc : Int) + off = (t : Int)) : EV d q pc ls (vI a :: st) g = if a ≤ 0 then EV d q t ls st g else EV d q (pc + 3) ls st g := ev_br hd rfl rfl rfl rfl (by simp [cnd]) ht
theorem ev_icmp_eq {a b off : Int} {t : Nat} (hd : decode q.2.2.2.1 pc = .ok (.if_icmp .eq off, 3)) (ht : (pc : Int) + off = (t : Int)) : EV d q pc ls (vI b :: vI a :: st) g = if a = b then EV d q t ls st g else EV d q (pc + 3) ls st g := ev_br hd rfl rfl rfl rfl (by simp [cnd]) ht
theorem ev_icmp_ne {a b off : Int} {t : Nat} (hd : decode q.2.2.2.1 pc = .ok (.if_icmp .ne off, 3)) (ht : (pc : Int) + off = (t : Int)) : EV d q pc ls (vI b :: vI a :: st) g = if a = b then EV d q (pc + 3) ls st g else EV d q t ls st g := by
  rw [ev_br (c := ¬ a = b) hd rfl rfl rfl rfl (by simp [cnd]) ht]
  by_cases h : a = b <;> simp [h]
theorem ev_icmp_lt {a b off : Int} {t : Nat} (hd : decode q.2.2.2.1 pc = .ok (.if_icmp .lt off, 3)) (ht : (pc : Int) + off = (t : Int)) : EV d q pc ls (vI b :: vI a :: st) g = if a < b then EV d q t ls st g else EV d q (pc + 3) ls st g := ev_br hd rfl rfl rfl rfl (by simp [cnd]) ht
theorem ev_icmp_ge {a b off : Int} {t : Nat} (hd : decode q.2.2.2.1 pc = .ok (.if_icmp .ge off, 3)) (ht : (pc : Int) + off = (t : Int)) : EV d q pc ls (vI b :: vI a :: st) g = if b ≤ a then EV d q t ls st g else EV d q (pc + 3) ls st g := ev_br hd rfl rfl rfl rfl (by simp [cnd]) ht
theorem ev_icmp_gt {a b off : Int} {t : Nat} (hd : decode q.2.2.2.1 pc = .ok (.if_icmp .gt off, 3)) (ht : (pc : Int) + off = (t : Int)) : EV d q pc ls (vI b :: vI a :: st) g = if b < a then EV d q t ls st g else EV d q (pc + 3) ls st g := ev_br hd rfl rfl rfl rfl (by simp [cnd]) ht
theorem ev_icmp_le {a b off : Int} {t : Nat} (hd : decode q.2.2.2.1 pc = .ok (.if_icmp .le off, 3)) (ht : (pc : Int) + off = (t : Int)) : EV d q pc ls (vI b :: vI a :: st) g = if a ≤ b then EV d q t ls st g else EV d q (pc + 3) ls st g := ev_br hd rfl rfl rfl rfl (by simp [cnd]) ht
theorem ev_tabOut {a dd lo hi : Int} {offs : Array Int} {len t : Nat} (hd : decode q.2.2.2.1 pc = .ok (.tableswitch dd lo hi offs, len)) (h : a < lo ∨ hi < a) (ht : (pc : Int) + dd = (t : Int)) : EV d q pc ls (vI a :: st) g = EV d q t ls st g := ev_sx hd rfl rfl rfl (by
  simp only [sx, jmp]
  rw [if_pos h, if_pos (by omega), show ((pc : Int) + dd).toNat = t by omega])
theorem ev_tabIn {a dd lo hi off : Int} {offs : Array Int} {len t : Nat} (hd : decode q.2.2.2.1 pc = .ok (.tableswitch dd lo hi offs, len)) (h : ¬ (a < lo ∨ hi < a)) (ho : offs[(a - lo).toNat]? = some off) (ht : (pc : Int) + off = (t : Int)) : EV d q pc ls (vI a :: st) g = EV d q t ls st g := ev_sx hd rfl rfl rfl (by
  simp only [sx, jmp, ho]
  rw [if_neg h, if_pos (by omega), show ((pc : Int) + off).toNat = t by omega])
theorem ev_getI {k a n ci s : Nat} {si : Int} (hd : decode q.2.2.2.1 pc = .ok (.getfield k, 3)) (hf : fTab q.1 k = some (n, ci, s)) (hk : cK a = ci) (ht : fTy ci s = 0) (hs : (s : Int) = si) : EV d q pc ls (vR a :: st) g = EV d q (pc + 3) ls (vI (g a si) :: st) g := by subst hs; exact ev_sx hd rfl rfl rfl (by simp only [sx, hf, ht]; rw [if_pos hk])
theorem ev_getL {k a n ci s : Nat} {si : Int} (hd : decode q.2.2.2.1 pc = .ok (.getfield k, 3)) (hf : fTab q.1 k = some (n, ci, s)) (hk : cK a = ci) (ht : fTy ci s = 1) (hs : (s : Int) = si) : EV d q pc ls (vR a :: st) g = EV d q (pc + 3) ls (vL (g a si) :: st) g := by subst hs; exact ev_sx hd rfl rfl rfl (by simp only [sx, hf, ht]; rw [if_pos hk])
theorem ev_getR {k a n ci s b : Nat} (hd : decode q.2.2.2.1 pc = .ok (.getfield k, 3)) (hf : fTab q.1 k = some (n, ci, s)) (hk : cK a = ci) (ht : fTy ci s = 3) (hr : cRef a s = b) : EV d q pc ls (vR a :: st) g = EV d q (pc + 3) ls (vR b :: st) g := by subst hr; exact ev_sx hd rfl rfl rfl (by simp only [sx, hf, ht]; rw [if_pos hk])
theorem ev_putI {k a ci s : Nat} {x si : Int} (hd : decode q.2.2.2.1 pc = .ok (.putfield k, 3)) (hf : fTab q.1 k = some (0, ci, s)) (hk : cK a = ci) (ht : fTy ci s = 0) (hs : (s : Int) = si) : EV d q pc ls (vI x :: vR a :: st) g = EV d q (pc + 3) ls st (up g a si x) := by subst hs; exact ev_sx hd rfl rfl rfl (by simp only [sx, hf]; rw [if_pos ⟨hk, ht⟩])
theorem ev_putL {k a ci s : Nat} {x si : Int} (hd : decode q.2.2.2.1 pc = .ok (.putfield k, 3)) (hf : fTab q.1 k = some (0, ci, s)) (hk : cK a = ci) (ht : fTy ci s = 1) (hs : (s : Int) = si) : EV d q pc ls (vL x :: vR a :: st) g = EV d q (pc + 3) ls st (up g a si x) := by subst hs; exact ev_sx hd rfl rfl rfl (by simp only [sx, hf]; rw [if_pos ⟨hk, ht⟩])
theorem ev_getstatic {k : Nat} (hd : decode q.2.2.2.1 pc = .ok (.getstatic k, 3)) (h : q.1 = 8 ∧ k = 46) : EV d q pc ls st g = EV d q (pc + 3) ls (vR 210 :: st) g := ev_sx hd rfl rfl rfl (by simp only [sx]; rw [if_pos h])
theorem ev_alen {a : Nat} (hd : decode q.2.2.2.1 pc = .ok (.arraylength, 1)) (h : isIA a ∨ cK a = 101) : EV d q pc ls (vR a :: st) g = EV d q (pc + 1) ls (vI (aLen a g) :: st) g := ev_sx hd rfl rfl rfl (by simp only [sx]; rw [if_pos h])
theorem ev_iald {a : Nat} {i : Int} (hd : decode q.2.2.2.1 pc = .ok (.iaload, 1)) (hk : isIA a = true) (h : 0 ≤ i ∧ i < aLen a g) : EV d q pc ls (vI i :: vR a :: st) g = EV d q (pc + 1) ls (vI (g a i) :: st) g := ev_sx hd rfl rfl rfl (by simp only [sx]; rw [if_pos ⟨hk, h⟩])
theorem ev_iald2 {a n : Nat} {i : Int} (hd : decode q.2.2.2.1 pc = .ok (.iaload, 1)) (hk : cK a = 100) (hn : cLn a = n) (h : 0 ≤ i ∧ i < n) : EV d q pc ls (vI i :: vR a :: st) g = EV d q (pc + 1) ls (vI (g a i) :: st) g := by
  refine ev_iald hd (by simp [isIA, hk]) ?_
  have ha : a < cNum := cK_lt (by omega)
  have : aLen a g = n := by
    unfold cNum at ha
    rw [← hn]
    simp [aLen, show a ≠ 220 by omega, show a ≠ 210 by omega]
  rw [this]
  exact h
theorem ev_iast {a n : Nat} {i x : Int} (hd : decode q.2.2.2.1 pc = .ok (.iastore, 1)) (hk : cK a = 100) (hn : cLn a = n) (h : 0 ≤ i ∧ i < n) : EV d q pc ls (vI x :: vI i :: vR a :: st) g = EV d q (pc + 1) ls st (up g a i x) := by subst hn; exact ev_sx hd rfl rfl rfl (by simp only [sx]; rw [if_pos ⟨hk, h⟩])
theorem ev_lald {a n : Nat} {i : Int} (hd : decode q.2.2.2.1 pc = .ok (.laload, 1)) (hk : cK a = 101) (hn : cLn a = n) (h : 0 ≤ i ∧ i < n) : EV d q pc ls (vI i :: vR a :: st) g = EV d q (pc + 1) ls (vL (g a i) :: st) g := by subst hn; exact ev_sx hd rfl rfl rfl (by simp only [sx]; rw [if_pos ⟨hk, h⟩])
theorem ev_last {a n : Nat} {i x : Int} (hd : decode q.2.2.2.1 pc = .ok (.lastore, 1)) (hk : cK a = 101) (hn : cLn a = n) (h : 0 ≤ i ∧ i < n) : EV d q pc ls (vL x :: vI i :: vR a :: st) g = EV d q (pc + 1) ls st (up g a i x) := by subst hn; exact ev_sx hd rfl rfl rfl (by simp only [sx]; rw [if_pos ⟨hk, h⟩])
theorem ev_bald {a n : Nat} {i : Int} (hd : decode q.2.2.2.1 pc = .ok (.baload, 1)) (hk : cK a = 102) (hn : cLn a = n) (h : 0 ≤ i ∧ i < n) : EV d q pc ls (vI i :: vR a :: st) g = EV d q (pc + 1) ls (vI (g a i) :: st) g := by subst hn; exact ev_sx hd rfl rfl rfl (by simp only [sx]; rw [if_pos ⟨hk, h⟩])
theorem ev_bast {a n : Nat} {i x : Int} (hd : decode q.2.2.2.1 pc = .ok (.bastore, 1)) (hk : cK a = 102) (hn : cLn a = n) (h : 0 ≤ i ∧ i < n) (h01 : x = 0 ∨ x = 1) : EV d q pc ls (vI x :: vI i :: vR a :: st) g = EV d q (pc + 1) ls st (up g a i x) := by subst hn; exact ev_sx hd rfl rfl rfl (by simp only [sx]; rw [if_pos ⟨hk, h.1, h.2, h01⟩])
theorem ev_aald {a n b : Nat} {i : Int} (hd : decode q.2.2.2.1 pc = .ok (.aaload, 1)) (hk : cK a = 103 ∨ cK a = 104) (hn : cLn a = n) (h : 0 ≤ i ∧ i < n) (hr : cRef a i.toNat = b) : EV d q pc ls (vI i :: vR a :: st) g = EV d q (pc + 1) ls (vR b :: st) g := by subst hn; subst hr; exact ev_sx hd rfl rfl rfl (by simp only [sx]; rw [if_pos ⟨hk, h⟩])
theorem ev_copy {k m s t ns nt : Nat} {sp dp n : Int} (hd : decode q.2.2.2.1 pc = .ok (.invokestatic k, 3)) (hc : cTab q.1 k = some (6, m)) (hs : cK s = 100 ∧ cK t = 100) (hn : cLn s = ns ∧ cLn t = nt) (h : (0 ≤ sp ∧ 0 ≤ dp ∧ 0 ≤ n) ∧ sp + n ≤ ns ∧ dp + n ≤ nt) (hr : (st.map cat).sum ≤ 8) : EV d q pc ls (vI n :: vI dp :: vR t :: vI sp :: vR s :: st) g = EV d q (pc + 3) ls st (cpy g s sp t dp n) := by
  obtain ⟨rfl, rfl⟩ := hn
  refine ev_sx hd rfl rfl ?_ ?_
  · simp only [cx, hc]
    rfl
  · simp only [sx, hc]
    rw [if_pos ⟨hs, h.1, h.2.1, h.2.2, hr⟩]
theorem ev_slen {k m a : Nat} {x : Int} (hd : decode q.2.2.2.1 pc = .ok (.invokevirtual k, 3)) (hc : cTab q.1 k = some (7, m)) (h : 200 ≤ a ∧ a < 205 ∧ (st.map cat).sum ≤ 8) (hx : ((sTxt a).length : Int) = x) : EV d q pc ls (vR a :: st) g = EV d q (pc + 3) ls (vI x :: st) g := by
  subst hx
  refine ev_sx hd rfl rfl ?_ ?_
  · simp only [cx, hc]
    rfl
  · simp only [sx, hc]
    rw [if_pos h]
theorem ev_sat {k m a : Nat} {i : Int} (hd : decode q.2.2.2.1 pc = .ok (.invokevirtual k, 3)) (hc : cTab q.1 k = some (8, m)) (h : 200 ≤ a ∧ a < 205 ∧ 0 ≤ i ∧ i < (sTxt a).length ∧ (st.map cat).sum ≤ 8) : EV d q pc ls (vI i :: vR a :: st) g = EV d q (pc + 3) ls (vI ((sTxt a).getD i.toNat 0) :: st) g := by
  refine ev_sx hd rfl rfl ?_ ?_
  · simp only [cx, hc]
    rfl
  · simp only [sx, hc]
    rw [if_pos h]
theorem ev_ireturn {x : Int} (hd : decode q.2.2.2.1 pc = .ok (.ireturn, 1)) (h : q.2.2.2.2.2 = some .int ∨ (q.2.2.2.2.2 = some .boolean ∧ (x = 0 ∨ x = 1))) : EV d q pc ls [vI x] g = some (some (vI x), g) := ev_ret hd rfl (by simp only [rx]; rw [if_pos h])
theorem ev_lreturn {x : Int} (hd : decode q.2.2.2.1 pc = .ok (.lreturn, 1)) (h : q.2.2.2.2.2 = some .long) : EV d q pc ls [vL x] g = some (some (vL x), g) := ev_ret hd rfl (by simp only [rx]; rw [if_pos h])
theorem ev_return (hd : decode q.2.2.2.1 pc = .ok (.return_, 1)) (h : q.2.2.2.2.2 = none) : EV d q pc ls [] g = some (none, g) := ev_ret hd rfl (by simp only [rx]; rw [if_pos ⟨h, trivial⟩])
theorem up_ne {g : Hp} {a a' : Nat} {i i' v : Int} (h : a' ≠ a) : up g a i v a' i' = g a' i' := by simp [up, h]
theorem up_nei {g : Hp} {a a' : Nat} {i i' v : Int} (h : i' ≠ i) : up g a i v a' i' = g a' i' := by simp [up, h]
theorem up_eq {g : Hp} {a : Nat} {i v : Int} : up g a i v a i = v := by simp [up]
theorem cpy_ne {g : Hp} {s t a' : Nat} {sp dp n i' : Int} (h : a' ≠ t) : cpy g s sp t dp n a' i' = g a' i' := by simp [cpy, h]
theorem ev_getIv {k a n ci s : Nat} {si v : Int} (hd : decode q.2.2.2.1 pc = .ok (.getfield k, 3)) (hf : fTab q.1 k = some (n, ci, s)) (hk : cK a = ci) (ht : fTy ci s = 0) (hs : (s : Int) = si) (hv : g a si = v) : EV d q pc ls (vR a :: st) g = EV d q (pc + 3) ls (vI v :: st) g := by rw [ev_getI hd hf hk ht hs, hv]
theorem ev_getLv {k a n ci s : Nat} {si v : Int} (hd : decode q.2.2.2.1 pc = .ok (.getfield k, 3)) (hf : fTab q.1 k = some (n, ci, s)) (hk : cK a = ci) (ht : fTy ci s = 1) (hs : (s : Int) = si) (hv : g a si = v) : EV d q pc ls (vR a :: st) g = EV d q (pc + 3) ls (vL v :: st) g := by rw [ev_getL hd hf hk ht hs, hv]
theorem ev_iald2v {a n : Nat} {i v : Int} (hd : decode q.2.2.2.1 pc = .ok (.iaload, 1)) (hk : cK a = 100) (hn : cLn a = n) (h : 0 ≤ i ∧ i < n) (hv : g a i = v) : EV d q pc ls (vI i :: vR a :: st) g = EV d q (pc + 1) ls (vI v :: st) g := by rw [ev_iald2 hd hk hn h, hv]
/-- calls: what comes back goes on -/
def bnd (x : Option (Option SV × Hp)) (f : Option SV → Hp → Option (Option SV × Hp)) : Option (Option SV × Hp) := x.bind (fun z => f z.1 z.2)
theorem bnd_some {r : Option SV} {g' : Hp} {f : Option SV → Hp → Option (Option SV × Hp)} : bnd (some (r, g')) f = f r g' := rfl
theorem ev_cS {k kd n : Nat} {q' : MI} {a r : List SV} {d' : Nat} {ls' : List SV} (hd : decode q.2.2.2.1 pc = .ok (.invokestatic k, 3)) (hc : cTab q.1 k = some (kd, n)) (hk : kd = 2 ∨ kd = 3) (hs : sTab q.1 k 99 = some (kd, n, q')) (hn : n ≤ st.length) (ha : (st.take n).reverse = a) (hr : st.drop n = r) (hg : (8 ≤ rkA q' a ∧ rkA q' a < d) ∧ (mkA a).length ≤ q'.2.1 ∧ (r.map cat).sum ≤ 8) (hdd : rkA q' a = d') (hl : mkL q'.2.1 a = ls') : EV d q pc ls st g = bnd (EV d' q' 0 ls' [] g) (fun z g' => EV d q (pc + 3) ls (z.toList ++ r) g') := by
  subst ha; subst hr; subst hdd; subst hl
  refine ev_call hd rfl rfl ?_
  simp only [cx, hc, hs]
  rw [if_pos hk, if_pos ⟨⟨trivial, trivial⟩, hn⟩]
  unfold cGo
  rw [if_pos hg]
theorem ev_cV {k kd n b : Nat} {q' : MI} {a r : List SV} {d' : Nat} {ls' : List SV} (hd : decode q.2.2.2.1 pc = .ok (.invokevirtual k, 3)) (hc : cTab q.1 k = some (kd, n)) (hk : kd = 0 ∨ kd = 4) (hb : st[n]? = some (vR b)) (hs : sTab q.1 k (cK b) = some (kd, n, q')) (ha : vR b :: (st.take n).reverse = a) (hr : st.drop (n + 1) = r) (hg : (8 ≤ rkA q' a ∧ rkA q' a < d) ∧ (mkA a).length ≤ q'.2.1 ∧ (r.map cat).sum ≤ 8) (hdd : rkA q' a = d') (hl : mkL q'.2.1 a = ls') : EV d q pc ls st g = bnd (EV d' q' 0 ls' [] g) (fun z g' => EV d q (pc + 3) ls (z.toList ++ r) g') := by
  subst ha; subst hr; subst hdd; subst hl
  refine ev_call hd rfl rfl ?_
  simp only [cx, hc, hb, hs]
  rw [if_pos hk, if_pos ⟨trivial, trivial⟩]
  unfold cGo
  rw [if_pos hg]
theorem ev_cU {k n b : Nat} {q' : MI} {a r : List SV} {d' : Nat} {ls' : List SV} (hd : decode q.2.2.2.1 pc = .ok (.invokespecial k, 3)) (hc : cTab q.1 k = some (5, n)) (hb : st[n]? = some (vR b)) (hs : sTab q.1 k 0 = some (5, n, q')) (hbo : cK b = q.1) (ha : vR b :: (st.take n).reverse = a) (hr : st.drop (n + 1) = r) (hg : (8 ≤ rkA q' a ∧ rkA q' a < d) ∧ (mkA a).length ≤ q'.2.1 ∧ (r.map cat).sum ≤ 8) (hdd : rkA q' a = d') (hl : mkL q'.2.1 a = ls') : EV d q pc ls st g = bnd (EV d' q' 0 ls' [] g) (fun z g' => EV d q (pc + 3) ls (z.toList ++ r) g') := by
  subst ha; subst hr; subst hdd; subst hl
  refine ev_call hd rfl rfl ?_
  simp only [cx, hc, hb, hs]
  rw [if_pos trivial, if_pos ⟨⟨trivial, trivial⟩, hbo⟩]
  unfold cGo
  rw [if_pos hg]
end RW
