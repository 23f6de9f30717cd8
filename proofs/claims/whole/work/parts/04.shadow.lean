/-! THE SHADOW MACHINE: ints are Int, references are numbers of cells, which cells there are and what references they hold is fixed (cK, cLn, cRef); the heap is the numbers alone -/
abbrev SV : Type := Int ⊕ (Int ⊕ (Nat ⊕ Unit))
abbrev vI (x : Int) : SV := .inl x
abbrev vL (x : Int) : SV := .inr (.inl x)
abbrev vR (a : Nat) : SV := .inr (.inr (.inl a))
abbrev vU : SV := .inr (.inr (.inr ()))
abbrev Hp : Type := Nat → Int → Int
abbrev ir (x : Int) : Prop := -2147483648 ≤ x ∧ x < 2147483648
abbrev lr (x : Int) : Prop := -9223372036854775808 ≤ x ∧ x < 9223372036854775808
def w32 (x : Int) : Int := (Int32.ofInt x).toInt
def w64 (x : Int) : Int := (Int64.ofInt x).toInt
def bAnd (a b : Int) : Int := (Int32.ofInt a &&& Int32.ofInt b).toInt
def bOr (a b : Int) : Int := (Int32.ofInt a ||| Int32.ofInt b).toInt
def bXor (a b : Int) : Int := (Int32.ofInt a ^^^ Int32.ofInt b).toInt
def bShl (a b : Int) : Int := (Int32.ofInt a <<< (Int32.ofInt b &&& 31)).toInt
def bShr (a b : Int) : Int := (Int32.ofInt a >>> (Int32.ofInt b &&& 31)).toInt
def bUsh (a b : Int) : Int := ((Int32.ofInt a).toUInt32 >>> ((Int32.ofInt b).toUInt32 &&& Int32.toUInt32 31)).toInt32.toInt
def lAnd (a b : Int) : Int := (Int64.ofInt a &&& Int64.ofInt b).toInt
def lOr (a b : Int) : Int := (Int64.ofInt a ||| Int64.ofInt b).toInt
def lShl (a b : Int) : Int := (Int64.ofInt a <<< ((Int32.ofInt b).toInt64 &&& 63)).toInt
def lShr (a b : Int) : Int := (Int64.ofInt a >>> ((Int32.ofInt b).toInt64 &&& 63)).toInt
def lUsh (a b : Int) : Int := ((Int64.ofInt a).toUInt64 >>> ((Int32.ofInt b).toInt64.toUInt64 &&& Int64.toUInt64 63)).toInt64.toInt
def lCmp (a b : Int) : Int := if b < a then 1 else if a = b then 0 else -1
def up (g : Hp) (a : Nat) (i v : Int) : Hp := fun a' i' => if a' = a ∧ i' = i then v else g a' i'
def cpy (g : Hp) (s : Nat) (sp : Int) (d : Nat) (dp n : Int) : Hp := fun a i => if a = d ∧ dp ≤ i ∧ i < dp + n then g s (sp + (i - dp)) else g a i
/-- how long an array is; the script's length stands in the heap -/
def aLen (a : Nat) (g : Hp) : Nat := if a = 220 then (g 220 100000).toNat else if a = 210 then 5 else cLn a
/-- an int array: ours, NUMBERS, the script -/
def isIA (a : Nat) : Bool := cK a == 100 || (a == 210 || a == 220)
def cat (v : SV) : Nat := match v with
  | .inr (.inl _) => 2
  | _ => 1
def kl (ls : List SV) (k : Nat) : List SV := match k with
  | 0 => ls
  | j + 1 => match ls[j]? with
    | some (.inr (.inl _)) => ls.set j vU
    | _ => ls
def st1 (ls : List SV) (k : Nat) (v : SV) : List SV := (kl ls k).set k v
def st2 (ls : List SV) (k : Nat) (v : SV) : List SV := ((kl ls k).set k v).set (k + 1) vU
def cnd (c : ClassFile.Cond) (a b : Int) : Bool := match c with
  | .eq => decide (a = b)
  | .ne => decide (a ≠ b)
  | .lt => decide (a < b)
  | .ge => decide (b ≤ a)
  | .gt => decide (b < a)
  | .le => decide (a ≤ b)
abbrev SC : Type := Nat × List SV × List SV × Hp
def ldI (pc len k : Nat) (ls st : List SV) (g : Hp) : Option SC := match ls[k]? with
  | some (.inl x) => some (pc + len, ls, .inl x :: st, g)
  | _ => none
def ldL (pc len k : Nat) (ls st : List SV) (g : Hp) : Option SC := match ls[k]? with
  | some (.inr (.inl x)) => some (pc + len, ls, .inr (.inl x) :: st, g)
  | _ => none
def ldR (pc len k : Nat) (ls st : List SV) (g : Hp) : Option SC := match ls[k]? with
  | some (.inr (.inr (.inl x))) => some (pc + len, ls, .inr (.inr (.inl x)) :: st, g)
  | _ => none
def soI (pc len k : Nat) (ls st : List SV) (g : Hp) : Option SC := match st with
  | .inl x :: r => if k < ls.length then some (pc + len, st1 ls k (.inl x), r, g) else none
  | _ => none
def soL (pc len k : Nat) (ls st : List SV) (g : Hp) : Option SC := match st with
  | .inr (.inl x) :: r => if k + 1 < ls.length then some (pc + len, st2 ls k (.inr (.inl x)), r, g) else none
  | _ => none
def bi (f : Int → Int → Int) (pc : Nat) (ls st : List SV) (g : Hp) : Option SC := match st with
  | .inl b :: .inl a :: r => some (pc + 1, ls, .inl (f a b) :: r, g)
  | _ => none
def bl (f : Int → Int → Int) (pc : Nat) (ls st : List SV) (g : Hp) : Option SC := match st with
  | .inr (.inl b) :: .inr (.inl a) :: r => some (pc + 1, ls, .inr (.inl (f a b)) :: r, g)
  | _ => none
def bs (f : Int → Int → Int) (pc : Nat) (ls st : List SV) (g : Hp) : Option SC := match st with
  | .inl b :: .inr (.inl a) :: r => some (pc + 1, ls, .inr (.inl (f a b)) :: r, g)
  | _ => none
def jmp (pc : Nat) (off : Int) (ls st : List SV) (g : Hp) : Option SC := if 0 ≤ (pc : Int) + off then some (((pc : Int) + off).toNat, ls, st, g) else none
def br (pc : Nat) (off : Int) (b : Bool) (ls st : List SV) (g : Hp) : Option SC := if 0 ≤ (pc : Int) + off then some (if b = true then ((pc : Int) + off).toNat else pc + 3, ls, st, g) else none
/-- one instruction that is neither a call nor a return -/
def sx (ow pc : Nat) (ls st : List SV) (g : Hp) (ins : ClassFile.Instr) : Option SC := match ins with
  | .iconst n => if ir n then some (pc + 1, ls, .inl n :: st, g) else none
  | .bipush n => if -128 ≤ n ∧ n < 128 then some (pc + 2, ls, .inl n :: st, g) else none
  | .sipush n => if -32768 ≤ n ∧ n < 32768 then some (pc + 3, ls, .inl n :: st, g) else none
  | .lconst n => some (pc + 1, ls, .inr (.inl (n : Nat)) :: st, g)
  | .ldc k => match kTab ow k with
    | some x => some (pc + 2, ls, .inl x :: st, g)
    | none => match gTab ow k with
      | some a => some (pc + 2, ls, .inr (.inr (.inl a)) :: st, g)
      | none => none
  | .ldc_w k => match kTab ow k with
    | some x => some (pc + 3, ls, .inl x :: st, g)
    | none => none
  | .ldc2_w k => match lTab ow k with
    | some x => some (pc + 3, ls, .inr (.inl x) :: st, g)
    | none => none
  | .iload_n k => ldI pc 1 k ls st g
  | .iload k => ldI pc 2 k ls st g
  | .lload_n k => ldL pc 1 k ls st g
  | .lload k => ldL pc 2 k ls st g
  | .aload_n k => ldR pc 1 k ls st g
  | .aload k => ldR pc 2 k ls st g
  | .istore_n k => soI pc 1 k ls st g
  | .istore k => soI pc 2 k ls st g
  | .lstore_n k => soL pc 1 k ls st g
  | .lstore k => soL pc 2 k ls st g
  | .iinc k n => match ls[k]? with
    | some (.inl x) => some (pc + 3, ls.set k (.inl (w32 (x + n))), st, g)
    | _ => none
  | .iadd => bi (fun a b => w32 (a + b)) pc ls st g
  | .isub => bi (fun a b => w32 (a - b)) pc ls st g
  | .imul => bi (fun a b => w32 (a * b)) pc ls st g
  | .iand => bi bAnd pc ls st g
  | .ior => bi bOr pc ls st g
  | .ixor => bi bXor pc ls st g
  | .ishl => bi bShl pc ls st g
  | .ishr => bi bShr pc ls st g
  | .iushr => bi bUsh pc ls st g
  | .idiv => match st with
    | .inl b :: .inl a :: r => if 0 ≤ a ∧ 0 < b then some (pc + 1, ls, .inl (a / b) :: r, g) else none
    | _ => none
  | .irem => match st with
    | .inl b :: .inl a :: r => if 0 ≤ a ∧ 0 < b then some (pc + 1, ls, .inl (a % b) :: r, g) else none
    | _ => none
  | .ineg => match st with
    | .inl a :: r => some (pc + 1, ls, .inl (w32 (-a)) :: r, g)
    | _ => none
  | .ladd => bl (fun a b => w64 (a + b)) pc ls st g
  | .lsub => bl (fun a b => w64 (a - b)) pc ls st g
  | .lmul => bl (fun a b => w64 (a * b)) pc ls st g
  | .land => bl lAnd pc ls st g
  | .lor => bl lOr pc ls st g
  | .lshl => bs lShl pc ls st g
  | .lshr => bs lShr pc ls st g
  | .lushr => bs lUsh pc ls st g
  | .lcmp => match st with
    | .inr (.inl b) :: .inr (.inl a) :: r => some (pc + 1, ls, .inl (lCmp a b) :: r, g)
    | _ => none
  | .i2l => match st with
    | .inl a :: r => some (pc + 1, ls, .inr (.inl a) :: r, g)
    | _ => none
  | .l2i => match st with
    | .inr (.inl a) :: r => some (pc + 1, ls, .inl (w32 a) :: r, g)
    | _ => none
  | .dup => match st with
    | v :: r => if cat v = 1 then some (pc + 1, ls, v :: v :: r, g) else none
    | _ => none
  | .pop => match st with
    | v :: r => if cat v = 1 then some (pc + 1, ls, r, g) else none
    | _ => none
  | .dup_x1 => match st with
    | v :: w :: r => if cat v = 1 ∧ cat w = 1 then some (pc + 1, ls, v :: w :: v :: r, g) else none
    | _ => none
  | .dup2 => match st with
    | v :: w :: r => if cat v = 1 ∧ cat w = 1 then some (pc + 1, ls, v :: w :: v :: w :: r, g) else none
    | _ => none
  | .goto off => jmp pc off ls st g
  | .ifCond c off => match st with
    | .inl a :: r => br pc off (cnd c a 0) ls r g
    | _ => none
  | .if_icmp c off => match st with
    | .inl b :: .inl a :: r => br pc off (cnd c a b) ls r g
    | _ => none
  | .tableswitch d lo hi offs => match st with
    | .inl a :: r => if a < lo ∨ hi < a then jmp pc d ls r g else match offs[(a - lo).toNat]? with
      | some off => jmp pc off ls r g
      | none => none
    | _ => none
  | .getfield k => match st with
    | .inr (.inr (.inl a)) :: r => match fTab ow k with
      | some (_, ci, s) => if cK a = ci then
          (match fTy ci s with
          | 0 => some (pc + 3, ls, .inl (g a s) :: r, g)
          | 1 => some (pc + 3, ls, .inr (.inl (g a s)) :: r, g)
          | _ => some (pc + 3, ls, .inr (.inr (.inl (cRef a s))) :: r, g)) else none
      | none => none
    | _ => none
  | .putfield k => match st with
    | .inl x :: .inr (.inr (.inl a)) :: r => match fTab ow k with
      | some (0, ci, s) => if cK a = ci ∧ fTy ci s = 0 then some (pc + 3, ls, r, up g a s x) else none
      | _ => none
    | .inr (.inl x) :: .inr (.inr (.inl a)) :: r => match fTab ow k with
      | some (0, ci, s) => if cK a = ci ∧ fTy ci s = 1 then some (pc + 3, ls, r, up g a s x) else none
      | _ => none
    | _ => none
  | .getstatic k => if ow = 8 ∧ k = 46 then some (pc + 3, ls, .inr (.inr (.inl 210)) :: st, g) else none
  | .arraylength => match st with
    | .inr (.inr (.inl a)) :: r => if isIA a ∨ cK a = 101 then some (pc + 1, ls, .inl (aLen a g) :: r, g) else none
    | _ => none
  | .iaload => match st with
    | .inl i :: .inr (.inr (.inl a)) :: r => if isIA a ∧ 0 ≤ i ∧ i < aLen a g then some (pc + 1, ls, .inl (g a i) :: r, g) else none
    | _ => none
  | .iastore => match st with
    | .inl x :: .inl i :: .inr (.inr (.inl a)) :: r => if cK a = 100 ∧ 0 ≤ i ∧ i < cLn a then some (pc + 1, ls, r, up g a i x) else none
    | _ => none
  | .laload => match st with
    | .inl i :: .inr (.inr (.inl a)) :: r => if cK a = 101 ∧ 0 ≤ i ∧ i < cLn a then some (pc + 1, ls, .inr (.inl (g a i)) :: r, g) else none
    | _ => none
  | .lastore => match st with
    | .inr (.inl x) :: .inl i :: .inr (.inr (.inl a)) :: r => if cK a = 101 ∧ 0 ≤ i ∧ i < cLn a then some (pc + 1, ls, r, up g a i x) else none
    | _ => none
  | .baload => match st with
    | .inl i :: .inr (.inr (.inl a)) :: r => if cK a = 102 ∧ 0 ≤ i ∧ i < cLn a then some (pc + 1, ls, .inl (g a i) :: r, g) else none
    | _ => none
  | .bastore => match st with
    | .inl x :: .inl i :: .inr (.inr (.inl a)) :: r => if cK a = 102 ∧ 0 ≤ i ∧ i < cLn a ∧ (x = 0 ∨ x = 1) then some (pc + 1, ls, r, up g a i x) else none
    | _ => none
  | .aaload => match st with
    | .inl i :: .inr (.inr (.inl a)) :: r => if (cK a = 103 ∨ cK a = 104) ∧ 0 ≤ i ∧ i < cLn a then some (pc + 1, ls, .inr (.inr (.inl (cRef a i.toNat))) :: r, g) else none
    | _ => none
  | .invokestatic k => match cTab ow k with
    | some (6, _) => match st with
      | .inl n :: .inl dp :: .inr (.inr (.inl d)) :: .inl sp :: .inr (.inr (.inl s)) :: r =>
        if (cK s = 100 ∧ cK d = 100) ∧ (0 ≤ sp ∧ 0 ≤ dp ∧ 0 ≤ n) ∧ sp + n ≤ cLn s ∧ dp + n ≤ cLn d ∧ (r.map cat).sum ≤ 8 then some (pc + 3, ls, r, cpy g s sp d dp n) else none
      | _ => none
    | _ => none
  | .invokevirtual k => match cTab ow k with
    | some (7, _) => match st with
      | .inr (.inr (.inl a)) :: r => if 200 ≤ a ∧ a < 205 ∧ (r.map cat).sum ≤ 8 then some (pc + 3, ls, .inl ((sTxt a).length : Nat) :: r, g) else none
      | _ => none
    | some (8, _) => match st with
      | .inl i :: .inr (.inr (.inl a)) :: r => if 200 ≤ a ∧ a < 205 ∧ 0 ≤ i ∧ i < (sTxt a).length ∧ (r.map cat).sum ≤ 8 then some (pc + 3, ls, .inl ((sTxt a).getD i.toNat 0) :: r, g) else none
      | _ => none
    | _ => none
  | _ => none
/-- a return: what it answers -/
def rx (ret : Option FieldType) (st : List SV) (ins : ClassFile.Instr) : Option (Option SV) := match ins with
  | .return_ => if ret = none ∧ st = [] then some none else none
  | .ireturn => match st with
    | [.inl x] => if ret = some .int ∨ (ret = some .boolean ∧ (x = 0 ∨ x = 1)) then some (some (.inl x)) else none
    | _ => none
  | .lreturn => match st with
    | [.inr (.inl x)] => if ret = some .long then some (some (.inr (.inl x))) else none
    | _ => none
  | _ => none
def mkA1 (v : SV) : List SV := match v with
  | .inl x => [.inl x]
  | .inr (.inl x) => [.inr (.inl x), vU]
  | .inr (.inr x) => [.inr (.inr x)]
def mkA (a : List SV) : List SV := a.flatMap mkA1
theorem mkA_cons (v : SV) (a : List SV) : mkA (v :: a) = mkA1 v ++ mkA a := by simp [mkA]
def mkL (n : Nat) (a : List SV) : List SV := mkA a ++ List.replicate (n - (mkA a).length) vU
/-- how deep a method goes: its own number; rowsOf's by what is left -/
def rkA (q : MI) (a : List SV) : Nat := if q.2.2.1 = 99 then (match a with
  | _ :: .inl x :: _ => 20 + x.toNat
  | _ => 0) else q.2.2.1
/-- a call: the method, its depth, its arguments, what is left of the stack -/
def cGo (d : Nat) (q : MI) (a r : List SV) : Option (MI × Nat × List SV × List SV) := if (8 ≤ rkA q a ∧ rkA q a < d) ∧ (mkA a).length ≤ q.2.1 ∧ (r.map cat).sum ≤ 8 then some (q, rkA q a, a, r) else none
def cx (d ow : Nat) (st : List SV) (ins : ClassFile.Instr) : Option (MI × Nat × List SV × List SV) := match ins with
  | .invokestatic k => match cTab ow k with
    | some (kd, n) => if kd = 2 ∨ kd = 3 then (match sTab ow k 99 with
      | some (kd', n', q) => if (kd' = kd ∧ n' = n) ∧ n ≤ st.length then cGo d q (st.take n).reverse (st.drop n) else none
      | none => none) else none
    | none => none
  | .invokevirtual k => match cTab ow k with
    | some (kd, n) => if kd = 0 ∨ kd = 4 then (match st[n]? with
      | some (.inr (.inr (.inl a))) => match sTab ow k (cK a) with
        | some (kd', n', q) => if kd' = kd ∧ n' = n then cGo d q (.inr (.inr (.inl a)) :: (st.take n).reverse) (st.drop (n + 1)) else none
        | none => none
      | _ => none) else none
    | none => none
  | .invokespecial k => match cTab ow k with
    | some (kd, n) => if kd = 5 then (match st[n]? with
      | some (.inr (.inr (.inl a))) => match sTab ow k 0 with
        | some (kd', n', q) => if (kd' = kd ∧ n' = n) ∧ cK a = ow then cGo d q (.inr (.inr (.inl a)) :: (st.take n).reverse) (st.drop (n + 1)) else none
        | none => none
      | _ => none) else none
    | none => none
  | _ => none
/-- how long an instruction is -/
def lnOk (ins : ClassFile.Instr) (len : Nat) : Bool := match ins with
  | .bipush _ => len == 2
  | .ldc _ => len == 2
  | .iload _ => len == 2
  | .lload _ => len == 2
  | .aload _ => len == 2
  | .istore _ => len == 2
  | .lstore _ => len == 2
  | .sipush _ => len == 3
  | .ldc_w _ => len == 3
  | .ldc2_w _ => len == 3
  | .iinc _ _ => len == 3
  | .goto _ => len == 3
  | .ifCond _ _ => len == 3
  | .if_icmp _ _ => len == 3
  | .getfield _ => len == 3
  | .putfield _ => len == 3
  | .getstatic _ => len == 3
  | .invokestatic _ => len == 3
  | .invokevirtual _ => len == 3
  | .invokespecial _ => len == 3
  | .tableswitch _ _ _ _ => true
  | _ => len == 1
def shRun : Nat → Nat → MI → Nat → List SV → List SV → Hp → Option (Option SV × Hp)
  | 0, _, _, _, _, _, _ => none
  | n + 1, d, q, pc, ls, st, g => match decode q.2.2.2.1 pc with
    | .error _ => none
    | .ok (ins, len) => if lnOk ins len = true then (match rx q.2.2.2.2.2 st ins with
      | some r => some (r, g)
      | none => match cx d q.1 st ins with
        | some (q', d', a, r) => (shRun n d' q' 0 (mkL q'.2.1 a) [] g).bind (fun z => shRun n d q (pc + 3) ls (z.1.toList ++ r) z.2)
        | none => (sx q.1 pc ls st g ins).bind (fun z => shRun n d q z.1 z.2.1 z.2.2.1 z.2.2.2)) else none
theorem shRun_mono1 {n : Nat} (ih : ∀ (d : Nat) (q : MI) (pc : Nat) (ls st : List SV) (g : Hp) (r : Option SV × Hp), shRun n d q pc ls st g = some r → shRun (n + 1) d q pc ls st g = some r) {d : Nat} {q : MI} {pc : Nat} {ls st : List SV} {g : Hp} {r : Option SV × Hp} {ins : ClassFile.Instr}
    (h : (match rx q.2.2.2.2.2 st ins with
      | some r => some (r, g)
      | none => match cx d q.1 st ins with
        | some (q', d', a, r) => (shRun n d' q' 0 (mkL q'.2.1 a) [] g).bind (fun z => shRun n d q (pc + 3) ls (z.1.toList ++ r) z.2)
        | none => (sx q.1 pc ls st g ins).bind (fun z => shRun n d q z.1 z.2.1 z.2.2.1 z.2.2.2)) = some r) :
    (match rx q.2.2.2.2.2 st ins with
      | some r => some (r, g)
      | none => match cx d q.1 st ins with
        | some (q', d', a, r) => (shRun (n + 1) d' q' 0 (mkL q'.2.1 a) [] g).bind (fun z => shRun (n + 1) d q (pc + 3) ls (z.1.toList ++ r) z.2)
        | none => (sx q.1 pc ls st g ins).bind (fun z => shRun (n + 1) d q z.1 z.2.1 z.2.2.1 z.2.2.2)) = some r := by
  cases hr : rx q.2.2.2.2.2 st ins with
  | some v => rw [hr] at h; simpa using h
  | none =>
    rw [hr] at h
    simp only at h ⊢
    cases hc : cx d q.1 st ins with
    | some z =>
      obtain ⟨q', d', a, r'⟩ := z
      rw [hc] at h
      simp only at h ⊢
      cases h1 : shRun n d' q' 0 (mkL q'.2.1 a) [] g with
      | none => rw [h1] at h; simp at h
      | some z1 =>
        rw [h1] at h
        rw [ih _ _ _ _ _ _ _ h1]
        simp only [Option.bind_some] at h ⊢
        exact ih _ _ _ _ _ _ _ h
    | none =>
      rw [hc] at h
      simp only at h ⊢
      cases h1 : sx q.1 pc ls st g ins with
      | none => rw [h1] at h; simp at h
      | some z1 =>
        rw [h1] at h
        simp only [Option.bind_some] at h ⊢
        exact ih _ _ _ _ _ _ _ h
theorem shRun_mono : ∀ (n : Nat) (d : Nat) (q : MI) (pc : Nat) (ls st : List SV) (g : Hp) (r : Option SV × Hp), shRun n d q pc ls st g = some r → shRun (n + 1) d q pc ls st g = some r := by
  intro n
  induction n with
  | zero => intro d q pc ls st g r h; simp [shRun] at h
  | succ n ih =>
    intro d q pc ls st g r h
    rw [shRun] at h ⊢
    cases hd : decode q.2.2.2.1 pc with
    | error e => rw [hd] at h; simp at h
    | ok z =>
      obtain ⟨ins, len⟩ := z
      rw [hd] at h
      simp only at h ⊢
      by_cases hln : lnOk ins len = true
      · rw [if_pos hln] at h ⊢
        exact shRun_mono1 ih h
      · rw [if_neg hln] at h
        cases h
theorem shRun_mono' {n m : Nat} (hnm : n ≤ m) {d : Nat} {q : MI} {pc : Nat} {ls st : List SV} {g : Hp} {r : Option SV × Hp} (h : shRun n d q pc ls st g = some r) : shRun m d q pc ls st g = some r := by
  induction hnm with
  | refl => exact h
  | step _ ih => exact shRun_mono _ _ _ _ _ _ _ _ ih
theorem shRun_det {n m : Nat} {d : Nat} {q : MI} {pc : Nat} {ls st : List SV} {g : Hp} {r r' : Option SV × Hp} (h : shRun n d q pc ls st g = some r) (h' : shRun m d q pc ls st g = some r') : r = r' := by
  have h1 := shRun_mono' (Nat.le_max_left n m) h
  have h2 := shRun_mono' (Nat.le_max_right n m) h'
  exact Option.some.inj (h1.symm.trans h2)
/-- what a frame comes to, if it comes to an end -/
noncomputable def EV (d : Nat) (q : MI) (pc : Nat) (ls st : List SV) (g : Hp) : Option (Option SV × Hp) :=
  @dite _ (∃ r n, shRun n d q pc ls st g = some r) (Classical.propDecidable _) (fun h => some (Classical.choose h)) (fun _ => none)
theorem EV_iff {d : Nat} {q : MI} {pc : Nat} {ls st : List SV} {g : Hp} {r : Option SV × Hp} : EV d q pc ls st g = some r ↔ ∃ n, shRun n d q pc ls st g = some r := by
  unfold EV
  constructor
  · intro h
    by_cases hx : ∃ r n, shRun n d q pc ls st g = some r
    · rw [dif_pos hx] at h
      obtain ⟨n, hn⟩ := Classical.choose_spec hx
      cases Option.some.inj h
      exact ⟨n, hn⟩
    · rw [dif_neg hx] at h
      cases h
  · rintro ⟨n, hn⟩
    have hx : ∃ r n, shRun n d q pc ls st g = some r := ⟨r, n, hn⟩
    rw [dif_pos hx]
    obtain ⟨m, hm⟩ := Classical.choose_spec hx
    rw [shRun_det hn hm]
theorem EV_ext {d d' : Nat} {q q' : MI} {pc pc' : Nat} {ls st ls' st' : List SV} {g g' : Hp} (h : ∀ r, EV d q pc ls st g = some r ↔ EV d' q' pc' ls' st' g' = some r) : EV d q pc ls st g = EV d' q' pc' ls' st' g' := by
  cases h1 : EV d' q' pc' ls' st' g' with
  | some r => exact (h r).mpr h1
  | none =>
    cases h2 : EV d q pc ls st g with
    | none => rfl
    | some r => rw [(h r).mp h2] at h1; cases h1
theorem shRun_succ (n d : Nat) (q : MI) (pc : Nat) (ls st : List SV) (g : Hp) {ins : ClassFile.Instr} {len : Nat} (hd : decode q.2.2.2.1 pc = .ok (ins, len)) (hl : lnOk ins len = true) : shRun (n + 1) d q pc ls st g = match rx q.2.2.2.2.2 st ins with
      | some r => some (r, g)
      | none => match cx d q.1 st ins with
        | some (q', d', a, r) => (shRun n d' q' 0 (mkL q'.2.1 a) [] g).bind (fun z => shRun n d q (pc + 3) ls (z.1.toList ++ r) z.2)
        | none => (sx q.1 pc ls st g ins).bind (fun z => shRun n d q z.1 z.2.1 z.2.2.1 z.2.2.2) := by
  rw [shRun, hd]
  simp only [hl, if_true]
theorem ev_sx {d : Nat} {q : MI} {pc : Nat} {ls st : List SV} {g : Hp} {ins : ClassFile.Instr} {len : Nat} {pc' : Nat} {ls' st' : List SV} {g' : Hp} (hd : decode q.2.2.2.1 pc = .ok (ins, len)) (hl : lnOk ins len = true) (hr : rx q.2.2.2.2.2 st ins = none) (hc : cx d q.1 st ins = none) (hs : sx q.1 pc ls st g ins = some (pc', ls', st', g')) : EV d q pc ls st g = EV d q pc' ls' st' g' := by
  refine EV_ext fun r => ?_
  rw [EV_iff, EV_iff]
  constructor
  · rintro ⟨n, hn⟩
    cases n with
    | zero => simp [shRun] at hn
    | succ n =>
      rw [shRun_succ _ _ _ _ _ _ _ hd hl, hr, hc, hs] at hn
      exact ⟨n, hn⟩
  · rintro ⟨n, hn⟩
    refine ⟨n + 1, ?_⟩
    rw [shRun_succ _ _ _ _ _ _ _ hd hl, hr, hc, hs]
    exact hn
theorem ev_ret {d : Nat} {q : MI} {pc : Nat} {ls st : List SV} {g : Hp} {ins : ClassFile.Instr} {len : Nat} {r : Option SV} (hd : decode q.2.2.2.1 pc = .ok (ins, len)) (hl : lnOk ins len = true) (hr : rx q.2.2.2.2.2 st ins = some r) : EV d q pc ls st g = some (r, g) := by
  rw [EV_iff]
  refine ⟨1, ?_⟩
  rw [shRun_succ _ _ _ _ _ _ _ hd hl, hr]
theorem ev_call {d : Nat} {q : MI} {pc : Nat} {ls st : List SV} {g : Hp} {ins : ClassFile.Instr} {len : Nat} {q' : MI} {d' : Nat} {a r : List SV} (hd : decode q.2.2.2.1 pc = .ok (ins, len)) (hl : lnOk ins len = true) (hr : rx q.2.2.2.2.2 st ins = none) (hc : cx d q.1 st ins = some (q', d', a, r)) : EV d q pc ls st g = (EV d' q' 0 (mkL q'.2.1 a) [] g).bind (fun z => EV d q (pc + 3) ls (z.1.toList ++ r) z.2) := by
  cases h1 : EV d' q' 0 (mkL q'.2.1 a) [] g with
  | none =>
    show EV d q pc ls st g = none
    cases h2 : EV d q pc ls st g with
    | none => rfl
    | some x =>
      obtain ⟨n, hn⟩ := EV_iff.mp h2
      cases n with
      | zero => simp [shRun] at hn
      | succ n =>
        rw [shRun_succ _ _ _ _ _ _ _ hd hl, hr, hc] at hn
        simp only at hn
        cases h3 : shRun n d' q' 0 (mkL q'.2.1 a) [] g with
        | none => rw [h3] at hn; simp at hn
        | some z => rw [EV_iff.mpr ⟨n, h3⟩] at h1; cases h1
  | some z =>
    rw [Option.bind_some]
    refine EV_ext fun x => ?_
    obtain ⟨n0, hn0⟩ := EV_iff.mp h1
    rw [EV_iff, EV_iff]
    constructor
    · rintro ⟨n, hn⟩
      cases n with
      | zero => simp [shRun] at hn
      | succ n =>
        rw [shRun_succ _ _ _ _ _ _ _ hd hl, hr, hc] at hn
        simp only at hn
        cases h3 : shRun n d' q' 0 (mkL q'.2.1 a) [] g with
        | none => rw [h3] at hn; simp at hn
        | some z' =>
          rw [h3, Option.bind_some] at hn
          have := shRun_det h3 hn0
          subst this
          exact ⟨n, hn⟩
    · rintro ⟨n, hn⟩
      refine ⟨max n0 n + 1, ?_⟩
      rw [shRun_succ _ _ _ _ _ _ _ hd hl, hr, hc]
      simp only
      rw [shRun_mono' (Nat.le_max_left n0 n) hn0, Option.bind_some]
      exact shRun_mono' (Nat.le_max_right n0 n) hn
