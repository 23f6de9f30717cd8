/-! THE SHADOW IS SOUND, first half: values, cells, locals; one instruction -/
def rv (ad : Nat → Nat) (v : SV) : Value := match v with
  | .inl x => .int (Int32.ofInt x)
  | .inr (.inl x) => .long (Int64.ofInt x)
  | .inr (.inr (.inl a)) => .ref (ad a)
  | .inr (.inr (.inr _)) => .null
def okV (v : SV) : Prop := match v with
  | .inl x => ir x
  | .inr (.inl x) => lr x
  | .inr (.inr _) => True
def lgS (a : Nat) (i : Int) : Bool := cK a == 101 || (cK a == 12 && i == 23)
def okH (g : Hp) : Prop := ∀ a i, (lgS a i = true → lr (g a i)) ∧ (lgS a i = false → ir (g a i))
def aTy (k : Nat) : FieldType := match k with
  | 100 => .int
  | 101 => .long
  | 102 => .boolean
  | 103 => .object RX7
  | _ => .object RX2
def fV (ad : Nat → Nat) (g : Hp) (ci k i : Nat) : Value := match fTy ci i with
  | 0 => .int (Int32.ofInt (g k i))
  | 1 => .long (Int64.ofInt (g k i))
  | _ => .ref (ad (cRef k i))
def arrE (ad : Nat → Nat) (g : Hp) (k : Nat) : (Nat → Int32) ⊕ (Nat → Int64) ⊕ (Nat → UInt32) ⊕ (Nat → UInt64) ⊕ (Nat → Option Nat) :=
  if cK k = 101 then .inr (.inl (fun i => Int64.ofInt (g k i))) else if cK k = 103 ∨ cK k = 104 then .inr (.inr (.inr (.inr (fun i => some (ad (cRef k i)))))) else .inl (fun i => Int32.ofInt (g k i))
def ent (ad : Nat → Nat) (cA : Nat → ClassId) (g : Hp) (k : Nat) : va_E :=
  if cK k < 100 then .inr (cK k, (List.range (fNm (cK k))).map (fun i => fV ad g (cK k) k i)) else .inl (cA k, cLn k, arrE ad g k)
def wl (ad : Nat → Nat) (cA : Nat → ClassId) (g : Hp) : va_W := (List.range cNum).map (fun k => (ad k, ent ad cA g k))
def ShA (ad : Nat → Nat) : Nat → Prop := fun q => ∃ k, k < cNum ∧ q = ad k
theorem cK_lt {a : Nat} (h : cK a ≠ 999) : a < cNum := by
  by_cases hl : a < cNum
  · exact hl
  · exfalso
    apply h
    have : cKl.length = cNum := rfl
    simp [cK, List.getD, List.getElem?_eq_none (show cKl.length ≤ a by omega)]
theorem wl_get (ad : Nat → Nat) (cA : Nat → ClassId) (g : Hp) {k : Nat} (hk : k < cNum) : (wl ad cA g)[k]? = some (ad k, ent ad cA g k) := by
  simp [wl, hk]
theorem ent_congr {ad : Nat → Nat} {cA : Nat → ClassId} {g g' : Hp} {k : Nat} (h : ∀ i : Int, g k i = g' k i) : ent ad cA g k = ent ad cA g' k := by
  have e1 : (fun i => fV ad g (cK k) k i) = (fun i => fV ad g' (cK k) k i) := by funext i; simp only [fV, h i]
  have e2 : arrE ad g k = arrE ad g' k := by simp only [arrE, h]
  simp only [ent, e1, e2]
theorem wl_set {ad : Nat → Nat} {cA : Nat → ClassId} {g g' : Hp} {k : Nat} {e : va_E} (he : ent ad cA g' k = e) (h : ∀ j, j ≠ k → ∀ i : Int, g' j i = g j i) : (wl ad cA g).set k (ad k, e) = wl ad cA g' := by
  apply List.ext_getElem?
  intro j
  by_cases hj : j < cNum
  · by_cases hjk : j = k
    · subst hjk
      rw [List.getElem?_set_self (by simp [wl, hj]), wl_get _ _ _ hj, he]
    · rw [List.getElem?_set_ne (fun e => hjk e.symm), wl_get _ _ _ hj, wl_get _ _ _ hj, ent_congr (h j hjk)]
  · have h1 : (wl ad cA g').length = cNum := by simp [wl]
    have h2 : ((wl ad cA g).set k (ad k, e)).length = cNum := by simp [wl]
    rw [List.getElem?_eq_none (by omega), List.getElem?_eq_none (by omega)]
theorem wl_D {ad : Nat → Nat} (cA : Nat → ClassId) (g : Hp) (hinj : ∀ i j, i < cNum → j < cNum → ad i = ad j → i = j) : va_D (ShA ad) (wl ad cA g) := by
  have key : ∀ (k : Nat) (q : Nat × va_E), (wl ad cA g)[k]? = some q → k < cNum ∧ q.1 = ad k := by
    intro k q hk
    have hl : k < cNum := by
      have := (List.getElem?_eq_some_iff.mp hk).1
      simpa [wl] using this
    rw [wl_get _ _ _ hl] at hk
    cases hk
    exact ⟨hl, rfl⟩
  refine ⟨fun i j p q hi hj hpq => ?_, fun k q hk => ?_⟩
  · obtain ⟨a1, a2⟩ := key i p hi
    obtain ⟨b1, b2⟩ := key j q hj
    exact hinj i j a1 b1 (by rw [← a2, ← b2, hpq])
  · obtain ⟨a1, a2⟩ := key k q hk
    exact ⟨k, a1, a2⟩
theorem ir_of (z : Int32) : ir z.toInt := ⟨by have := Int32.le_toInt z; simpa using this, by have := Int32.toInt_lt z; simpa using this⟩
theorem lr_of (z : Int64) : lr z.toInt := ⟨by have := Int64.le_toInt z; simpa using this, by have := Int64.toInt_lt z; simpa using this⟩
theorem i32_ti {x : Int} (h : ir x) : (Int32.ofInt x).toInt = x := Int32.toInt_ofInt_of_le (by have := h.1; omega) (by have := h.2; omega)
theorem i64_ti {x : Int} (h : lr x) : (Int64.ofInt x).toInt = x := Int64.toInt_ofInt_of_le (by have := h.1; omega) (by have := h.2; omega)
theorem w32_id {x : Int} (h : ir x) : w32 x = x := i32_ti h
theorem w64_id {x : Int} (h : lr x) : w64 x = x := i64_ti h
theorem w32_ir (x : Int) : ir (w32 x) := ir_of _
theorem w64_lr (x : Int) : lr (w64 x) := lr_of _
theorem o32 (z : Int32) : Int32.ofInt z.toInt = z := Int32.ofInt_toInt z
theorem o64 (z : Int64) : Int64.ofInt z.toInt = z := Int64.ofInt_toInt z
theorem i32_lt {a b : Int} (ha : ir a) (hb : ir b) : Int32.ofInt a < Int32.ofInt b ↔ a < b := by rw [Int32.lt_iff_toInt_lt, i32_ti ha, i32_ti hb]
theorem i32_le {a b : Int} (ha : ir a) (hb : ir b) : Int32.ofInt a ≤ Int32.ofInt b ↔ a ≤ b := by rw [Int32.le_iff_toInt_le, i32_ti ha, i32_ti hb]
theorem i32_eq {a b : Int} (ha : ir a) (hb : ir b) : Int32.ofInt a = Int32.ofInt b ↔ a = b := by rw [← Int32.toInt_inj, i32_ti ha, i32_ti hb]
theorem i64_lt {a b : Int} (ha : lr a) (hb : lr b) : Int64.ofInt a < Int64.ofInt b ↔ a < b := by rw [Int64.lt_iff_toInt_lt, i64_ti ha, i64_ti hb]
theorem i64_eq {a b : Int} (ha : lr a) (hb : lr b) : Int64.ofInt a = Int64.ofInt b ↔ a = b := by rw [← Int64.toInt_inj, i64_ti ha, i64_ti hb]
theorem i32_cl {x : Int} (h : ir x) : (Int32.ofInt x).toNatClampNeg = x.toNat := by
  show (Int32.ofInt x).toInt.toNat = x.toNat
  rw [i32_ti h]
theorem i32_in {x : Int} {n : Nat} (h : ir x) (h0 : 0 ≤ x) (hn : x < n) : vp_in (Int32.ofInt x) n := by
  intro hh
  rcases hh with hh | hh
  · have : Int32.ofInt x < Int32.ofInt 0 := hh
    rw [i32_lt h (by decide)] at this
    omega
  · rw [i32_cl h] at hh
    omega
theorem i32_nn {x : Int} (h : ir x) (h0 : 0 ≤ x) : ¬ Int32.ofInt x < 0 := by
  intro hh
  have : Int32.ofInt x < Int32.ofInt 0 := hh
  rw [i32_lt h (by decide)] at this
  omega
theorem i32_add (a b : Int) : Int32.ofInt a + Int32.ofInt b = Int32.ofInt (w32 (a + b)) := by rw [w32, o32, Int32.ofInt_add]
theorem i32_sub (a b : Int) : Int32.ofInt a - Int32.ofInt b = Int32.ofInt (w32 (a - b)) := by rw [w32, o32, Int32.ofInt_sub]
theorem i32_mul (a b : Int) : Int32.ofInt a * Int32.ofInt b = Int32.ofInt (w32 (a * b)) := by rw [w32, o32, Int32.ofInt_mul]
theorem i64_add (a b : Int) : Int64.ofInt a + Int64.ofInt b = Int64.ofInt (w64 (a + b)) := by rw [w64, o64, Int64.ofInt_add]
theorem i64_sub (a b : Int) : Int64.ofInt a - Int64.ofInt b = Int64.ofInt (w64 (a - b)) := by rw [w64, o64, Int64.ofInt_sub]
theorem i64_mul (a b : Int) : Int64.ofInt a * Int64.ofInt b = Int64.ofInt (w64 (a * b)) := by rw [w64, o64, Int64.ofInt_mul]
theorem i32_div {a b : Int} (ha : ir a) (hb : ir b) (h0 : 0 ≤ a) (h1 : 0 < b) : Int32.ofInt a / Int32.ofInt b = Int32.ofInt (a / b) := by
  have h2 : ir (a / b) := by
    have h3 := Int.ediv_nonneg h0 (Int.le_of_lt h1)
    have h4 := Int.ediv_le_self b h0
    exact ⟨by omega, by have := ha.2; omega⟩
  rw [← Int32.toInt_inj, i32_ti h2, Int32.toInt_div_of_ne_right]
  · rw [i32_ti ha, i32_ti hb, Int.tdiv_eq_ediv_of_nonneg h0]
  · intro h
    have := (i32_eq hb (show ir (-1) by decide)).mp h
    omega
theorem i32_rem {a b : Int} (ha : ir a) (hb : ir b) (h0 : 0 ≤ a) (h1 : 0 < b) : Int32.ofInt a - Int32.ofInt a / Int32.ofInt b * Int32.ofInt b = Int32.ofInt (a % b) := by
  rw [i32_div ha hb h0 h1, ← Int32.ofInt_mul, ← Int32.ofInt_sub]
  congr 1
  have := Int.mul_ediv_add_emod a b
  rw [Int.mul_comm (a / b) b]
  omega
theorem rem_ir {a b : Int} (ha : ir a) (hb : ir b) (h1 : 0 < b) : ir (a % b) := by
  have h2 := Int.emod_nonneg a (by omega : b ≠ 0)
  have h3 := Int.emod_lt_of_pos a h1
  exact ⟨by omega, by have := hb.2; omega⟩
theorem div_ir {a b : Int} (ha : ir a) (h0 : 0 ≤ a) (h1 : 0 < b) : ir (a / b) := by
  have h3 := Int.ediv_nonneg h0 (Int.le_of_lt h1)
  have h4 := Int.ediv_le_self b h0
  exact ⟨by omega, by have := ha.2; omega⟩
/-! locals -/
def isU (v : SV) : Bool := match v with
  | .inr (.inr (.inr _)) => true
  | _ => false
def lvl (ad : Nat → Nat) (ls : List SV) : List (Nat × Value) := ls.zipIdx.filterMap (fun q => if isU q.1 then none else some (q.2, rv ad q.1))
theorem lvl_mem {ad : Nat → Nat} {ls : List SV} {k : Nat} {w : Value} : (k, w) ∈ lvl ad ls ↔ ∃ v, ls[k]? = some v ∧ isU v = false ∧ w = rv ad v := by
  unfold lvl
  rw [List.mem_filterMap]
  constructor
  · rintro ⟨⟨v, i⟩, h1, h2⟩
    rw [List.mk_mem_zipIdx_iff_getElem?] at h1
    by_cases hu : isU v = true
    · simp [hu] at h2
    · simp [hu] at h2
      obtain ⟨rfl, rfl⟩ := h2
      exact ⟨v, h1, by simpa using hu, rfl⟩
  · rintro ⟨v, h1, h2, rfl⟩
    refine ⟨(v, k), ?_, by simp [h2]⟩
    rw [List.mk_mem_zipIdx_iff_getElem?]
    exact h1
theorem lvl_at {ad : Nat → Nat} {ls : List SV} {ra : Array Slot} {nL k : Nat} {v : SV} (h : lv_has ra nL (lvl ad ls)) (hk : ls[k]? = some v) (hu : isU v = false) : ra[k]? = some (.val (rv ad v)) :=
  h.2.2 (k, rv ad v) (lvl_mem.mpr ⟨v, hk, hu, rfl⟩)
theorem lv_less {ra : Array Slot} {nL : Nat} {l l' : List (Nat × Value)} (h : lv_has ra nL l) (hs : ∀ q ∈ l', q ∈ l) : lv_has ra nL l' := ⟨h.1, h.2.1, fun q hq => h.2.2 q (hs q hq)⟩
theorem kl_len (ls : List SV) (k : Nat) : (kl ls k).length = ls.length := by
  unfold kl
  cases k with
  | zero => rfl
  | succ j => simp only; split <;> simp
theorem kl_get {ls : List SV} {k j : Nat} {v : SV} (h : (kl ls k)[j]? = some v) (hu : isU v = false) : ls[j]? = some v ∧ ¬ (j + 1 = k ∧ cat v = 2) := by
  unfold kl at h
  cases k with
  | zero => exact ⟨h, by omega⟩
  | succ m =>
    simp only at h
    split at h
    · by_cases hjm : j = m
      · subst hjm
        rename_i y hy
        rw [List.getElem?_set_self (List.getElem?_eq_some_iff.mp hy).1] at h
        cases h
        simp [isU] at hu
      · rw [List.getElem?_set_ne (fun e => hjm e.symm)] at h
        exact ⟨h, fun e => hjm (by omega)⟩
    · rename_i hno
      refine ⟨h, fun e => ?_⟩
      have hjm : j = m := by omega
      subst hjm
      rcases v with x | x | x
      · simp [cat] at e
      · exact hno x h
      · simp [cat] at e
theorem st1_sub {ad : Nat → Nat} {ls : List SV} {k : Nat} {v : SV} (hc : cat v = 1) : ∀ q ∈ lvl ad (st1 ls k v), q ∈ (k, rv ad v) :: (lvl ad ls).filter (fun q => !(q.1 == k) && !(q.1 + 1 == k && q.2.category == 2)) := by
  rintro ⟨j, w⟩ hq
  obtain ⟨u, h1, h2, rfl⟩ := lvl_mem.mp hq
  unfold st1 at h1
  by_cases hjk : j = k
  · subst hjk
    have hl : j < (kl ls j).length := by
      have := (List.getElem?_eq_some_iff.mp h1).1
      simpa using this
    rw [List.getElem?_set_self hl] at h1
    cases h1
    exact List.mem_cons_self
  · rw [List.getElem?_set_ne (fun e => hjk e.symm)] at h1
    obtain ⟨h3, h4⟩ := kl_get h1 h2
    refine List.mem_cons_of_mem _ (List.mem_filter.mpr ⟨lvl_mem.mpr ⟨u, h3, h2, rfl⟩, ?_⟩)
    have : ¬ (j + 1 = k ∧ (rv ad u).category = 2) := by
      rintro ⟨e1, e2⟩
      refine h4 ⟨e1, ?_⟩
      rcases u with x | x | x | x
      · simp [rv, Value.category] at e2
      · rfl
      · simp [rv, Value.category] at e2
      · simp [rv, Value.category] at e2
    simp only [Bool.and_eq_true, Bool.not_eq_true', beq_eq_false_iff_ne, ne_eq, Bool.and_eq_false_iff]
    refine ⟨hjk, ?_⟩
    by_cases e1 : j + 1 = k
    · exact Or.inr (fun e2 => this ⟨e1, e2⟩)
    · exact Or.inl e1
theorem st2_sub {ad : Nat → Nat} {ls : List SV} {k : Nat} {v : SV} : ∀ q ∈ lvl ad (st2 ls k v), q ∈ (k, rv ad v) :: (lvl ad ls).filter (fun q => !(q.1 == k) && (!(q.1 == k + 1) && !(q.1 + 1 == k && q.2.category == 2))) := by
  rintro ⟨j, w⟩ hq
  obtain ⟨u, h1, h2, rfl⟩ := lvl_mem.mp hq
  unfold st2 at h1
  by_cases hj2 : j = k + 1
  · subst hj2
    have hl : k + 1 < ((kl ls k).set k v).length := by
      have := (List.getElem?_eq_some_iff.mp h1).1
      simpa using this
    rw [List.getElem?_set_self hl] at h1
    cases h1
    simp [isU] at h2
  · rw [List.getElem?_set_ne (fun e => hj2 e.symm)] at h1
    by_cases hjk : j = k
    · subst hjk
      have hl : j < (kl ls j).length := by
        have := (List.getElem?_eq_some_iff.mp h1).1
        simpa using this
      rw [List.getElem?_set_self hl] at h1
      cases h1
      exact List.mem_cons_self
    · rw [List.getElem?_set_ne (fun e => hjk e.symm)] at h1
      obtain ⟨h3, h4⟩ := kl_get h1 h2
      refine List.mem_cons_of_mem _ (List.mem_filter.mpr ⟨lvl_mem.mpr ⟨u, h3, h2, rfl⟩, ?_⟩)
      have : ¬ (j + 1 = k ∧ (rv ad u).category = 2) := by
        rintro ⟨e1, e2⟩
        refine h4 ⟨e1, ?_⟩
        rcases u with x | x | x | x
        · simp [rv, Value.category] at e2
        · rfl
        · simp [rv, Value.category] at e2
        · simp [rv, Value.category] at e2
      simp only [Bool.and_eq_true, Bool.not_eq_true', beq_eq_false_iff_ne, ne_eq, Bool.and_eq_false_iff]
      refine ⟨hjk, hj2, ?_⟩
      by_cases e1 : j + 1 = k
      · exact Or.inr (fun e2 => this ⟨e1, e2⟩)
      · exact Or.inl e1
theorem set_ok {ls : List SV} {k : Nat} {v : SV} (h : ∀ x ∈ ls, okV x) (hv : okV v) : ∀ x ∈ ls.set k v, okV x := fun x hx => (List.mem_or_eq_of_mem_set hx).elim (h x) (fun e => e ▸ hv)
theorem kl_ok {ls : List SV} {k : Nat} (h : ∀ x ∈ ls, okV x) : ∀ x ∈ kl ls k, okV x := by
  unfold kl
  cases k with
  | zero => exact h
  | succ j =>
    simp only
    split
    · exact set_ok h trivial
    · exact h
