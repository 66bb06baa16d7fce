/-- the answer and the heap, told exactly -/
abbrev Ret (v : Option Value) (h : HT) : Option Value → HT → Prop := fun v' h' => v' = v ∧ h' = h
/-- an index is looked at before the row is -/
def chk {α : Type} (i : Int32) (n : Nat) (b : Option α) : Option α := if i < 0 ∨ n ≤ i.toNatClampNeg then none else b
theorem chk_some {α : Type} {i : Int32} {n : Nat} {b : Option α} {r : α} (h : chk i n b = some r) : vp_in i n ∧ b = some r := by
  unfold chk at h
  by_cases hc : i < 0 ∨ n ≤ i.toNatClampNeg
  · rw [if_pos hc] at h
    cases h
  · rw [if_neg hc] at h
    exact ⟨hc, h⟩
theorem chk_in {α : Type} {i : Int32} {n : Nat} {b : Option α} (h : vp_in i n) : chk i n b = b := by
  unfold chk
  exact if_neg h
/-- a divisor is looked at -/
def nz {α : Type} (z : Int32) (b : Option α) : Option α := if z = 0 then none else b
theorem nz_some {α : Type} {z : Int32} {b : Option α} {r : α} (h : nz z b = some r) : ¬ z = 0 ∧ b = some r := by
  unfold nz at h
  by_cases hc : z = 0
  · rw [if_pos hc] at h
    cases h
  · rw [if_neg hc] at h
    exact ⟨hc, h⟩
def nzl {α : Type} (z : Int64) (b : Option α) : Option α := if z = 0 then none else b
theorem nzl_some {α : Type} {z : Int64} {b : Option α} {r : α} (h : nzl z b = some r) : ¬ z = 0 ∧ b = some r := by
  unfold nzl at h
  by_cases hc : z = 0
  · rw [if_pos hc] at h
    cases h
  · rw [if_neg hc] at h
    exact ⟨hc, h⟩
def lenT (T : Nat → Option (Nat × Nat)) (a : Nat) : Nat := match T a with
  | some q => q.2
  | none => 0
/-- an object with its cells behind it: their shapes, and the references among them -/
def isOb (sh : Nat → Option (Nat × Nat)) (rf : Nat → Nat → Option Nat) (T : Nat → Option (Nat × Nat)) (P : Nat → Nat → Option Nat) (a : Nat) : Prop := (∀ k q, sh k = some q → T (a + k) = some q) ∧ ∀ k i r, rf k i = some r → P (a + k) i = some (a + r)
def shSt (k : Nat) : Option (Nat × Nat) := if k = 0 then some (8, 0) else if k ≤ 6 then some (20, 6) else none
def rfSt (k i : Nat) : Option Nat := if k = 0 ∧ 4 ≤ i ∧ i ≤ 9 then some (i - 3) else none
abbrev isSt := isOb shSt rfSt
def shMm (k : Nat) : Option (Nat × Nat) := if k = 0 then some (3, 0) else if k = 1 then some (20, 5) else none
def rfMm (k i : Nat) : Option Nat := if k = 0 ∧ i = 0 then some 1 else none
abbrev isMm := isOb shMm rfMm
def shTy (k : Nat) : Option (Nat × Nat) := if k = 0 then some (9, 0) else if k = 1 then some (22, 40) else none
abbrev isTy := isOb shTy rfMm
def shCt (k : Nat) : Option (Nat × Nat) := match k with
  | 0 => some (1, 0)
  | 1 => some (20, 6)
  | 2 => some (20, 6)
  | 3 => some (20, 4)
  | 4 => some (20, 6)
  | 5 => some (20, 7)
  | 6 => some (20, 64)
  | 7 => some (20, 6)
  | _ => none
def rfCt (k i : Nat) : Option Nat := match k, i with
  | 0, 4 => some 1
  | 0, 5 => some 2
  | 0, 6 => some 3
  | 0, 7 => some 4
  | 0, 10 => some 5
  | 0, 11 => some 6
  | 0, 12 => some 7
  | _, _ => none
def isLw (T : Nat → Option (Nat × Nat)) (P : Nat → Nat → Option Nat) (w : Nat) : Prop := T w = some (2, 0) ∧ T (w + 1) = some (20, lenT T (w + 1)) ∧ P w 0 = some (w + 1)
/-- a Court, with its laws, where it has some -/
def isCt (T : Nat → Option (Nat × Nat)) (P : Nat → Nat → Option Nat) (c : Nat) : Prop := isOb shCt rfCt T P c ∧ (∀ w, P c 8 = some w → isLw T P w) ∧ ∀ w, P c 9 = some w → isLw T P w
section VP
variable {l : Launch} {D : va_G} {E : Nat → ClassId} {B : Nat → Prop} {y : MethodName} {cc : ByteArray} {nL : Nat} {ret : Option FieldType} {d mc ms : Nat} {Q : Option Value → HT → Prop} {cells slots : Nat} {pc : Nat} {vs : List (Nat × Option Value)} {st : List Value}
variable {n : Nat} {T : Nat → Option (Nat × Nat)} {I : Nat → Nat → Int32} {J : Nat → Nat → Int64} {P : Nat → Nat → Option Nat}
/-! the same rules, the new heap under a name -/
theorem V.putiE {a idx c k z : Nat} {ty : FieldType} {fin : Bool} {x : Int32} (F : FL y.cls idx c k ty fin) (hd : decode cc pc = .ok (.putfield idx, 3)) (hT : T a = some (c, z)) (hc : c < 20) (hfi : fin = true → y.name = "<init>" ∧ ∃ q, classes[c]? = some (y.cls, q)) (hn : narrow ty (.int x) = .int x) (hf : fits ty (.int x) = true) (hset : (flds c (I a) (J a) (P a)).set k (.int x) = flds c (upd (I a) k x) (J a) (P a)) (hlen : k < (flds c (I a) (J a) (P a)).length)
    (kk : ∀ I1, I1 = uI I a k x → V l D E B y cc nL ret d mc ms Q cells slots (n, T, I1, J, P) (pc + 3) vs st) : V l D E B y cc nL ret d mc ms Q cells slots (n, T, I, J, P) pc vs (.int x :: .ref a :: st) := V.puti F hd hT hc hfi hn hf hset hlen (kk _ rfl)
theorem V.putlE {a idx c k z : Nat} {ty : FieldType} {fin : Bool} {x : Int64} (F : FL y.cls idx c k ty fin) (hd : decode cc pc = .ok (.putfield idx, 3)) (hT : T a = some (c, z)) (hc : c < 20) (hfi : fin = true → y.name = "<init>" ∧ ∃ q, classes[c]? = some (y.cls, q)) (hn : narrow ty (.long x) = .long x) (hf : fits ty (.long x) = true) (hset : (flds c (I a) (J a) (P a)).set k (.long x) = flds c (I a) (vp_updL (J a) k x) (P a)) (hlen : k < (flds c (I a) (J a) (P a)).length)
    (kk : ∀ J1, J1 = uJ J a k x → V l D E B y cc nL ret d mc ms Q cells slots (n, T, I, J1, P) (pc + 3) vs st) : V l D E B y cc nL ret d mc ms Q cells slots (n, T, I, J, P) pc vs (.long x :: .ref a :: st) := V.putl F hd hT hc hfi hn hf hset hlen (kk _ rfl)
theorem V.iastE {a len : Nat} {i x : Int32} (hd : decode cc pc = .ok (.iastore, 1)) (hT : T a = some (20, len)) (hin : vp_in i len) (kk : ∀ I1, I1 = uI I a i.toNatClampNeg x → V l D E B y cc nL ret d mc ms Q cells slots (n, T, I1, J, P) (pc + 1) vs st) : V l D E B y cc nL ret d mc ms Q cells slots (n, T, I, J, P) pc vs (.int x :: .int i :: .ref a :: st) := V.iast hd hT hin (kk _ rfl)
theorem V.bastE {a len : Nat} {i x : Int32} (hd : decode cc pc = .ok (.bastore, 1)) (hT : T a = some (21, len)) (hin : vp_in i len) (kk : ∀ I1, I1 = uI I a i.toNatClampNeg (vp_nar .byte x) → V l D E B y cc nL ret d mc ms Q cells slots (n, T, I1, J, P) (pc + 1) vs st) : V l D E B y cc nL ret d mc ms Q cells slots (n, T, I, J, P) pc vs (.int x :: .int i :: .ref a :: st) := V.bast hd hT hin (kk _ rfl)
theorem V.zastE {a len : Nat} {i x : Int32} (hd : decode cc pc = .ok (.bastore, 1)) (hT : T a = some (23, len)) (hin : vp_in i len) (kk : ∀ I1, I1 = uI I a i.toNatClampNeg (vp_nar .boolean x) → V l D E B y cc nL ret d mc ms Q cells slots (n, T, I1, J, P) (pc + 1) vs st) : V l D E B y cc nL ret d mc ms Q cells slots (n, T, I, J, P) pc vs (.int x :: .int i :: .ref a :: st) := V.zast hd hT hin (kk _ rfl)
theorem V.lastE {a len : Nat} {i : Int32} {x : Int64} (hd : decode cc pc = .ok (.lastore, 1)) (hT : T a = some (22, len)) (hin : vp_in i len) (kk : ∀ J1, J1 = uJ J a i.toNatClampNeg x → V l D E B y cc nL ret d mc ms Q cells slots (n, T, I, J1, P) (pc + 1) vs st) : V l D E B y cc nL ret d mc ms Q cells slots (n, T, I, J, P) pc vs (.long x :: .int i :: .ref a :: st) := V.last hd hT hin (kk _ rfl)
theorem V.nnQ {r : Option Nat} {off : Int} (tgt : Nat) (hd : decode cc pc = .ok (.ifnonnull off, 3)) (ht : (pc : Int) + off = (tgt : Int)) {h : HT} (kn : r = none → V l D E B y cc nL ret d mc ms Q cells slots h (pc + 3) vs st) (ks : ∀ w, r = some w → V l D E B y cc nL ret d mc ms Q cells slots h tgt vs st) : V l D E B y cc nL ret d mc ms Q cells slots h pc vs (va_rf r :: st) := by
  cases r with
  | none => exact V.ifnonnullN hd (kn rfl)
  | some w => exact V.ifnonnull tgt hd ht (ks w rfl)
theorem V.nuQ {r : Option Nat} {off : Int} (tgt : Nat) (hd : decode cc pc = .ok (.ifnull off, 3)) (ht : (pc : Int) + off = (tgt : Int)) {h : HT} (kn : r = none → V l D E B y cc nL ret d mc ms Q cells slots h tgt vs st) (ks : ∀ w, r = some w → V l D E B y cc nL ret d mc ms Q cells slots h (pc + 3) vs st) : V l D E B y cc nL ret d mc ms Q cells slots h pc vs (va_rf r :: st) := by
  cases r with
  | none => exact V.ifnullN tgt hd ht (kn rfl)
  | some w => exact V.ifnull hd (ks w rfl)
end VP
theorem bnd_some {α β : Type} {x : Option α} {f : α → Option β} {r : β} (h : x.bind f = some r) : ∃ q, x = some q ∧ f q = some r := Option.bind_eq_some_iff.mp h
