/-! A layer of my own: the cells from an address B on as functions: shapes T, ints I, longs J, references P; a judgement V for a place in a method, a contract Ct -/
abbrev HT : Type := Nat × (Nat → Option (Nat × Nat)) × (Nat → Nat → Int32) × (Nat → Nat → Int64) × (Nat → Nat → Option Nat)
/-- a cell by its shape: 20 int[], 21 byte[], 22 long[], 23 boolean[], 24 Court[], 25 State[], 26 Tray[]; else an object of that class -/
def cel (E : Nat → ClassId) (sh : Nat × Nat) (i : Nat → Int32) (j : Nat → Int64) (r : Nat → Option Nat) : va_E :=
  if sh.1 = 20 then .inl (E 0, sh.2, .inl i) else if sh.1 = 21 then .inl (E 1, sh.2, .inl i) else if sh.1 = 22 then .inl (E 2, sh.2, .inr (.inl j)) else if sh.1 = 23 then .inl (E 3, sh.2, .inl i)
  else if sh.1 = 24 then .inl (E 4, sh.2, .inr (.inr (.inr (.inr r)))) else if sh.1 = 25 then .inl (E 5, sh.2, .inr (.inr (.inr (.inr r)))) else if sh.1 = 26 then .inl (E 6, sh.2, .inr (.inr (.inr (.inr r)))) else .inr (sh.1, flds sh.1 i j r)
def tys (E : Nat → ClassId) : List (ClassId × FieldType) := [(E 0, .int), (E 1, .byte), (E 2, .long), (E 3, .boolean), (E 4, .object RX1), (E 5, .object RX8), (E 6, .object RX9)]
def PIC (D : va_G) (E : Nat → ClassId) (B : Nat → Prop) (h : HT) (H : Heap) : Prop := H.size = h.1 ∧ ∀ (a : Nat) (sh : Nat × Nat), h.2.1 a = some sh → B a ∧ va_at D classes (a, cel E sh (h.2.2.1 a) (h.2.2.2.1 a) (h.2.2.2.2 a)) H
def isNest : Cond → Bool
  | .methodLinkNest _ _ _ _ => true
  | _ => false
/-- the String constants: whose pool, the place in it, the text, its bytes -/
def strs : List (String × Nat × String × List Int32) := [("StandRank$Reader", 95, "who mark strength tune beside up minute court person odds office tires pains if then else end not and or ", [119, 104, 111, 32, 109, 97, 114, 107, 32, 115, 116, 114, 101, 110, 103, 116, 104, 32, 116, 117, 110, 101, 32, 98, 101, 115, 105, 100, 101, 32, 117, 112, 32, 109, 105, 110, 117, 116, 101, 32, 99, 111, 117, 114, 116, 32, 112, 101, 114, 115, 111, 110, 32, 111, 100, 100, 115, 32, 111, 102, 102, 105, 99, 101, 32, 116, 105, 114, 101, 115, 32, 112, 97, 105, 110, 115, 32, 105, 102, 32, 116, 104, 101, 110, 32, 101, 108, 115, 101, 32, 101, 110, 100, 32, 110, 111, 116, 32, 97, 110, 100, 32, 111, 114, 32]), ("StandRank$Reader", 88, ";:+-*()[]=<>", [59, 58, 43, 45, 42, 40, 41, 91, 93, 61, 60, 62]), ("StandRankModel", 89, " court person strength mark tune odds office tires pains if then else end who beside up minute and or not ", [32, 99, 111, 117, 114, 116, 32, 112, 101, 114, 115, 111, 110, 32, 115, 116, 114, 101, 110, 103, 116, 104, 32, 109, 97, 114, 107, 32, 116, 117, 110, 101, 32, 111, 100, 100, 115, 32, 111, 102, 102, 105, 99, 101, 32, 116, 105, 114, 101, 115, 32, 112, 97, 105, 110, 115, 32, 105, 102, 32, 116, 104, 101, 110, 32, 101, 108, 115, 101, 32, 101, 110, 100, 32, 119, 104, 111, 32, 98, 101, 115, 105, 100, 101, 32, 117, 112, 32, 109, 105, 110, 117, 116, 101, 32, 97, 110, 100, 32, 111, 114, 32, 110, 111, 116, 32]), ("StandRankModel", 127, ";:+-*()[]=<>", [59, 58, 43, 45, 42, 40, 41, 91, 93, 61, 60, 62])]
/-- the constants' addresses stand in E behind the classes: the k-th String at E (100 + 2 k), its bytes at E (101 + 2 k) -/
def SX (E : Nat → ClassId) (B : Nat → Prop) (U : State) : Prop := (va_Z "java/lang/String" "COMPACT_STRINGS" "Z" (.int 1) B U U.heap ∧ ∀ C ∈ [RX1, RX8, RX9], va_AO C U) ∧ (∃ v : Value, (v = .null ∨ ∃ a, v = .ref a) ∧ va_Z "jdk/internal/util/Preconditions" "SIOOBE_FORMATTER" "Ljava/util/function/BiFunction;" v B U U.heap) ∧ ∀ (k : Nat) (o : String) (i : Nat) (t : String) (bs : List Int32), strs[k]? = some (o, i, t, bs) → vk_R o i t (E (100 + 2 * k)) U ∧ va_O "java/lang/String" (E (100 + 2 * k)) B U U.heap ∧ va_OF "java/lang/String" "coder" "B" (.int 0) (E (100 + 2 * k)) B U U.heap ∧ va_OF "java/lang/String" "value" "[B" (.ref (E (101 + 2 * k))) (E (100 + 2 * k)) B U U.heap ∧ va_T .byte (E (101 + 2 * k)) bs.length (fun j => .int (bs.getD j 0)) B U U.heap
theorem SX.go {E : Nat → ClassId} {B : Nat → Prop} {u U : State} (hvm : u.vm.Alike U.vm) (hR : ∀ (o : String) (i : Nat) (t : String) (q : Nat), vk_R o i t q u → vk_R o i t q U) (hq : ∀ a : Nat, a < u.heap.size → ¬ B a → U.heap[a]? = u.heap[a]?) (h : SX E B u) : SX E B U := by
  obtain ⟨v, hv, hz⟩ := h.2.1
  refine ⟨⟨(h.1.1.moved hvm).kept hq, fun C hC => (h.1.2 C hC).moved hvm⟩, ⟨v, hv, (hz.moved hvm).kept hq⟩, fun k o i t bs hk => ?_⟩
  obtain ⟨h1, h2, h3, h4, h5⟩ := h.2.2 k o i t bs hk
  exact ⟨hR _ _ _ _ h1, (h2.moved hvm).kept hq, (h3.moved hvm).kept hq, (h4.moved hvm).kept hq, (h5.moved hvm).kept hq⟩
def NW (E : Nat → ClassId) (B : Nat → Prop) (U : State) : Prop := (∀ w ∈ lw_tbl, isNest w = true → va_Nw w U) ∧ SX E B U
def EV (D : va_G) (E : Nat → ClassId) (B : Nat → Prop) (y : MethodName) (cc : ByteArray) (nL : Nat) (ret : Option FieldType) (p : Program) (s : State) (m : MethodId) (args : Array Value) (meth : Method) (c : Code) : Prop :=
  p.tables.exec = Jvm.exec ∧ c.code = cc ∧ meth.sig.returnType = ret ∧ c.maxLocals = nL ∧ s.vm.findClass y.cls = some m.cls ∧ (∀ w ∈ TBL, w.before args s = true) ∧ va_K D classes (tys E) s ∧ meth.locks = false ∧ meth.name = y.name ∧ NW E B s
def rm (d mc ms : Nat) : Room := { frames := d, cells := mc, slots := ms, locals := 64 * d }
/-- locals by their numbers, the latest first; none: it holds nothing that is known -/
def lk : List (Nat × Option Value) → Nat → Option Value
  | [], _ => none
  | (k, v) :: t, i => bif Nat.beq i k then v else lk t i
def Lo (ls : Array Slot) (nL : Nat) (vs : List (Nat × Option Value)) : Prop := ls.size = nL ∧ lv_wf ls ∧ ∀ (k : Nat) (v : Value), lk vs k = some v → ls[k]? = some (.val v)
def QQ (D : va_G) (E : Nat → ClassId) (B : Nat → Prop) (Q : Option Value → HT → Prop) : Array Value → State → Outcome → State → Prop := fun _ st oc t => (∃ (v : Option Value) (h' : HT), oc = .returned v ∧ Q v h' ∧ PIC D E B h' t.heap) ∧ va_F B st t
def V (l : Launch) (D : va_G) (E : Nat → ClassId) (B : Nat → Prop) (y : MethodName) (cc : ByteArray) (nL : Nat) (ret : Option FieldType) (d mc ms : Nat) (Q : Option Value → HT → Prop) (cells slots : Nat) (h : HT) (pc : Nat) (vs : List (Nat × Option Value)) (st : List Value) : Prop :=
  ∀ (p : Program) (e : Env) (s : State) (m : MethodId) (args : Array Value) (below : List Frame) (meth : Method) (c : Code) (H : Heap) (locs : List Loc) (ls : Array Slot), EV D E B y cc nL ret p s m args meth c → va_S B s.heap H locs → (∀ q, s.heap.size ≤ q → B q) → PIC D E B h H → Lo ls nL vs →
    W p l e (rm d mc ms) s m args below meth c H locs cells slots (MQ below (QQ D E B Q) args s mc ms B) (F0 m pc ls st)
def Ct (l : Launch) (D : va_G) (E : Nat → ClassId) (B : Nat → Prop) (y : MethodName) (cc : ByteArray) (nL : Nat) (ret : Option FieldType) (d mc ms : Nat) (av : List Value) (h : HT) (Q : Option Value → HT → Prop) : Prop :=
  Met l y (.code y cc nL ret :: TBL) (rm d mc ms) (va_Pc av (fun U => PIC D E B h U.heap ∧ va_K D classes (tys E) U ∧ NW E B U ∧ ∀ q, U.heap.size ≤ q → B q)) (QQ D E B Q) mc ms B
/-! locals -/
theorem lk_mem : ∀ (vs : List (Nat × Option Value)) (k : Nat) (v : Value), lk vs k = some v → (k, some v) ∈ vs
  | [], _, _, h => by cases h
  | (i, w) :: t, k, v, h => by
    unfold lk at h
    cases hb : Nat.beq k i with
    | true =>
      rw [hb] at h
      have e : k = i := Nat.eq_of_beq_eq_true hb
      subst e
      have h : w = some v := h
      subst h
      exact List.mem_cons_self
    | false =>
      rw [hb] at h
      exact List.mem_cons_of_mem _ (lk_mem t k v h)
/-- all that a list says is said by another -/
def Subs : List (Nat × Option Value) → List (Nat × Option Value) → Prop
  | [], _ => True
  | (k, some v) :: t, vs => lk vs k = some v ∧ Subs t vs
  | (_, none) :: t, vs => Subs t vs
theorem Subs.mem : ∀ (vs' vs : List (Nat × Option Value)), Subs vs' vs → ∀ (k : Nat) (v : Value), (k, some v) ∈ vs' → lk vs k = some v
  | [], _, _, _, _, h => by cases h
  | (i, some w) :: t, vs, hs, k, v, h => by
    rcases List.mem_cons.mp h with h | h
    · cases h
      exact hs.1
    · exact Subs.mem t vs hs.2 k v h
  | (i, none) :: t, vs, hs, k, v, h => by
    rcases List.mem_cons.mp h with h | h
    · cases h
    · exact Subs.mem t vs hs k v h
theorem Lo.sub {ls : Array Slot} {nL : Nat} {vs vs' : List (Nat × Option Value)} (h : Lo ls nL vs) (hs : Subs vs' vs) : Lo ls nL vs' := ⟨h.1, h.2.1, fun k v hk => h.2.2 k v (Subs.mem vs' vs hs k v (lk_mem vs' k v hk))⟩
/-- what a list says, as the kit has it -/
def lkl (nL : Nat) (vs : List (Nat × Option Value)) : List (Nat × Value) := (List.range nL).filterMap (fun k => (lk vs k).map (fun v => (k, v)))
theorem lkl_mem {nL : Nat} {vs : List (Nat × Option Value)} {k : Nat} {v : Value} : (k, v) ∈ lkl nL vs ↔ k < nL ∧ lk vs k = some v := by
  unfold lkl
  rw [List.mem_filterMap]
  constructor
  · rintro ⟨a, ha, e⟩
    rw [Option.map_eq_some_iff] at e
    obtain ⟨w, hw, e⟩ := e
    cases e
    exact ⟨List.mem_range.mp ha, hw⟩
  · rintro ⟨h1, h2⟩
    exact ⟨k, List.mem_range.mpr h1, by rw [h2]; rfl⟩
theorem Lo.has {ls : Array Slot} {nL : Nat} {vs : List (Nat × Option Value)} (h : Lo ls nL vs) : lv_has ls nL (lkl nL vs) := ⟨h.1, h.2.1, fun q hq => h.2.2 q.1 q.2 (lkl_mem.mp (show (q.1, q.2) ∈ lkl nL vs from hq)).2⟩
theorem Lo.lt {ls : Array Slot} {nL : Nat} {vs : List (Nat × Option Value)} (h : Lo ls nL vs) {k : Nat} {v : Value} (hk : lk vs k = some v) : k < nL := by
  have h1 := h.2.2 k v hk
  rw [← h.1]
  exact (Array.getElem?_eq_some_iff.mp h1).1
/-- the local below isn't a long -/
def no2 (vs : List (Nat × Option Value)) : Nat → Prop
  | 0 => True
  | k + 1 => match lk vs k with
    | some v => v.category = 1
    | none => True
theorem no2_cat {vs : List (Nat × Option Value)} {k : Nat} {w : Value} (hn : no2 vs (k + 1)) (hk : lk vs k = some w) : w.category = 1 := by
  have h : (match lk vs k with
    | some v => v.category = 1
    | none => True) := hn
  rw [hk] at h
  exact h
theorem Lo.set1 {ls ls' : Array Slot} {nL : Nat} {vs : List (Nat × Option Value)} {i : Nat} {v : Value} (h : Lo ls nL vs) (hn : no2 vs i) (h' : lv_has ls' nL ((i, v) :: (lkl nL vs).filter (fun q => !(q.1 == i) && !(q.1 + 1 == i && q.2.category == 2)))) : Lo ls' nL ((i, some v) :: vs) := by
  refine ⟨h'.1, h'.2.1, fun k w hk => ?_⟩
  unfold lk at hk
  cases hb : Nat.beq k i with
  | true =>
    rw [hb] at hk
    have e : k = i := Nat.eq_of_beq_eq_true hb
    subst e
    have hk : some v = some w := hk
    cases hk
    exact h'.2.2 (k, v) List.mem_cons_self
  | false =>
    rw [hb] at hk
    have hk : lk vs k = some w := hk
    have hne : k ≠ i := fun e => by rw [e, Nat.beq_refl] at hb; cases hb
    refine h'.2.2 (k, w) (List.mem_cons_of_mem _ (List.mem_filter.mpr ⟨lkl_mem.mpr ⟨h.lt hk, hk⟩, ?_⟩))
    by_cases h1 : k + 1 = i
    · subst h1
      have hc : w.category = 1 := no2_cat hn hk
      simp [hc]
    · simp [hne, h1]
theorem Lo.set2 {ls ls' : Array Slot} {nL : Nat} {vs : List (Nat × Option Value)} {i : Nat} {v : Value} (h : Lo ls nL vs) (hn : no2 vs i) (h' : lv_has ls' nL ((i, v) :: (lkl nL vs).filter (fun q => !(q.1 == i) && (!(q.1 == i + 1) && !(q.1 + 1 == i && q.2.category == 2))))) : Lo ls' nL ((i, some v) :: (i + 1, none) :: vs) := by
  refine ⟨h'.1, h'.2.1, fun k w hk => ?_⟩
  unfold lk at hk
  cases hb : Nat.beq k i with
  | true =>
    rw [hb] at hk
    have e : k = i := Nat.eq_of_beq_eq_true hb
    subst e
    have hk : some v = some w := hk
    cases hk
    exact h'.2.2 (k, v) List.mem_cons_self
  | false =>
    rw [hb] at hk
    have hk : lk ((i + 1, none) :: vs) k = some w := hk
    have hne : k ≠ i := fun e => by rw [e, Nat.beq_refl] at hb; cases hb
    unfold lk at hk
    cases hb2 : Nat.beq k (i + 1) with
    | true =>
      rw [hb2] at hk
      cases hk
    | false =>
      rw [hb2] at hk
      have hk3 : lk vs k = some w := hk
      have hne2 : k ≠ i + 1 := fun e => by rw [e, Nat.beq_refl] at hb2; cases hb2
      refine h'.2.2 (k, w) (List.mem_cons_of_mem _ (List.mem_filter.mpr ⟨lkl_mem.mpr ⟨h.lt hk3, hk3⟩, ?_⟩))
      by_cases h1 : k + 1 = i
      · subst h1
        have hc : w.category = 1 := no2_cat hn hk3
        simp [hc]
        omega
      · simp [hne, hne2, h1]
def args0 (av : List Value) : List (Nat × Option Value) := (lv_args 0 av).map (fun q => (q.1, some q.2))
theorem Lo.entry {av : List Value} {n : Nat} (h : (lg_sl av).length ≤ n) : Lo ((lg_sl av ++ List.replicate (n - (lg_sl av).length) Slot.unset).toArray) n (args0 av) := by
  obtain ⟨h1, h2, h3⟩ := lv_entry av h
  refine ⟨h1, h2, fun k v hk => ?_⟩
  have hm := lk_mem _ _ _ hk
  unfold args0 at hm
  obtain ⟨q, hq, e⟩ := List.mem_map.mp hm
  cases e
  exact h3 q hq
