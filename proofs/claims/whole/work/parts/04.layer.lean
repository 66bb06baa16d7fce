/-! A layer of my own: the cells from an address B on as functions: shapes T, ints I, longs J, references P; a judgement V for a place in a method, a contract Ct -/
abbrev HT : Type := Nat × (Nat → Option (Nat × Nat)) × (Nat → Nat → Int32) × (Nat → Nat → Int64) × (Nat → Nat → Option Nat)
/-- a cell by its shape: 20 int[], 21 byte[], 22 long[], 23 boolean[], 24 Court[], 25 State[], 26 Tray[]; else an object of that class -/
def cel (E : Nat → ClassId) (sh : Nat × Nat) (i : Nat → Int32) (j : Nat → Int64) (r : Nat → Option Nat) : va_E :=
  if sh.1 = 20 then .inl (E 0, sh.2, .inl i) else if sh.1 = 21 then .inl (E 1, sh.2, .inl i) else if sh.1 = 22 then .inl (E 2, sh.2, .inr (.inl j)) else if sh.1 = 23 then .inl (E 3, sh.2, .inl i)
  else if sh.1 = 24 then .inl (E 4, sh.2, .inr (.inr (.inr (.inr r)))) else if sh.1 = 25 then .inl (E 5, sh.2, .inr (.inr (.inr (.inr r)))) else if sh.1 = 26 then .inl (E 6, sh.2, .inr (.inr (.inr (.inr r)))) else .inr (sh.1, flds sh.1 i j r)
def tys (E : Nat → ClassId) : List (ClassId × FieldType) := [(E 0, .int), (E 1, .byte), (E 2, .long), (E 3, .boolean), (E 4, .object RX1), (E 5, .object RX8), (E 6, .object RX9)]
def PIC (D : va_G) (E : Nat → ClassId) (B : Nat) (h : HT) (H : Heap) : Prop := H.size = h.1 ∧ ∀ (a : Nat) (sh : Nat × Nat), h.2.1 a = some sh → B ≤ a ∧ va_at D classes (a, cel E sh (h.2.2.1 a) (h.2.2.2.1 a) (h.2.2.2.2 a)) H
def isNest : Cond → Bool
  | .methodLinkNest _ _ _ _ => true
  | _ => false
def NW (U : State) : Prop := ∀ w ∈ lw_tbl, isNest w = true → va_Nw w U
def EV (D : va_G) (E : Nat → ClassId) (y : MethodName) (cc : ByteArray) (nL : Nat) (ret : Option FieldType) (p : Program) (s : State) (m : MethodId) (args : Array Value) (meth : Method) (c : Code) : Prop :=
  p.tables.exec = Jvm.exec ∧ c.code = cc ∧ meth.sig.returnType = ret ∧ c.maxLocals = nL ∧ s.vm.findClass y.cls = some m.cls ∧ (∀ w ∈ TBL, w.before args s = true) ∧ va_K D classes (tys E) s ∧ meth.locks = false ∧ meth.name = y.name ∧ NW s
def rm (d mc ms : Nat) : Room := { frames := d, cells := mc, slots := ms, locals := 64 * d }
/-- locals by their numbers, the latest first; none: it holds nothing that is known -/
def lk : List (Nat × Option Value) → Nat → Option Value
  | [], _ => none
  | (k, v) :: t, i => bif Nat.beq i k then v else lk t i
def Lo (ls : Array Slot) (nL : Nat) (vs : List (Nat × Option Value)) : Prop := ls.size = nL ∧ lv_wf ls ∧ ∀ (k : Nat) (v : Value), lk vs k = some v → ls[k]? = some (.val v)
def QQ (D : va_G) (E : Nat → ClassId) (B : Nat) (Q : Option Value → HT → Prop) : Array Value → State → Outcome → State → Prop := fun _ st oc t => (∃ (v : Option Value) (h' : HT), oc = .returned v ∧ Q v h' ∧ PIC D E B h' t.heap) ∧ va_F (fun q => B ≤ q) st t
def V (l : Launch) (D : va_G) (E : Nat → ClassId) (B : Nat) (y : MethodName) (cc : ByteArray) (nL : Nat) (ret : Option FieldType) (d mc ms : Nat) (Q : Option Value → HT → Prop) (cells slots : Nat) (h : HT) (pc : Nat) (vs : List (Nat × Option Value)) (st : List Value) : Prop :=
  ∀ (p : Program) (e : Env) (s : State) (m : MethodId) (args : Array Value) (below : List Frame) (meth : Method) (c : Code) (H : Heap) (locs : List Loc) (ls : Array Slot), EV D E y cc nL ret p s m args meth c → va_S (fun q => B ≤ q) s.heap H locs → B ≤ s.heap.size → PIC D E B h H → Lo ls nL vs →
    W p l e (rm d mc ms) s m args below meth c H locs cells slots (MQ below (QQ D E B Q) args s mc ms (fun q => B ≤ q)) (F0 m pc ls st)
def Ct (l : Launch) (D : va_G) (E : Nat → ClassId) (B : Nat) (y : MethodName) (cc : ByteArray) (nL : Nat) (ret : Option FieldType) (d mc ms : Nat) (av : List Value) (h : HT) (Q : Option Value → HT → Prop) : Prop :=
  Met l y (.code y cc nL ret :: TBL) (rm d mc ms) (va_Pc av (fun U => PIC D E B h U.heap ∧ va_K D classes (tys E) U ∧ NW U ∧ B ≤ U.heap.size)) (QQ D E B Q) mc ms (fun q => B ≤ q)
/-! locals -/
theorem lk_mem : ∀ (vs : List (Nat × Option Value)) (k : Nat) (v : Value), lk vs k = some v → (k, some v) ∈ vs
  | [], _, _, h => by cases h
  | (i, w) :: t, k, v, h => by
    unfold lk at h
    cases hb : Nat.beq k i with
    | true =>
      rw [hb] at h
      have e : k = i := Nat.eq_of_beq_eq_true hb
      subst e
      have h : w = some v := h
      subst h
      exact List.mem_cons_self
    | false =>
      rw [hb] at h
      exact List.mem_cons_of_mem _ (lk_mem t k v h)
/-- all that a list says is said by another -/
def Subs : List (Nat × Option Value) → List (Nat × Option Value) → Prop
  | [], _ => True
  | (k, some v) :: t, vs => lk vs k = some v ∧ Subs t vs
  | (_, none) :: t, vs => Subs t vs
theorem Subs.mem : ∀ (vs' vs : List (Nat × Option Value)), Subs vs' vs → ∀ (k : Nat) (v : Value), (k, some v) ∈ vs' → lk vs k = some v
  | [], _, _, _, _, h => by cases h
  | (i, some w) :: t, vs, hs, k, v, h => by
    rcases List.mem_cons.mp h with h | h
    · cases h
      exact hs.1
    · exact Subs.mem t vs hs.2 k v h
  | (i, none) :: t, vs, hs, k, v, h => by
    rcases List.mem_cons.mp h with h | h
    · cases h
    · exact Subs.mem t vs hs k v h
theorem Lo.sub {ls : Array Slot} {nL : Nat} {vs vs' : List (Nat × Option Value)} (h : Lo ls nL vs) (hs : Subs vs' vs) : Lo ls nL vs' := ⟨h.1, h.2.1, fun k v hk => h.2.2 k v (Subs.mem vs' vs hs k v (lk_mem vs' k v hk))⟩
/-- what a list says, as the kit has it -/
def lkl (nL : Nat) (vs : List (Nat × Option Value)) : List (Nat × Value) := (List.range nL).filterMap (fun k => (lk vs k).map (fun v => (k, v)))
theorem lkl_mem {nL : Nat} {vs : List (Nat × Option Value)} {k : Nat} {v : Value} : (k, v) ∈ lkl nL vs ↔ k < nL ∧ lk vs k = some v := by
  unfold lkl
  rw [List.mem_filterMap]
  constructor
  · rintro ⟨a, ha, e⟩
    rw [Option.map_eq_some_iff] at e
    obtain ⟨w, hw, e⟩ := e
    cases e
    exact ⟨List.mem_range.mp ha, hw⟩
  · rintro ⟨h1, h2⟩
    exact ⟨k, List.mem_range.mpr h1, by rw [h2]; rfl⟩
theorem Lo.has {ls : Array Slot} {nL : Nat} {vs : List (Nat × Option Value)} (h : Lo ls nL vs) : lv_has ls nL (lkl nL vs) := ⟨h.1, h.2.1, fun q hq => h.2.2 q.1 q.2 (lkl_mem.mp (show (q.1, q.2) ∈ lkl nL vs from hq)).2⟩
theorem Lo.lt {ls : Array Slot} {nL : Nat} {vs : List (Nat × Option Value)} (h : Lo ls nL vs) {k : Nat} {v : Value} (hk : lk vs k = some v) : k < nL := by
  have h1 := h.2.2 k v hk
  rw [← h.1]
  exact (Array.getElem?_eq_some_iff.mp h1).1
/-- the local below isn't a long -/
def no2 (vs : List (Nat × Option Value)) : Nat → Prop
  | 0 => True
  | k + 1 => match lk vs k with
    | some v => v.category = 1
    | none => True
theorem no2_cat {vs : List (Nat × Option Value)} {k : Nat} {w : Value} (hn : no2 vs (k + 1)) (hk : lk vs k = some w) : w.category = 1 := by
  have h : (match lk vs k with
    | some v => v.category = 1
    | none => True) := hn
  rw [hk] at h
  exact h
theorem Lo.set1 {ls ls' : Array Slot} {nL : Nat} {vs : List (Nat × Option Value)} {i : Nat} {v : Value} (h : Lo ls nL vs) (hn : no2 vs i) (h' : lv_has ls' nL ((i, v) :: (lkl nL vs).filter (fun q => !(q.1 == i) && !(q.1 + 1 == i && q.2.category == 2)))) : Lo ls' nL ((i, some v) :: vs) := by
  refine ⟨h'.1, h'.2.1, fun k w hk => ?_⟩
  unfold lk at hk
  cases hb : Nat.beq k i with
  | true =>
    rw [hb] at hk
    have e : k = i := Nat.eq_of_beq_eq_true hb
    subst e
    have hk : some v = some w := hk
    cases hk
    exact h'.2.2 (k, v) List.mem_cons_self
  | false =>
    rw [hb] at hk
    have hk : lk vs k = some w := hk
    have hne : k ≠ i := fun e => by rw [e, Nat.beq_refl] at hb; cases hb
    refine h'.2.2 (k, w) (List.mem_cons_of_mem _ (List.mem_filter.mpr ⟨lkl_mem.mpr ⟨h.lt hk, hk⟩, ?_⟩))
    by_cases h1 : k + 1 = i
    · subst h1
      have hc : w.category = 1 := no2_cat hn hk
      simp [hc]
    · simp [hne, h1]
theorem Lo.set2 {ls ls' : Array Slot} {nL : Nat} {vs : List (Nat × Option Value)} {i : Nat} {v : Value} (h : Lo ls nL vs) (hn : no2 vs i) (h' : lv_has ls' nL ((i, v) :: (lkl nL vs).filter (fun q => !(q.1 == i) && (!(q.1 == i + 1) && !(q.1 + 1 == i && q.2.category == 2))))) : Lo ls' nL ((i, some v) :: (i + 1, none) :: vs) := by
  refine ⟨h'.1, h'.2.1, fun k w hk => ?_⟩
  unfold lk at hk
  cases hb : Nat.beq k i with
  | true =>
    rw [hb] at hk
    have e : k = i := Nat.eq_of_beq_eq_true hb
    subst e
    have hk : some v = some w := hk
    cases hk
    exact h'.2.2 (k, v) List.mem_cons_self
  | false =>
    rw [hb] at hk
    have hk : lk ((i + 1, none) :: vs) k = some w := hk
    have hne : k ≠ i := fun e => by rw [e, Nat.beq_refl] at hb; cases hb
    unfold lk at hk
    cases hb2 : Nat.beq k (i + 1) with
    | true =>
      rw [hb2] at hk
      cases hk
    | false =>
      rw [hb2] at hk
      have hk3 : lk vs k = some w := hk
      have hne2 : k ≠ i + 1 := fun e => by rw [e, Nat.beq_refl] at hb2; cases hb2
      refine h'.2.2 (k, w) (List.mem_cons_of_mem _ (List.mem_filter.mpr ⟨lkl_mem.mpr ⟨h.lt hk3, hk3⟩, ?_⟩))
      by_cases h1 : k + 1 = i
      · subst h1
        have hc : w.category = 1 := no2_cat hn hk3
        simp [hc]
        omega
      · simp [hne, hne2, h1]
def args0 (av : List Value) : List (Nat × Option Value) := (lv_args 0 av).map (fun q => (q.1, some q.2))
theorem Lo.entry {av : List Value} {n : Nat} (h : (lg_sl av).length ≤ n) : Lo ((lg_sl av ++ List.replicate (n - (lg_sl av).length) Slot.unset).toArray) n (args0 av) := by
  obtain ⟨h1, h2, h3⟩ := lv_entry av h
  refine ⟨h1, h2, fun k v hk => ?_⟩
  have hm := lk_mem _ _ _ hk
  unfold args0 at hm
  obtain ⟨q, hq, e⟩ := List.mem_map.mp hm
  cases e
  exact h3 q hq
