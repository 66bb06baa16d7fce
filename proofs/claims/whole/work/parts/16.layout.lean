/-- ints of one row into another -/
def cpI (I : Nat → Nat → Int32) (a0 a1 sp dp k : Nat) : Nat → Nat → Int32 := fun q => if q = a1 then va_cpy (I a0) (I a1) sp dp k else I q
theorem cpI_s (I : Nat → Nat → Int32) (a0 a1 sp dp k : Nat) : cpI I a0 a1 sp dp k a1 = va_cpy (I a0) (I a1) sp dp k := by simp [cpI]
theorem cpI_n (I : Nat → Nat → Int32) {a0 a1 sp dp k q : Nat} (h : q ≠ a1) : cpI I a0 a1 sp dp k q = I q := by simp [cpI, h]
theorem ka_native : Cond.native arraycopyName ∈ TBL := tbl_of 822 (by decide +kernel) (by decide +kernel)
theorem ka_static : Cond.static arraycopyName ∈ TBL := tbl_of 821 (by decide +kernel) (by decide +kernel)
theorem ka_sys : Cond.initialized "java/lang/System" ∈ TBL := tbl_of 161 (by decide +kernel) (by decide +kernel)
theorem ca_X5_72 : Cond.methodLink RX5 72 arraycopyName ∈ TBL := tbl_of 1206 (by decide +kernel) (by decide +kernel)
theorem ca_X8_43 : Cond.methodLink RX8 43 arraycopyName ∈ TBL := tbl_of 936 (by decide +kernel) (by decide +kernel)
theorem ca_J7_150 : Cond.methodLink RJ7 150 arraycopyName ∈ TBL := tbl_of 820 (by decide +kernel) (by decide +kernel)
theorem nneg_toInt {z : Int32} (h : ¬ z < 0) : z.toInt = (z.toNatClampNeg : Int) := by
  have h0 : (0 : Int) ≤ z.toInt := by simpa using Int32.le_iff_toInt_le.mp (Int32.not_lt.mp h)
  show z.toInt = ((z.toInt.toNat : Nat) : Int)
  omega
theorem V.acopy {l : Launch} {D : va_G} {E : Nat → ClassId} {B : Nat → Prop} {y : MethodName} {cc : ByteArray} {nL : Nat} {ret : Option FieldType} {d mc ms : Nat} {Q : Option Value → HT → Prop} {cells slots : Nat} {pc : Nat} {vs : List (Nat × Option Value)} {st : List Value} {n : Nat} {T : Nat → Option (Nat × Nat)} {I : Nat → Nat → Int32} {J : Nat → Nat → Int64} {P : Nat → Nat → Option Nat}
    {idx a0 a1 n0 n1 : Nat} {sp dp k : Int32} (hd : decode cc pc = .ok (.invokestatic idx, 3)) (hw : Cond.methodLink y.cls idx arraycopyName ∈ TBL) (hT0 : T a0 = some (20, n0)) (hT1 : T a1 = some (20, n1)) (h1 : ¬ sp < 0) (h2 : ¬ dp < 0) (h3 : ¬ k < 0) (h4 : sp.toNatClampNeg + k.toNatClampNeg ≤ n0) (h5 : dp.toNatClampNeg + k.toNatClampNeg ≤ n1) (hdd : 1 ≤ d) (hst : (st.map fun v => v.category).sum + (nativeFrameWords "java/lang/System" "arraycopy" 5 + 11) ≤ 64)
    (kk : ∀ I1, I1 = cpI I a0 a1 sp.toNatClampNeg dp.toNatClampNeg k.toNatClampNeg → V l D E B y cc nL ret d mc ms Q cells slots (n, T, I1, J, P) (pc + 3) vs st) : V l D E B y cc nL ret d mc ms Q cells slots (n, T, I, J, P) pc vs (.int k :: .int dp :: .ref a1 :: .int sp :: .ref a0 :: st) := by
  intro p e s m args below meth c H locs ls X hS hB hP hL
  have hts := X.2.2.2.2.2.1
  have hK := X.2.2.2.2.2.2.1
  intro T0 hT X0
  have hc0 : H[a0]? = some (vp_cell (E 0) (n0, .inl (I a0))) := (hP.one hT0) 0 _ rfl
  have hc1 : H[a1]? = some (vp_cell (E 0) (n1, .inl (I a1))) := (hP.one hT1) 0 _ rfl
  obtain ⟨-, k0, hk0, cm0, hkk0⟩ := (hK.2 0 _ rfl).1 n0 (fun j => .int (I a0 j))
  obtain ⟨-, k1, hk1, cm1, hkk1⟩ := (hK.2 0 _ rfl).1 n1 (fun j => .int (I a1 j))
  obtain ⟨vm', X', step⟩ := X0.arraycopy X.1 X.2.2.2.2.1 (hts _ hw) (hts _ ka_native) (hts _ ka_static) (hts _ ka_sys) (src := a0) (dst := a1) (cs := vp_cell (E 0) (n0, .inl (I a0))) (cd := vp_cell (E 0) (n1, .inl (I a1))) (srcPos := sp) (destPos := dp) (n := k) (by rw [hT]; exact hc0) (by rw [hT]; exact hc1)
    (fun _ h => by cases h) (fun _ h => by cases h) (fun h => by cases h) (fun h => by cases h) hk0 hk1 hkk0 hkk1 (by simp [refKind]) h1 h2 h3
    (by rw [nneg_toInt h1, nneg_toInt h3]; show ¬ _ > ((arrV (E 0) n0 (fun j => .int (I a0 j))).slots.size : Int); rw [arrV_size]; omega)
    (by rw [nneg_toInt h2, nneg_toInt h3]; show ¬ _ > ((arrV (E 0) n1 (fun j => .int (I a1 j))).slots.size : Int); rw [arrV_size]; omega)
    (fun vm₁ _ i hi => by
      have e1 : (vp_cell (E 0) (n0, .inl (I a0))).slots.getD (sp.toNatClampNeg + i) .null = .int (I a0 (sp.toNatClampNeg + i)) := by
        show (arrV (E 0) n0 (fun j => .int (I a0 j))).slots.getD _ _ = _
        rw [Array.getD_eq_getD_getElem?, arrV_read _ _ (by omega)]
        rfl
      rw [e1]
      exact ⟨rfl, trivial⟩)
    (g := F0 m pc ls (.int k :: .int dp :: .ref a1 :: .int sp :: .ref a0 :: st)) rfl (by rw [X.2.2.2.1]; exact hL.1) (rest := st) rfl (by rw [X.2.1]; exact hd) hdd (by show 2 * 0 + _ + _ ≤ 64 * d; omega)
  have e1 : copied (vp_cell (E 0) (n0, .inl (I a0))) (vp_cell (E 0) (n1, .inl (I a1))) sp dp k = vp_cell (E 0) (n1, .inl (va_cpy (I a0) (I a1) sp.toNatClampNeg dp.toNatClampNeg k.toNatClampNeg)) := va_copied (fun z => .int z) (E 0) (E 0) (I a0) (I a1) h4
  rw [e1] at X' step
  have hl : a1 < H.size := (Array.getElem?_eq_some_iff.mp hc1).1
  generalize hnew : vp_cell (E 0) (n1, .inl (va_cpy (I a0) (I a1) sp.toNatClampNeg dp.toNatClampNeg k.toNatClampNeg)) = cnew at X' step
  have oq : ∀ q : Nat, q ≠ a1 → (H.setIfInBounds a1 cnew)[q]? = H[q]? := fun q hq => by simp [Array.getElem?_setIfInBounds, Ne.symm hq]
  have hz : (H.setIfInBounds a1 cnew).size = H.size := by simp
  have ha : (H.setIfInBounds a1 cnew)[a1]? = some cnew := by simp [Array.getElem?_setIfInBounds, hl]
  have hP1 : PIC D E B (n, T, cpI I a0 a1 sp.toNatClampNeg dp.toNatClampNeg k.toNatClampNeg, J, P) (H.setIfInBounds a1 cnew) := hP.upd hT1 hz oq (fun q h => cpI_n I h) (fun _ _ => rfl) (fun _ _ => rfl) (by
    show (H.setIfInBounds a1 cnew)[a1]? = some (vp_cell (E 0) (n1, .inl (cpI I a0 a1 sp.toNatClampNeg dp.toNatClampNeg k.toNatClampNeg a1)))
    rw [cpI_s, ha, hnew])
  have hheap : ((T0.setVm vm').setCell a1 cnew).heap = H.setIfInBounds a1 cnew := by rw [← hT]; rfl
  have hBa : B a1 := (hP.2 a1 _ hT1).1
  obtain ⟨t, q1, q2⟩ := kk _ rfl p e s m args below meth c (H.setIfInBounds a1 cnew) _ ls X ⟨by rw [hz]; exact hS.1, fun q g1 g2 => by
      rw [oq q (fun e => g2 (by rw [e]; exact hBa))]
      exact hS.2.1 q g1 g2, fun q hq => by
      rcases List.mem_append.mp hq with h | h
      · exact hS.2.2 q h
      · obtain ⟨z, -, hz⟩ := List.mem_map.mp h
        rw [← hz]
        exact hBa⟩ hB hP1 hL _ hheap X'
  exact ⟨t, step t q1, q2⟩
def shSR (k : Nat) : Option (Nat × Nat) := match k with
  | 0 => some (11, 0)
  | 1 => some (21, 900)
  | 2 => some (7, 0)
  | 3 => some (20, 900)
  | 19 => some (6, 0)
  | 20 => some (25, 10)
  | 91 => some (26, 4)
  | 92 => some (24, 2)
  | 93 => some (25, 2)
  | 108 => some (5, 0)
  | 109 => some (20, 30)
  | 112 => some (20, 6)
  | 113 => some (20, 6)
  | 114 => some (10, 0)
  | 117 => some (20, 441)
  | 118 => some (20, 441)
  | 119 => some (20, 441)
  | 134 => some (23, 100)
  | 157 => some (25, 8)
  | 214 => some (4, 0)
  | 217 => some (20, 7)
  | 218 => some (20, 6)
  | 219 => some (0, 0)
  | 222 => some (22, 6)
  | 223 => some (22, 7)
  | _ => none
def rfSR (k i : Nat) : Option Nat := match k with
  | 0 => (match i with | 0 => some 1 | 2 => some 2 | 4 => some 12 | 5 => some 19 | 6 => some 91 | 7 => some 92 | 8 => some 93 | 11 => some 94 | 12 => some 101 | 13 => some 108 | 14 => some 214 | 15 => some 219 | 16 => some 114 | 17 => some 134 | _ => none)
  | 2 => (match i with | 9 => some 3 | _ => none)
  | 19 => (match i with | 0 => some 20 | _ => none)
  | 108 => (match i with | 0 => some 109 | 2 => some 110 | 3 => some 112 | 5 => some 113 | _ => none)
  | 114 => (match i with | 0 => some 115 | 1 => some 117 | 3 => some 118 | 4 => some 119 | 5 => some 120 | 6 => some 127 | _ => none)
  | 214 => (match i with | 0 => some 215 | 1 => some 157 | 2 => some 217 | 7 => some 218 | _ => none)
  | 219 => (match i with | 0 => some 220 | 1 => some 222 | 3 => some 157 | 4 => some 223 | _ => none)
  | 20 => if i < 10 then some (21 + 7 * i) else none
  | 91 => if i < 4 then some (135 + 2 * i) else none
  | 93 => if i < 2 then some (143 + 7 * i) else none
  | 157 => if i < 8 then some (158 + 7 * i) else none
  | _ => none
def stq (q : Nat) : Bool := q == 12 || q == 94 || q == 101 || q == 120 || q == 127 || (Nat.ble 21 q && Nat.blt q 91 && (q - 21) % 7 == 0) || (Nat.ble 143 q && Nat.blt q 157 && (q - 143) % 7 == 0) || (Nat.ble 158 q && Nat.blt q 214 && (q - 158) % 7 == 0)
def mmq (q : Nat) : Bool := q == 110 || q == 115 || q == 215 || q == 220
def tyq (q : Nat) : Bool := q == 135 || q == 137 || q == 139 || q == 141
/-- a StandRank at x: its cells, as its constructor lays them -/
def isSR (T : Nat → Option (Nat × Nat)) (P : Nat → Nat → Option Nat) (x : Nat) : Prop := (∀ k q, shSR k = some q → T (x + k) = some q) ∧ (∀ k i r, rfSR k i = some r → P (x + k) i = some (x + r)) ∧ (∀ q, stq q = true → isSt T P (x + q)) ∧ (∀ q, mmq q = true → isMm T P (x + q)) ∧ ∀ q, tyq q = true → isTy T P (x + q)
theorem isSR.arr20 {T : Nat → Option (Nat × Nat)} {P : Nat → Nat → Option Nat} {x : Nat} (h : isSR T P x) {i : Int32} (hb : vp_in i 10) : P (x + 20) i.toNatClampNeg = some (x + (21 + 7 * i.toNatClampNeg)) := by
  have hlt : i.toNatClampNeg < 10 := Nat.not_le.mp fun q => hb (Or.inr q)
  exact h.2.1 20 _ _ (if_pos hlt)
theorem isSR.ob20 {T : Nat → Option (Nat × Nat)} {P : Nat → Nat → Option Nat} {x : Nat} (h : isSR T P x) {i : Int32} (hb : vp_in i 10) : isSt T P (x + (21 + 7 * i.toNatClampNeg)) := by
  have hlt : i.toNatClampNeg < 10 := Nat.not_le.mp fun q => hb (Or.inr q)
  generalize i.toNatClampNeg = j at hlt ⊢
  refine h.2.2.1 _ ?_
  match j, hlt with
  | 0, _ => rfl
  | 1, _ => rfl
  | 2, _ => rfl
  | 3, _ => rfl
  | 4, _ => rfl
  | 5, _ => rfl
  | 6, _ => rfl
  | 7, _ => rfl
  | 8, _ => rfl
  | 9, _ => rfl
theorem isSR.arr91 {T : Nat → Option (Nat × Nat)} {P : Nat → Nat → Option Nat} {x : Nat} (h : isSR T P x) {i : Int32} (hb : vp_in i 4) : P (x + 91) i.toNatClampNeg = some (x + (135 + 2 * i.toNatClampNeg)) := by
  have hlt : i.toNatClampNeg < 4 := Nat.not_le.mp fun q => hb (Or.inr q)
  exact h.2.1 91 _ _ (if_pos hlt)
theorem isSR.ob91 {T : Nat → Option (Nat × Nat)} {P : Nat → Nat → Option Nat} {x : Nat} (h : isSR T P x) {i : Int32} (hb : vp_in i 4) : isTy T P (x + (135 + 2 * i.toNatClampNeg)) := by
  have hlt : i.toNatClampNeg < 4 := Nat.not_le.mp fun q => hb (Or.inr q)
  generalize i.toNatClampNeg = j at hlt ⊢
  refine h.2.2.2.2 _ ?_
  match j, hlt with
  | 0, _ => rfl
  | 1, _ => rfl
  | 2, _ => rfl
  | 3, _ => rfl
theorem isSR.arr93 {T : Nat → Option (Nat × Nat)} {P : Nat → Nat → Option Nat} {x : Nat} (h : isSR T P x) {i : Int32} (hb : vp_in i 2) : P (x + 93) i.toNatClampNeg = some (x + (143 + 7 * i.toNatClampNeg)) := by
  have hlt : i.toNatClampNeg < 2 := Nat.not_le.mp fun q => hb (Or.inr q)
  exact h.2.1 93 _ _ (if_pos hlt)
theorem isSR.ob93 {T : Nat → Option (Nat × Nat)} {P : Nat → Nat → Option Nat} {x : Nat} (h : isSR T P x) {i : Int32} (hb : vp_in i 2) : isSt T P (x + (143 + 7 * i.toNatClampNeg)) := by
  have hlt : i.toNatClampNeg < 2 := Nat.not_le.mp fun q => hb (Or.inr q)
  generalize i.toNatClampNeg = j at hlt ⊢
  refine h.2.2.1 _ ?_
  match j, hlt with
  | 0, _ => rfl
  | 1, _ => rfl
theorem isSR.arr157 {T : Nat → Option (Nat × Nat)} {P : Nat → Nat → Option Nat} {x : Nat} (h : isSR T P x) {i : Int32} (hb : vp_in i 8) : P (x + 157) i.toNatClampNeg = some (x + (158 + 7 * i.toNatClampNeg)) := by
  have hlt : i.toNatClampNeg < 8 := Nat.not_le.mp fun q => hb (Or.inr q)
  exact h.2.1 157 _ _ (if_pos hlt)
theorem isSR.ob157 {T : Nat → Option (Nat × Nat)} {P : Nat → Nat → Option Nat} {x : Nat} (h : isSR T P x) {i : Int32} (hb : vp_in i 8) : isSt T P (x + (158 + 7 * i.toNatClampNeg)) := by
  have hlt : i.toNatClampNeg < 8 := Nat.not_le.mp fun q => hb (Or.inr q)
  generalize i.toNatClampNeg = j at hlt ⊢
  refine h.2.2.1 _ ?_
  match j, hlt with
  | 0, _ => rfl
  | 1, _ => rfl
  | 2, _ => rfl
  | 3, _ => rfl
  | 4, _ => rfl
  | 5, _ => rfl
  | 6, _ => rfl
  | 7, _ => rfl
