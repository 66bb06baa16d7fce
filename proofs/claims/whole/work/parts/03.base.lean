/-- the words that stay: of the tables all that are good -/
def TBL : List Cond := lw_tbl.filter goodWord
theorem tbl_of {w : Cond} (i : Nat) (h : lw_tbl[i]? = some w) (g : goodWord w = true) : w ∈ TBL := List.mem_filter.mpr ⟨List.mem_of_getElem? h, g⟩
theorem tbl_good : GoodIn TBL TBL := fun w h => ⟨h, good_of_word (List.mem_filter.mp h).2⟩
theorem tbl_s {w : Cond} (i : Nat) (h : (k2_sels lw_privs)[i]? = some w) (g : goodWord w = true) : w ∈ TBL := List.mem_filter.mpr ⟨List.mem_append_left _ (List.mem_of_getElem? h), g⟩
theorem tbl_p1 {w : Cond} (i : Nat) (h : tables_1_1[i]? = some w) (g : goodWord w = true) : w ∈ TBL := List.mem_filter.mpr ⟨List.mem_append_right _ (List.mem_append_left _ (List.mem_of_getElem? h)), g⟩
theorem tbl_p2 {w : Cond} (i : Nat) (h : tables_1_2[i]? = some w) (g : goodWord w = true) : w ∈ TBL := List.mem_filter.mpr ⟨List.mem_append_right _ (List.mem_append_right _ (List.mem_append_left _ (List.mem_of_getElem? h))), g⟩
theorem tbl_p3 {w : Cond} (i : Nat) (h : tables_1_3[i]? = some w) (g : goodWord w = true) : w ∈ TBL := List.mem_filter.mpr ⟨List.mem_append_right _ (List.mem_append_right _ (List.mem_append_right _ (List.mem_append_left _ (List.mem_of_getElem? h)))), g⟩
theorem tbl_p4 {w : Cond} (i : Nat) (h : tables_1_4[i]? = some w) (g : goodWord w = true) : w ∈ TBL := List.mem_filter.mpr ⟨List.mem_append_right _ (List.mem_append_right _ (List.mem_append_right _ (List.mem_append_right _ (List.mem_append_left _ (List.mem_of_getElem? h))))), g⟩
theorem tbl_p5 {w : Cond} (i : Nat) (h : tables_1_5[i]? = some w) (g : goodWord w = true) : w ∈ TBL := List.mem_filter.mpr ⟨List.mem_append_right _ (List.mem_append_right _ (List.mem_append_right _ (List.mem_append_right _ (List.mem_append_right _ (List.mem_append_left _ (List.mem_of_getElem? h)))))), g⟩
theorem tbl_p6 {w : Cond} (i : Nat) (h : tables_1_6[i]? = some w) (g : goodWord w = true) : w ∈ TBL := List.mem_filter.mpr ⟨List.mem_append_right _ (List.mem_append_right _ (List.mem_append_right _ (List.mem_append_right _ (List.mem_append_right _ (List.mem_append_right _ (List.mem_append_left _ (List.mem_of_getElem? h))))))), g⟩
theorem tbl_p7 {w : Cond} (i : Nat) (h : tables_1_7[i]? = some w) (g : goodWord w = true) : w ∈ TBL := List.mem_filter.mpr ⟨List.mem_append_right _ (List.mem_append_right _ (List.mem_append_right _ (List.mem_append_right _ (List.mem_append_right _ (List.mem_append_right _ (List.mem_append_right _ (List.mem_append_left _ (List.mem_of_getElem? h)))))))), g⟩
theorem tbl_p8 {w : Cond} (i : Nat) (h : tables_1_8[i]? = some w) (g : goodWord w = true) : w ∈ TBL := List.mem_filter.mpr ⟨List.mem_append_right _ (List.mem_append_right _ (List.mem_append_right _ (List.mem_append_right _ (List.mem_append_right _ (List.mem_append_right _ (List.mem_append_right _ (List.mem_append_right _ (List.mem_of_getElem? h)))))))), g⟩
abbrev classes : List vw_C := [(RX0, TX0, 7), (RX1, TX1, 13), (RX2, TX2, 1), (RX3, TX3, 1), (RX4, TX4, 9), (RX5, TX5, 6), (RX6, TX6, 3), (RX7, TX7, 11), (RX8, TX8, 10), (RX9, TX9, 3), (RX10, TX10, 7), (RX11, TX11, 18), (RX12, TX12, 36)]
/-- the fields of an object of a class, as values, by its ints, longs, references -/
def flds (c : Nat) (i : Nat → Int32) (j : Nat → Int64) (r : Nat → Option Nat) : List Value := match c with
  | 0 => [va_rf (r 0), va_rf (r 1), .long (j 2), va_rf (r 3), va_rf (r 4), va_rf (r 5), .int (i 6)]
  | 1 => [.int (i 0), .int (i 1), .int (i 2), .int (i 3), va_rf (r 4), va_rf (r 5), va_rf (r 6), va_rf (r 7), va_rf (r 8), va_rf (r 9), va_rf (r 10), va_rf (r 11), va_rf (r 12)]
  | 2 => [va_rf (r 0)]
  | 3 => [va_rf (r 0)]
  | 4 => [va_rf (r 0), va_rf (r 1), va_rf (r 2), .int (i 3), va_rf (r 4), .int (i 5), .int (i 6), va_rf (r 7), .int (i 8)]
  | 5 => [va_rf (r 0), .int (i 1), va_rf (r 2), va_rf (r 3), .int (i 4), va_rf (r 5)]
  | 6 => [va_rf (r 0), .int (i 1), .int (i 2)]
  | 7 => [.int (i 0), .int (i 1), va_rf (r 2), .int (i 3), .int (i 4), .int (i 5), .int (i 6), .int (i 7), va_rf (r 8), va_rf (r 9), .int (i 10)]
  | 8 => [.int (i 0), .int (i 1), .int (i 2), .int (i 3), va_rf (r 4), va_rf (r 5), va_rf (r 6), va_rf (r 7), va_rf (r 8), va_rf (r 9)]
  | 9 => [va_rf (r 0), .int (i 1), .int (i 2)]
  | 10 => [va_rf (r 0), va_rf (r 1), .int (i 2), va_rf (r 3), va_rf (r 4), va_rf (r 5), va_rf (r 6)]
  | 11 => [va_rf (r 0), .int (i 1), va_rf (r 2), va_rf (r 3), va_rf (r 4), va_rf (r 5), va_rf (r 6), va_rf (r 7), va_rf (r 8), .int (i 9), .int (i 10), va_rf (r 11), va_rf (r 12), va_rf (r 13), va_rf (r 14), va_rf (r 15), va_rf (r 16), va_rf (r 17)]
  | 12 => [.int (i 0), va_rf (r 1), va_rf (r 2), va_rf (r 3), va_rf (r 4), .int (i 5), .int (i 6), .int (i 7), .int (i 8), .int (i 9), .int (i 10), .int (i 11), .int (i 12), .int (i 13), .int (i 14), va_rf (r 15), va_rf (r 16), va_rf (r 17), va_rf (r 18), va_rf (r 19), .int (i 20), .int (i 21), va_rf (r 22), va_rf (r 23), .int (i 24), .int (i 25), va_rf (r 26), va_rf (r 27), .int (i 28), va_rf (r 29), va_rf (r 30), va_rf (r 31), va_rf (r 32), va_rf (r 33), va_rf (r 34), va_rf (r 35)]
  | _ => []
def CI (c : Nat) (C : String) (Tt : u_T) (N : Nat) (ty0 : Nat → FieldType) : Prop := classes[c]? = some (C, Tt, N) ∧ (∀ w ∈ u_ws C Tt N, w ∈ TBL) ∧ (∀ k, k < N → parseFieldDescriptor (Tt k).2.2.1 = some (ty0 k)) ∧ (∀ a, a < N → ∀ b, b < N → a ≠ b → (Tt a).2.1 ≠ (Tt b).2.1)
theorem ci0 : CI 0 RX0 TX0 7 tyX0 := ⟨rfl, fun w h => List.mem_filter.mpr ⟨(show ∀ w ∈ wsX00, w ∈ lw_tbl from by decide +kernel) w h, (show ∀ w ∈ wsX00, goodWord w = true from by decide +kernel) w h⟩, tyX0_ok, nmX0⟩
theorem ci1 : CI 1 RX1 TX1 13 tyX1 := ⟨rfl, fun w h => List.mem_filter.mpr ⟨(show ∀ w ∈ wsX10, w ∈ lw_tbl from by decide +kernel) w h, (show ∀ w ∈ wsX10, goodWord w = true from by decide +kernel) w h⟩, tyX1_ok, nmX1⟩
theorem ci2 : CI 2 RX2 TX2 1 tyX2 := ⟨rfl, fun w h => List.mem_filter.mpr ⟨(show ∀ w ∈ wsX20, w ∈ lw_tbl from by decide +kernel) w h, (show ∀ w ∈ wsX20, goodWord w = true from by decide +kernel) w h⟩, tyX2_ok, nmX2⟩
theorem ci3 : CI 3 RX3 TX3 1 tyX3 := ⟨rfl, fun w h => List.mem_filter.mpr ⟨(show ∀ w ∈ wsX30, w ∈ lw_tbl from by decide +kernel) w h, (show ∀ w ∈ wsX30, goodWord w = true from by decide +kernel) w h⟩, tyX3_ok, nmX3⟩
theorem ci4 : CI 4 RX4 TX4 9 tyX4 := ⟨rfl, fun w h => List.mem_filter.mpr ⟨(show ∀ w ∈ wsX40, w ∈ lw_tbl from by decide +kernel) w h, (show ∀ w ∈ wsX40, goodWord w = true from by decide +kernel) w h⟩, tyX4_ok, nmX4⟩
theorem ci5 : CI 5 RX5 TX5 6 tyX5 := ⟨rfl, fun w h => List.mem_filter.mpr ⟨(show ∀ w ∈ wsX50, w ∈ lw_tbl from by decide +kernel) w h, (show ∀ w ∈ wsX50, goodWord w = true from by decide +kernel) w h⟩, tyX5_ok, nmX5⟩
theorem ci6 : CI 6 RX6 TX6 3 tyX6 := ⟨rfl, fun w h => List.mem_filter.mpr ⟨(show ∀ w ∈ wsX60, w ∈ lw_tbl from by decide +kernel) w h, (show ∀ w ∈ wsX60, goodWord w = true from by decide +kernel) w h⟩, tyX6_ok, nmX6⟩
theorem ci7 : CI 7 RX7 TX7 11 tyX7 := ⟨rfl, fun w h => List.mem_filter.mpr ⟨(show ∀ w ∈ wsX70, w ∈ lw_tbl from by decide +kernel) w h, (show ∀ w ∈ wsX70, goodWord w = true from by decide +kernel) w h⟩, tyX7_ok, nmX7⟩
theorem ci8 : CI 8 RX8 TX8 10 tyX8 := ⟨rfl, fun w h => List.mem_filter.mpr ⟨(show ∀ w ∈ wsX80, w ∈ lw_tbl from by decide +kernel) w h, (show ∀ w ∈ wsX80, goodWord w = true from by decide +kernel) w h⟩, tyX8_ok, nmX8⟩
theorem ci9 : CI 9 RX9 TX9 3 tyX9 := ⟨rfl, fun w h => List.mem_filter.mpr ⟨(show ∀ w ∈ wsX90, w ∈ lw_tbl from by decide +kernel) w h, (show ∀ w ∈ wsX90, goodWord w = true from by decide +kernel) w h⟩, tyX9_ok, nmX9⟩
theorem ci10 : CI 10 RX10 TX10 7 tyX10 := ⟨rfl, fun w h => List.mem_filter.mpr ⟨(show ∀ w ∈ wsX100, w ∈ lw_tbl from by decide +kernel) w h, (show ∀ w ∈ wsX100, goodWord w = true from by decide +kernel) w h⟩, tyX10_ok, nmX10⟩
theorem ci11 : CI 11 RX11 TX11 18 tyX11 := ⟨rfl, fun w h => List.mem_filter.mpr ⟨(show ∀ w ∈ wsX110, w ∈ lw_tbl from by decide +kernel) w h, (show ∀ w ∈ wsX110, goodWord w = true from by decide +kernel) w h⟩, tyX11_ok, nmX11⟩
theorem ci12 : CI 12 RX12 TX12 36 tyX12 := ⟨rfl, fun w h => List.mem_filter.mpr ⟨(show ∀ w ∈ wsX120, w ∈ lw_tbl from by decide +kernel) w h, (show ∀ w ∈ wsX120, goodWord w = true from by decide +kernel) w h⟩, tyX12_ok, nmX12⟩
/-- a field as an instruction names it: the class it is named in, the place in its pool; its class, its number there, its type, whether final -/
def FL (own : String) (idx c k : Nat) (ty : FieldType) (fin : Bool) : Prop := ∃ (C : String) (Tt : u_T) (N : Nat) (ty0 : Nat → FieldType), CI c C Tt N ty0 ∧ k < N ∧ Cond.fieldLink own idx C (Tt k).2.1 (Tt k).2.2.1 ∈ TBL ∧ (Tt k).1 = C ∧ ty0 k = ty ∧ (Tt k).2.2.2 = fin
/-- a class as an instruction names it, to make an object of it -/
def NL (own : String) (idx c N : Nat) : Prop := ∃ (C : String) (Tt : u_T) (ty0 : Nat → FieldType), CI c C Tt N ty0 ∧ Cond.classLink own idx C ∈ TBL ∧ Cond.instantiable C N ∈ TBL ∧ Cond.initialized C ∈ TBL ∧ ∀ j, j < N → defaultValue (ty0 j) = vp_V (flds c (fun _ => 0) (fun _ => 0) (fun _ => none)) j
/-- a method as an instruction names it -/
def CV (own : String) (idx : Nat) (y2 : MethodName) (cc2 : ByteArray) (nL2 : Nat) (ret2 : Option FieldType) (k : Nat) : Prop := Cond.methodLink own idx y2 ∈ TBL ∧ Cond.instanceMethod y2 ∈ TBL ∧ Cond.selects y2.cls y2 y2 ∈ TBL ∧ Cond.initialized y2.cls ∈ TBL ∧ Cond.code y2 cc2 nL2 ret2 ∈ TBL ∧ y2.cls ≠ "java/lang/invoke/MethodHandle" ∧ y2.cls ≠ "java/lang/invoke/VarHandle" ∧ (parseMethodDescriptor y2.desc).map (fun d => d.parameters.length) = some k
def CS (own : String) (idx : Nat) (y2 : MethodName) (cc2 : ByteArray) (nL2 : Nat) (ret2 : Option FieldType) (k : Nat) : Prop := Cond.methodLink own idx y2 ∈ TBL ∧ Cond.static y2 ∈ TBL ∧ Cond.initialized y2.cls ∈ TBL ∧ Cond.code y2 cc2 nL2 ret2 ∈ TBL ∧ y2.cls ≠ "java/lang/invoke/MethodHandle" ∧ y2.cls ≠ "java/lang/invoke/VarHandle" ∧ (parseMethodDescriptor y2.desc).map (fun d => d.parameters.length) = some k
/-- a constructor: by a plain link, or by one to a nest mate -/
def CN (own : String) (idx : Nat) (y2 : MethodName) (cc2 : ByteArray) (nL2 k : Nat) : Prop := (Cond.methodLink own idx y2 ∈ TBL ∨ ∃ host, Cond.methodLinkNest own idx y2 host ∈ lw_tbl) ∧ Cond.instanceMethod y2 ∈ TBL ∧ Cond.initialized y2.cls ∈ TBL ∧ Cond.code y2 cc2 nL2 none ∈ TBL ∧ y2.cls ≠ "java/lang/invoke/MethodHandle" ∧ y2.cls ≠ "java/lang/invoke/VarHandle" ∧ (parseMethodDescriptor y2.desc).map (fun d => d.parameters.length) = some k ∧ y2.name = "<init>"
