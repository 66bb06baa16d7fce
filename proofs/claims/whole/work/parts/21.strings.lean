section VStr
variable {l : Launch} {D : va_G} {E : Nat → ClassId} {B : Nat → Prop} {y : MethodName} {cc : ByteArray} {nL : Nat} {ret : Option FieldType} {d mc ms : Nat} {Q : Option Value → HT → Prop} {cells slots : Nat} {h : HT} {pc : Nat} {vs : List (Nat × Option Value)} {st : List Value}
variable {sk si idx : Nat} {so stx : String} {bs : List Int32}
theorem V.ldcS {t : String} (hk : strs[sk]? = some (y.cls, idx, t, bs)) (hd : decode cc pc = .ok (.ldc idx, 2)) (kk : V l D E B y cc nL ret d mc ms Q cells slots h (pc + 2) vs (.ref (E (100 + 2 * sk)) :: st)) : V l D E B y cc nL ret d mc ms Q cells slots h pc vs st :=
  fun p e s m args below meth c H locs ls X hS hB hP hL => va_ldcS X.1 X.2.1 X.2.2.2.2.1 (X.2.2.2.2.2.2.2.2.2.2.2.2 sk _ _ _ _ hk).1 hd (kk p e s m args below meth c H locs ls X hS hB hP hL)
theorem V.getSv (hk : strs[sk]? = some (so, si, stx, bs)) (hw : Cond.fieldLink y.cls idx "java/lang/String" "value" "[B" ∈ TBL) (hd : decode cc pc = .ok (.getfield idx, 3)) (kk : V l D E B y cc nL ret d mc ms Q cells slots h (pc + 3) vs (.ref (E (101 + 2 * sk)) :: st)) : V l D E B y cc nL ret d mc ms Q cells slots h pc vs (.ref (E (100 + 2 * sk)) :: st) :=
  fun p e s m args below meth c H locs ls X hS hB hP hL => vk_getf X.1 X.2.1 (X.2.2.2.2.2.2.2.2.2.2.2.2 sk _ _ _ _ hk).2.2.2.1 hS X.2.2.2.2.1 (X.2.2.2.2.2.1 _ hw) (fun _ q => q) hd (kk p e s m args below meth c H locs ls X hS hB hP hL)
theorem V.getSc (hk : strs[sk]? = some (so, si, stx, bs)) (hw : Cond.fieldLink y.cls idx "java/lang/String" "coder" "B" ∈ TBL) (hd : decode cc pc = .ok (.getfield idx, 3)) (kk : V l D E B y cc nL ret d mc ms Q cells slots h (pc + 3) vs (.int 0 :: st)) : V l D E B y cc nL ret d mc ms Q cells slots h pc vs (.ref (E (100 + 2 * sk)) :: st) :=
  fun p e s m args below meth c H locs ls X hS hB hP hL => vk_getf X.1 X.2.1 (X.2.2.2.2.2.2.2.2.2.2.2.2 sk _ _ _ _ hk).2.2.1 hS X.2.2.2.2.1 (X.2.2.2.2.2.1 _ hw) (fun _ q => q) hd (kk p e s m args below meth c H locs ls X hS hB hP hL)
theorem V.alenS (hk : strs[sk]? = some (so, si, stx, bs)) (hd : decode cc pc = .ok (.arraylength, 1)) (kk : V l D E B y cc nL ret d mc ms Q cells slots h (pc + 1) vs (.int (nI bs.length) :: st)) : V l D E B y cc nL ret d mc ms Q cells slots h pc vs (.ref (E (101 + 2 * sk)) :: st) :=
  fun p e s m args below meth c H locs ls X hS hB hP hL => va_tlen X.1 X.2.1 (X.2.2.2.2.2.2.2.2.2.2.2.2 sk _ _ _ _ hk).2.2.2.2 hS rfl hd (kk p e s m args below meth c H locs ls X hS hB hP hL)
theorem V.baldS {i : Int32} (hk : strs[sk]? = some (so, si, stx, bs)) (hd : decode cc pc = .ok (.baload, 1)) (hin : vp_in i bs.length) (kk : V l D E B y cc nL ret d mc ms Q cells slots h (pc + 1) vs (.int (bs.getD i.toNatClampNeg 0) :: st)) : V l D E B y cc nL ret d mc ms Q cells slots h pc vs (.int i :: .ref (E (101 + 2 * sk)) :: st) :=
  fun p e s m args below meth c H locs ls X hS hB hP hL => va_tb X.1 X.2.1 (X.2.2.2.2.2.2.2.2.2.2.2.2 sk _ _ _ _ hk).2.2.2.2 hS hin rfl hd (kk p e s m args below meth c H locs ls X hS hB hP hL)
theorem V.getsC (hw : Cond.fieldLink y.cls idx "java/lang/String" "COMPACT_STRINGS" "Z" ∈ TBL) (hd : decode cc pc = .ok (.getstatic idx, 3)) (kk : V l D E B y cc nL ret d mc ms Q cells slots h (pc + 3) vs (.int 1 :: st)) : V l D E B y cc nL ret d mc ms Q cells slots h pc vs st :=
  fun p e s m args below meth c H locs ls X hS hB hP hL => va_gets X.1 X.2.1 X.2.2.2.2.2.2.2.2.2.2.1.1 hS X.2.2.2.2.1 (X.2.2.2.2.2.1 _ hw) (fun _ q => q) hd (kk p e s m args below meth c H locs ls X hS hB hP hL)
theorem V.getsF (hw : Cond.fieldLink y.cls idx "jdk/internal/util/Preconditions" "SIOOBE_FORMATTER" "Ljava/util/function/BiFunction;" ∈ TBL) (hd : decode cc pc = .ok (.getstatic idx, 3)) (kk : ∀ v : Value, (v = .null ∨ ∃ a, v = .ref a) → V l D E B y cc nL ret d mc ms Q cells slots h (pc + 3) vs (v :: st)) : V l D E B y cc nL ret d mc ms Q cells slots h pc vs st := by
  intro p e s m args below meth c H locs ls X hS hB hP hL
  obtain ⟨v, hv, hz⟩ := X.2.2.2.2.2.2.2.2.2.2.2.1
  exact va_gets X.1 X.2.1 hz hS X.2.2.2.2.1 (X.2.2.2.2.2.1 _ hw) (fun _ q => q) hd (kk v hv p e s m args below meth c H locs ls X hS hB hP hL)
theorem V.invS {nL2 d2 mc2 ms2 k : Nat} {y2 : MethodName} {cc2 : ByteArray} {ret2 : Option FieldType} {As rest : List Value} {Q2 : Option Value → HT → Prop} (hsk : strs[sk]? = some (so, si, stx, bs)) (F : CV y.cls idx y2 cc2 nL2 ret2 k) (hM : Ct l D E B y2 cc2 nL2 ret2 d2 mc2 ms2 (.ref (E (100 + 2 * sk)) :: As) h Q2) (hd : decode cc pc = .ok (.invokevirtual idx, 3)) (hcl : y2.cls = "java/lang/String") (hk : As.length = k) (hst : st = As.reverse ++ .ref (E (100 + 2 * sk)) :: rest) (hW : (rest.map fun v => v.category).sum ≤ 8) (hdd : d2 + 1 ≤ d) (hn : nL2 ≤ 40) (hc : cells + mc2 ≤ mc) (hs : slots + ms2 ≤ ms)
    (kk : ∀ (v : Option Value) (h' : HT), Q2 v h' → V l D E B y cc nL ret d mc ms Q (cells + mc2) (slots + ms2) h' (pc + 3) vs (v.toList ++ rest)) : V l D E B y cc nL ret d mc ms Q cells slots h pc vs st := by
  intro p e s m args below meth c H locs ls X hS hB hP hL
  subst hst
  obtain ⟨w1, w2, w3, w4, w5, n1, n2, n3⟩ := F
  obtain ⟨hx, hb, hr, hml, hown, hts, hK, hlk, hnm, hNW⟩ := id X
  have hG : GoodIn TBL (wsV y.cls idx y2.cls y2 (Cond.code y2 cc2 nL2 ret2 :: TBL)) := good_app (fun w hw => by
    simp only [List.mem_cons, List.not_mem_nil, or_false] at hw
    rcases hw with rfl | rfl | rfl | rfl <;> assumption) (good_code w5)
  have cw : CallW (rm d mc ms) s args y.cls y2.cls idx y2 cc2 nL2 ret2 (Cond.code y2 cc2 nL2 ret2 :: TBL) (rm d2 mc2 ms2) mc2 ms2 k := cwV k hts hG rfl rfl rfl ⟨rfl, n1, n2, n3⟩ (rm_ok hdd hn)
  have hrec : ∃ cell : Cell, H[E (100 + 2 * sk)]? = some cell ∧ cell.vm.isStatics = false ∧ s.vm.findClass y2.cls = some cell.cls := by
    obtain ⟨cell, g1, g2, g3, -⟩ := (hNW.2.2.2 sk _ _ _ _ hsk).2.1.kept hS.2.1
    exact ⟨cell, g1, g2, by rw [hcl]; exact g3⟩
  refine run_go (va_runV (As := As) (rest := rest) ⟨hx, hb, hml, hown, hts⟩ hM cw ⟨blind, hrec, pre_at hP hK hNW hB hS⟩ rfl hk hL.1 rfl (by show 2 * 0 + _ ≤ 8; omega) hd ⟨hc, hs⟩) hS ?_
  intro v h' H1 locs1 hq2 hP1 hS1
  exact kk v h' hq2 p e s m args below meth c H1 locs1 ls X hS1 hB hP1 hL
end VStr
/-- a char that isn't a constant is looked at -/
def isch {α : Type} (x : Int32) (b : Option α) : Option α := if vp_nar .char x = x then b else none
theorem isch_some {α : Type} {x : Int32} {b : Option α} {r : α} (h : isch x b = some r) : narrow .char (.int x) = .int x ∧ b = some r := by
  unfold isch at h
  by_cases hc : vp_nar .char x = x
  · rw [if_pos hc] at h
    refine ⟨?_, h⟩
    have e : narrow .char (.int x) = .int (vp_nar .char x) := rfl
    rw [e, hc]
  · rw [if_neg hc] at h
    cases h
theorem kf_J0_38 : Cond.fieldLink RJ0 38 "java/lang/String" "COMPACT_STRINGS" "Z" ∈ TBL := tbl_p2 239 (by decide +kernel) (by decide +kernel)
theorem kf_J0_1053 : Cond.fieldLink RJ0 1053 "jdk/internal/util/Preconditions" "SIOOBE_FORMATTER" "Ljava/util/function/BiFunction;" ∈ TBL := tbl_p3 15 (by decide +kernel) (by decide +kernel)
theorem kf_J0_9 : Cond.fieldLink RJ0 9 "java/lang/String" "value" "[B" ∈ TBL := tbl_p8 206 (by decide +kernel) (by decide +kernel)
theorem kf_J0_15 : Cond.fieldLink RJ0 15 "java/lang/String" "coder" "B" ∈ TBL := tbl_p8 207 (by decide +kernel) (by decide +kernel)
def sbs (k : Nat) : List Int32 := match strs[k]? with | some q => q.2.2.2 | none => []
theorem ss0 : strs[0]? = some (RX7, 95, "who mark strength tune beside up minute court person odds office tires pains if then else end not and or ", sbs 0) := rfl
theorem ss1 : strs[1]? = some (RX7, 88, ";:+-*()[]=<>", sbs 1) := rfl
theorem ss2 : strs[2]? = some (RX12, 89, " court person strength mark tune odds office tires pains if then else end who beside up minute and or not ", sbs 2) := rfl
theorem ss3 : strs[3]? = some (RX12, 127, ";:+-*()[]=<>", sbs 3) := rfl
theorem dJ0_coder_7d493_0 : decode cJ0_coder_7d493 0 = .ok (.getstatic 38, 3) := by decide +kernel
theorem dJ0_coder_7d493_3 : decode cJ0_coder_7d493 3 = .ok (.ifCond .eq 10, 3) := by decide +kernel
theorem dJ0_coder_7d493_6 : decode cJ0_coder_7d493 6 = .ok (.aload_n 0, 1) := by decide +kernel
theorem dJ0_coder_7d493_7 : decode cJ0_coder_7d493 7 = .ok (.getfield 15, 3) := by decide +kernel
theorem dJ0_coder_7d493_10 : decode cJ0_coder_7d493 10 = .ok (.goto 4, 3) := by decide +kernel
theorem dJ0_coder_7d493_14 : decode cJ0_coder_7d493 14 = .ok (.ireturn, 1) := by decide +kernel
def js_coder (bs : List Int32) : Int32 := 0
theorem c_js_coder {l : Launch} {D : va_G} {E : Nat → ClassId} {B : Nat → Prop} {n : Nat} {T : Nat → Option (Nat × Nat)} {I : Nat → Nat → Int32} {J : Nat → Nat → Int64} {P : Nat → Nat → Option Nat}  {sk si : Nat} {so stx : String} {bs : List Int32}  (hsk : strs[sk]? = some (so, si, stx, bs)) : Ct l D E B yJ0_coder_7d493 cJ0_coder_7d493 1 (some .byte) 0 0 0 [.ref (E (100 + 2 * sk))] (n, T, I, J, P) (Ret (some (.int (js_coder bs))) (n, T, I, J, P)) := by
  obtain ⟨r, hf⟩ : ∃ r, js_coder bs = r := ⟨_, rfl⟩
  rw [hf]
  unfold js_coder at hf
  refine Ct.ofVF (by decide +kernel) (Nat.le_of_ble_eq_true rfl) ?_
  refine V.getsC kf_J0_38 dJ0_coder_7d493_0 ?_
  refine V.if_eq 13 dJ0_coder_7d493_3 (by decide) (fun c1 => absurd c1 (by decide)) (fun c1 => ?_)
  refine V.aload_n dJ0_coder_7d493_6 rfl ?_
  refine V.getSc hsk kf_J0_15 dJ0_coder_7d493_7 ?_
  refine V.goto 14 dJ0_coder_7d493_10 (by decide) ?_
  subst hf
  exact V.zret dJ0_coder_7d493_14 rfl rfl (Nat.le_refl _) (Nat.le_refl _) ⟨rfl, rfl⟩
theorem dJ0_isLatin1_aae02_0 : decode cJ0_isLatin1_aae02 0 = .ok (.getstatic 38, 3) := by decide +kernel
theorem dJ0_isLatin1_aae02_3 : decode cJ0_isLatin1_aae02 3 = .ok (.ifCond .eq 14, 3) := by decide +kernel
theorem dJ0_isLatin1_aae02_6 : decode cJ0_isLatin1_aae02 6 = .ok (.aload_n 0, 1) := by decide +kernel
theorem dJ0_isLatin1_aae02_7 : decode cJ0_isLatin1_aae02 7 = .ok (.getfield 15, 3) := by decide +kernel
theorem dJ0_isLatin1_aae02_10 : decode cJ0_isLatin1_aae02 10 = .ok (.ifCond .ne 7, 3) := by decide +kernel
theorem dJ0_isLatin1_aae02_13 : decode cJ0_isLatin1_aae02 13 = .ok (.iconst 1, 1) := by decide +kernel
theorem dJ0_isLatin1_aae02_14 : decode cJ0_isLatin1_aae02 14 = .ok (.goto 4, 3) := by decide +kernel
theorem dJ0_isLatin1_aae02_18 : decode cJ0_isLatin1_aae02 18 = .ok (.ireturn, 1) := by decide +kernel
def js_isLatin1 (bs : List Int32) : Int32 := 1
theorem c_js_isLatin1 {l : Launch} {D : va_G} {E : Nat → ClassId} {B : Nat → Prop} {n : Nat} {T : Nat → Option (Nat × Nat)} {I : Nat → Nat → Int32} {J : Nat → Nat → Int64} {P : Nat → Nat → Option Nat}  {sk si : Nat} {so stx : String} {bs : List Int32}  (hsk : strs[sk]? = some (so, si, stx, bs)) : Ct l D E B yJ0_isLatin1_aae02 cJ0_isLatin1_aae02 1 (some .boolean) 0 0 0 [.ref (E (100 + 2 * sk))] (n, T, I, J, P) (Ret (some (.int (js_isLatin1 bs))) (n, T, I, J, P)) := by
  obtain ⟨r, hf⟩ : ∃ r, js_isLatin1 bs = r := ⟨_, rfl⟩
  rw [hf]
  unfold js_isLatin1 at hf
  refine Ct.ofVF (by decide +kernel) (Nat.le_of_ble_eq_true rfl) ?_
  refine V.getsC kf_J0_38 dJ0_isLatin1_aae02_0 ?_
  refine V.if_eq 17 dJ0_isLatin1_aae02_3 (by decide) (fun c1 => absurd c1 (by decide)) (fun c1 => ?_)
  refine V.aload_n dJ0_isLatin1_aae02_6 rfl ?_
  refine V.getSc hsk kf_J0_15 dJ0_isLatin1_aae02_7 ?_
  refine V.if_ne 17 dJ0_isLatin1_aae02_10 (by decide) (fun c2 => absurd c2 (by decide)) (fun c2 => ?_)
  refine V.iconst (v := 1) dJ0_isLatin1_aae02_13 (by decide) ?_
  refine V.goto 18 dJ0_isLatin1_aae02_14 (by decide) ?_
  subst hf
  exact V.zret dJ0_isLatin1_aae02_18 rfl rfl (Nat.le_refl _) (Nat.le_refl _) ⟨rfl, rfl⟩
theorem dJ0_length_8abf5_0 : decode cJ0_length_8abf5 0 = .ok (.aload_n 0, 1) := by decide +kernel
theorem dJ0_length_8abf5_1 : decode cJ0_length_8abf5 1 = .ok (.getfield 9, 3) := by decide +kernel
theorem dJ0_length_8abf5_4 : decode cJ0_length_8abf5 4 = .ok (.arraylength, 1) := by decide +kernel
theorem dJ0_length_8abf5_5 : decode cJ0_length_8abf5 5 = .ok (.aload_n 0, 1) := by decide +kernel
theorem dJ0_length_8abf5_6 : decode cJ0_length_8abf5 6 = .ok (.invokevirtual 335, 3) := by decide +kernel
theorem dJ0_length_8abf5_9 : decode cJ0_length_8abf5 9 = .ok (.ishr, 1) := by decide +kernel
theorem dJ0_length_8abf5_10 : decode cJ0_length_8abf5 10 = .ok (.ireturn, 1) := by decide +kernel
def js_length (bs : List Int32) : Int32 := ((nI (List.length bs)) >>> ((js_coder bs) &&& 31))
theorem c_js_length {l : Launch} {D : va_G} {E : Nat → ClassId} {B : Nat → Prop} {n : Nat} {T : Nat → Option (Nat × Nat)} {I : Nat → Nat → Int32} {J : Nat → Nat → Int64} {P : Nat → Nat → Option Nat}  {sk si : Nat} {so stx : String} {bs : List Int32}  (hsk : strs[sk]? = some (so, si, stx, bs)) : Ct l D E B yJ0_length_8abf5 cJ0_length_8abf5 1 (some .int) 1 0 0 [.ref (E (100 + 2 * sk))] (n, T, I, J, P) (Ret (some (.int (js_length bs))) (n, T, I, J, P)) := by
  obtain ⟨r, hf⟩ : ∃ r, js_length bs = r := ⟨_, rfl⟩
  rw [hf]
  unfold js_length at hf
  refine Ct.ofVF (by decide +kernel) (Nat.le_of_ble_eq_true rfl) ?_
  refine V.aload_n dJ0_length_8abf5_0 rfl ?_
  refine V.getSv hsk kf_J0_9 dJ0_length_8abf5_1 ?_
  refine V.alenS hsk dJ0_length_8abf5_4 ?_
  refine V.aload_n dJ0_length_8abf5_5 rfl ?_
  refine V.invS hsk cv_J0_335 (c_js_coder hsk) dJ0_length_8abf5_6 rfl rfl rfl (Nat.le_of_ble_eq_true rfl) (by decide) (by decide) (Nat.le_refl _) (Nat.le_refl _) (fun _ _ hq => ?_)
  obtain ⟨rfl, rfl⟩ := hq
  refine V.ishr dJ0_length_8abf5_9 ?_
  subst hf
  exact V.iret dJ0_length_8abf5_10 rfl (Nat.le_refl _) (Nat.le_refl _) ⟨rfl, rfl⟩
theorem dJ3_checkIndex_8e157_0 : decode cJ3_checkIndex_8e157 0 = .ok (.iload_n 0, 1) := by decide +kernel
theorem dJ3_checkIndex_8e157_1 : decode cJ3_checkIndex_8e157 1 = .ok (.ifCond .lt 8, 3) := by decide +kernel
theorem dJ3_checkIndex_8e157_4 : decode cJ3_checkIndex_8e157 4 = .ok (.iload_n 0, 1) := by decide +kernel
theorem dJ3_checkIndex_8e157_5 : decode cJ3_checkIndex_8e157 5 = .ok (.iload_n 1, 1) := by decide +kernel
theorem dJ3_checkIndex_8e157_6 : decode cJ3_checkIndex_8e157 6 = .ok (.if_icmp .lt 10, 3) := by decide +kernel
theorem dJ3_checkIndex_8e157_16 : decode cJ3_checkIndex_8e157 16 = .ok (.iload_n 0, 1) := by decide +kernel
theorem dJ3_checkIndex_8e157_17 : decode cJ3_checkIndex_8e157 17 = .ok (.ireturn, 1) := by decide +kernel
def jp_checkIndex (v0 : Int32) (v1 : Int32) : Option (Int32) := if v0 < 0 then (none) else (if v0 < v1 then (some v0) else (none))
theorem c_jp_checkIndex {l : Launch} {D : va_G} {E : Nat → ClassId} {B : Nat → Prop} {n : Nat} {T : Nat → Option (Nat × Nat)} {I : Nat → Nat → Int32} {J : Nat → Nat → Int64} {P : Nat → Nat → Option Nat}  {fv : Value} {v0 : Int32} {v1 : Int32} {r : Int32} (hfv : fv = .null ∨ ∃ a, fv = .ref a) (hf : jp_checkIndex v0 v1 = some r) : Ct l D E B yJ3_checkIndex_8e157 cJ3_checkIndex_8e157 3 (some .int) 0 0 0 [.int v0, .int v1, fv] (n, T, I, J, P) (Ret (some (.int r)) (n, T, I, J, P)) := by
  unfold jp_checkIndex at hf
  rcases hfv with rfl | ⟨fa, rfl⟩
  · refine Ct.ofV (by decide) (Nat.le_of_ble_eq_true rfl) ?_
    refine V.iload_n dJ3_checkIndex_8e157_0 rfl ?_
    refine V.if_lt 9 dJ3_checkIndex_8e157_1 (by decide) (fun c1 => ?_) (fun c1 => ?_)
    · rw [if_pos c1] at hf
      cases hf
    · rw [if_neg c1] at hf
      refine V.iload_n dJ3_checkIndex_8e157_4 rfl ?_
      refine V.iload_n dJ3_checkIndex_8e157_5 rfl ?_
      refine V.icmp_lt 16 dJ3_checkIndex_8e157_6 (by decide) (fun c2 => ?_) (fun c2 => ?_)
      · rw [if_pos c2] at hf
        refine V.iload_n dJ3_checkIndex_8e157_16 rfl ?_
        obtain rfl := Option.some.inj hf
        exact V.iret dJ3_checkIndex_8e157_17 rfl (Nat.le_refl _) (Nat.le_refl _) ⟨rfl, rfl⟩
      · rw [if_neg c2] at hf
        cases hf
  · refine Ct.ofV (by decide) (Nat.le_of_ble_eq_true rfl) ?_
    refine V.iload_n dJ3_checkIndex_8e157_0 rfl ?_
    refine V.if_lt 9 dJ3_checkIndex_8e157_1 (by decide) (fun c1 => ?_) (fun c1 => ?_)
    · rw [if_pos c1] at hf
      cases hf
    · rw [if_neg c1] at hf
      refine V.iload_n dJ3_checkIndex_8e157_4 rfl ?_
      refine V.iload_n dJ3_checkIndex_8e157_5 rfl ?_
      refine V.icmp_lt 16 dJ3_checkIndex_8e157_6 (by decide) (fun c2 => ?_) (fun c2 => ?_)
      · rw [if_pos c2] at hf
        refine V.iload_n dJ3_checkIndex_8e157_16 rfl ?_
        obtain rfl := Option.some.inj hf
        exact V.iret dJ3_checkIndex_8e157_17 rfl (Nat.le_refl _) (Nat.le_refl _) ⟨rfl, rfl⟩
      · rw [if_neg c2] at hf
        cases hf
theorem dJ0_checkIndex_df160_0 : decode cJ0_checkIndex_df160 0 = .ok (.iload_n 0, 1) := by decide +kernel
theorem dJ0_checkIndex_df160_1 : decode cJ0_checkIndex_df160 1 = .ok (.iload_n 1, 1) := by decide +kernel
theorem dJ0_checkIndex_df160_2 : decode cJ0_checkIndex_df160 2 = .ok (.getstatic 1053, 3) := by decide +kernel
theorem dJ0_checkIndex_df160_5 : decode cJ0_checkIndex_df160 5 = .ok (.invokestatic 1059, 3) := by decide +kernel
theorem dJ0_checkIndex_df160_8 : decode cJ0_checkIndex_df160 8 = .ok (.pop, 1) := by decide +kernel
theorem dJ0_checkIndex_df160_9 : decode cJ0_checkIndex_df160 9 = .ok (.return_, 1) := by decide +kernel
def js_checkIndex (v0 : Int32) (v1 : Int32) : Option (Unit) := (jp_checkIndex v0 v1).bind (fun q3 => let u5 := q3; some ())
theorem c_js_checkIndex {l : Launch} {D : va_G} {E : Nat → ClassId} {B : Nat → Prop} {n : Nat} {T : Nat → Option (Nat × Nat)} {I : Nat → Nat → Int32} {J : Nat → Nat → Int64} {P : Nat → Nat → Option Nat}  {v0 : Int32} {v1 : Int32} {r : Unit}  (hf : js_checkIndex v0 v1 = some r) : Ct l D E B yJ0_checkIndex_df160 cJ0_checkIndex_df160 2 none 1 0 0 [.int v0, .int v1] (n, T, I, J, P) (Ret (none) (n, T, I, J, P)) := by
  unfold js_checkIndex at hf
  refine Ct.ofVF (by decide +kernel) (Nat.le_of_ble_eq_true rfl) ?_
  refine V.iload_n dJ0_checkIndex_df160_0 rfl ?_
  refine V.iload_n dJ0_checkIndex_df160_1 rfl ?_
  refine V.getsF kf_J0_1053 dJ0_checkIndex_df160_2 (fun fv1 hfv2 => ?_)
  obtain ⟨u5, hk4, hf⟩ := bnd_some hf
  try dsimp only at hf
  refine V.ins cs_J0_1059 (c_jp_checkIndex hfv2 hk4) dJ0_checkIndex_df160_5 rfl rfl (Nat.le_of_ble_eq_true rfl) (by decide) (by decide) (Nat.le_refl _) (Nat.le_refl _) (fun _ _ hq => ?_)
  obtain ⟨rfl, rfl⟩ := hq
  refine V.pop dJ0_checkIndex_df160_8 rfl ?_
  obtain rfl := Option.some.inj hf
  exact V.vret dJ0_checkIndex_df160_9 rfl (Nat.le_refl _) (Nat.le_refl _) ⟨rfl, rfl⟩
theorem dJ1_charAt_3b067_0 : decode cJ1_charAt_3b067 0 = .ok (.iload_n 1, 1) := by decide +kernel
theorem dJ1_charAt_3b067_1 : decode cJ1_charAt_3b067 1 = .ok (.aload_n 0, 1) := by decide +kernel
theorem dJ1_charAt_3b067_2 : decode cJ1_charAt_3b067 2 = .ok (.arraylength, 1) := by decide +kernel
theorem dJ1_charAt_3b067_3 : decode cJ1_charAt_3b067 3 = .ok (.invokestatic 9, 3) := by decide +kernel
theorem dJ1_charAt_3b067_6 : decode cJ1_charAt_3b067 6 = .ok (.aload_n 0, 1) := by decide +kernel
theorem dJ1_charAt_3b067_7 : decode cJ1_charAt_3b067 7 = .ok (.iload_n 1, 1) := by decide +kernel
theorem dJ1_charAt_3b067_8 : decode cJ1_charAt_3b067 8 = .ok (.baload, 1) := by decide +kernel
theorem dJ1_charAt_3b067_9 : decode cJ1_charAt_3b067 9 = .ok (.sipush 255, 3) := by decide +kernel
theorem dJ1_charAt_3b067_12 : decode cJ1_charAt_3b067 12 = .ok (.iand, 1) := by decide +kernel
theorem dJ1_charAt_3b067_13 : decode cJ1_charAt_3b067 13 = .ok (.i2c, 1) := by decide +kernel
theorem dJ1_charAt_3b067_14 : decode cJ1_charAt_3b067 14 = .ok (.ireturn, 1) := by decide +kernel
def jl_charAt (bs : List Int32) (v1 : Int32) : Option (Int32) := (js_checkIndex v1 (nI (List.length bs))).bind (fun q1 => chk v1 (List.length bs) (isch ((Int32.toUInt32 ((List.getD bs (Int32.toNatClampNeg v1) 0) &&& 255) % 65536).toInt32) (some ((Int32.toUInt32 ((List.getD bs (Int32.toNatClampNeg v1) 0) &&& 255) % 65536).toInt32))))
theorem c_jl_charAt {l : Launch} {D : va_G} {E : Nat → ClassId} {B : Nat → Prop} {n : Nat} {T : Nat → Option (Nat × Nat)} {I : Nat → Nat → Int32} {J : Nat → Nat → Int64} {P : Nat → Nat → Option Nat}  {sk si : Nat} {so stx : String} {bs : List Int32} {v1 : Int32} {r : Int32} (hsk : strs[sk]? = some (so, si, stx, bs)) (hf : jl_charAt bs v1 = some r) : Ct l D E B yJ1_charAt_3b067 cJ1_charAt_3b067 2 (some .char) 2 0 0 [.ref (E (101 + 2 * sk)), .int v1] (n, T, I, J, P) (Ret (some (.int r)) (n, T, I, J, P)) := by
  unfold jl_charAt at hf
  refine Ct.ofVF (by decide +kernel) (Nat.le_of_ble_eq_true rfl) ?_
  refine V.iload_n dJ1_charAt_3b067_0 rfl ?_
  refine V.aload_n dJ1_charAt_3b067_1 rfl ?_
  refine V.alenS hsk dJ1_charAt_3b067_2 ?_
  obtain ⟨_, hk2, hf⟩ := bnd_some hf
  try dsimp only at hf
  refine V.ins cs_J1_9 (c_js_checkIndex hk2) dJ1_charAt_3b067_3 rfl rfl (Nat.le_of_ble_eq_true rfl) (by decide) (by decide) (Nat.le_refl _) (Nat.le_refl _) (fun _ _ hq => ?_)
  obtain ⟨rfl, rfl⟩ := hq
  refine V.aload_n dJ1_charAt_3b067_6 rfl ?_
  refine V.iload_n dJ1_charAt_3b067_7 rfl ?_
  obtain ⟨hb3, hf⟩ := chk_some hf
  refine V.baldS hsk dJ1_charAt_3b067_8 hb3 ?_
  refine V.sipush (v := 255) dJ1_charAt_3b067_9 (by decide) ?_
  refine V.iand dJ1_charAt_3b067_12 ?_
  refine V.i2c dJ1_charAt_3b067_13 ?_
  obtain ⟨hn4, hf⟩ := isch_some hf
  obtain rfl := Option.some.inj hf
  exact V.zret dJ1_charAt_3b067_14 rfl hn4 (Nat.le_refl _) (Nat.le_refl _) ⟨rfl, rfl⟩
theorem dJ0_charAt_5068e_0 : decode cJ0_charAt_5068e 0 = .ok (.aload_n 0, 1) := by decide +kernel
theorem dJ0_charAt_5068e_1 : decode cJ0_charAt_5068e 1 = .ok (.invokevirtual 492, 3) := by decide +kernel
theorem dJ0_charAt_5068e_4 : decode cJ0_charAt_5068e 4 = .ok (.ifCond .eq 12, 3) := by decide +kernel
theorem dJ0_charAt_5068e_7 : decode cJ0_charAt_5068e 7 = .ok (.aload_n 0, 1) := by decide +kernel
theorem dJ0_charAt_5068e_8 : decode cJ0_charAt_5068e 8 = .ok (.getfield 9, 3) := by decide +kernel
theorem dJ0_charAt_5068e_11 : decode cJ0_charAt_5068e 11 = .ok (.iload_n 1, 1) := by decide +kernel
theorem dJ0_charAt_5068e_12 : decode cJ0_charAt_5068e 12 = .ok (.invokestatic 495, 3) := by decide +kernel
theorem dJ0_charAt_5068e_15 : decode cJ0_charAt_5068e 15 = .ok (.ireturn, 1) := by decide +kernel
def js_charAt (bs : List Int32) (v1 : Int32) : Option (Int32) := if (js_isLatin1 bs) = 0 then (none) else ((jl_charAt bs v1).bind (fun q2 => let u4 := q2; isch u4 (some u4)))
theorem c_js_charAt {l : Launch} {D : va_G} {E : Nat → ClassId} {B : Nat → Prop} {n : Nat} {T : Nat → Option (Nat × Nat)} {I : Nat → Nat → Int32} {J : Nat → Nat → Int64} {P : Nat → Nat → Option Nat}  {sk si : Nat} {so stx : String} {bs : List Int32} {v1 : Int32} {r : Int32} (hsk : strs[sk]? = some (so, si, stx, bs)) (hf : js_charAt bs v1 = some r) : Ct l D E B yJ0_charAt_5068e cJ0_charAt_5068e 2 (some .char) 3 0 0 [.ref (E (100 + 2 * sk)), .int v1] (n, T, I, J, P) (Ret (some (.int r)) (n, T, I, J, P)) := by
  unfold js_charAt at hf
  refine Ct.ofVF (by decide +kernel) (Nat.le_of_ble_eq_true rfl) ?_
  refine V.aload_n dJ0_charAt_5068e_0 rfl ?_
  refine V.invS hsk cv_J0_492 (c_js_isLatin1 hsk) dJ0_charAt_5068e_1 rfl rfl rfl (Nat.le_of_ble_eq_true rfl) (by decide) (by decide) (Nat.le_refl _) (Nat.le_refl _) (fun _ _ hq => ?_)
  obtain ⟨rfl, rfl⟩ := hq
  refine V.if_eq 16 dJ0_charAt_5068e_4 (by decide) (fun c1 => ?_) (fun c1 => ?_)
  · rw [if_pos c1] at hf
    cases hf
  · rw [if_neg c1] at hf
    refine V.aload_n dJ0_charAt_5068e_7 rfl ?_
    refine V.getSv hsk kf_J0_9 dJ0_charAt_5068e_8 ?_
    refine V.iload_n dJ0_charAt_5068e_11 rfl ?_
    obtain ⟨u4, hk3, hf⟩ := bnd_some hf
    try dsimp only at hf
    refine V.ins cs_J0_495 (c_jl_charAt hsk hk3) dJ0_charAt_5068e_12 rfl rfl (Nat.le_of_ble_eq_true rfl) (by decide) (by decide) (Nat.le_refl _) (Nat.le_refl _) (fun _ _ hq => ?_)
    obtain ⟨rfl, rfl⟩ := hq
    obtain ⟨hn5, hf⟩ := isch_some hf
    obtain rfl := Option.some.inj hf
    exact V.zret dJ0_charAt_5068e_15 rfl hn5 (Nat.le_refl _) (Nat.le_refl _) ⟨rfl, rfl⟩
theorem dJ1_canEncode_9a6ad_0 : decode cJ1_canEncode_9a6ad 0 = .ok (.iload_n 0, 1) := by decide +kernel
theorem dJ1_canEncode_9a6ad_1 : decode cJ1_canEncode_9a6ad 1 = .ok (.ifCond .lt 14, 3) := by decide +kernel
theorem dJ1_canEncode_9a6ad_4 : decode cJ1_canEncode_9a6ad 4 = .ok (.iload_n 0, 1) := by decide +kernel
theorem dJ1_canEncode_9a6ad_5 : decode cJ1_canEncode_9a6ad 5 = .ok (.sipush 255, 3) := by decide +kernel
theorem dJ1_canEncode_9a6ad_8 : decode cJ1_canEncode_9a6ad 8 = .ok (.if_icmp .gt 7, 3) := by decide +kernel
theorem dJ1_canEncode_9a6ad_11 : decode cJ1_canEncode_9a6ad 11 = .ok (.iconst 1, 1) := by decide +kernel
theorem dJ1_canEncode_9a6ad_12 : decode cJ1_canEncode_9a6ad 12 = .ok (.goto 4, 3) := by decide +kernel
theorem dJ1_canEncode_9a6ad_15 : decode cJ1_canEncode_9a6ad 15 = .ok (.iconst 0, 1) := by decide +kernel
theorem dJ1_canEncode_9a6ad_16 : decode cJ1_canEncode_9a6ad 16 = .ok (.ireturn, 1) := by decide +kernel
def jl_canEncode (v0 : Int32) : Int32 := if v0 < 0 then (0) else (if 255 < v0 then (0) else (1))
theorem c_jl_canEncode {l : Launch} {D : va_G} {E : Nat → ClassId} {B : Nat → Prop} {n : Nat} {T : Nat → Option (Nat × Nat)} {I : Nat → Nat → Int32} {J : Nat → Nat → Int64} {P : Nat → Nat → Option Nat}  {v0 : Int32}  : Ct l D E B yJ1_canEncode_9a6ad cJ1_canEncode_9a6ad 1 (some .boolean) 0 0 0 [.int v0] (n, T, I, J, P) (Ret (some (.int (jl_canEncode v0))) (n, T, I, J, P)) := by
  obtain ⟨r, hf⟩ : ∃ r, jl_canEncode v0 = r := ⟨_, rfl⟩
  rw [hf]
  unfold jl_canEncode at hf
  refine Ct.ofVF (by decide +kernel) (Nat.le_of_ble_eq_true rfl) ?_
  refine V.iload_n dJ1_canEncode_9a6ad_0 rfl ?_
  refine V.if_lt 15 dJ1_canEncode_9a6ad_1 (by decide) (fun c1 => ?_) (fun c1 => ?_)
  · rw [if_pos c1] at hf
    refine V.iconst (v := 0) dJ1_canEncode_9a6ad_15 (by decide) ?_
    subst hf
    exact V.zret dJ1_canEncode_9a6ad_16 rfl rfl (Nat.le_refl _) (Nat.le_refl _) ⟨rfl, rfl⟩
  · rw [if_neg c1] at hf
    refine V.iload_n dJ1_canEncode_9a6ad_4 rfl ?_
    refine V.sipush (v := 255) dJ1_canEncode_9a6ad_5 (by decide) ?_
    refine V.icmp_gt 15 dJ1_canEncode_9a6ad_8 (by decide) (fun c2 => ?_) (fun c2 => ?_)
    · rw [if_pos c2] at hf
      refine V.iconst (v := 0) dJ1_canEncode_9a6ad_15 (by decide) ?_
      subst hf
      exact V.zret dJ1_canEncode_9a6ad_16 rfl rfl (Nat.le_refl _) (Nat.le_refl _) ⟨rfl, rfl⟩
    · rw [if_neg c2] at hf
      refine V.iconst (v := 1) dJ1_canEncode_9a6ad_11 (by decide) ?_
      refine V.goto 16 dJ1_canEncode_9a6ad_12 (by decide) ?_
      subst hf
      exact V.zret dJ1_canEncode_9a6ad_16 rfl rfl (Nat.le_refl _) (Nat.le_refl _) ⟨rfl, rfl⟩
theorem dJ1_indexOfChar_4cfef_0 : decode cJ1_indexOfChar_4cfef 0 = .ok (.iload_n 1, 1) := by decide +kernel
theorem dJ1_indexOfChar_4cfef_1 : decode cJ1_indexOfChar_4cfef 1 = .ok (.i2b, 1) := by decide +kernel
theorem dJ1_indexOfChar_4cfef_2 : decode cJ1_indexOfChar_4cfef 2 = .ok (.istore 4, 2) := by decide +kernel
theorem dJ1_indexOfChar_4cfef_4 : decode cJ1_indexOfChar_4cfef 4 = .ok (.iload_n 2, 1) := by decide +kernel
theorem dJ1_indexOfChar_4cfef_5 : decode cJ1_indexOfChar_4cfef 5 = .ok (.istore 5, 2) := by decide +kernel
theorem dJ1_indexOfChar_4cfef_7 : decode cJ1_indexOfChar_4cfef 7 = .ok (.iload 5, 2) := by decide +kernel
theorem dJ1_indexOfChar_4cfef_9 : decode cJ1_indexOfChar_4cfef 9 = .ok (.iload_n 3, 1) := by decide +kernel
theorem dJ1_indexOfChar_4cfef_10 : decode cJ1_indexOfChar_4cfef 10 = .ok (.if_icmp .ge 21, 3) := by decide +kernel
theorem dJ1_indexOfChar_4cfef_13 : decode cJ1_indexOfChar_4cfef 13 = .ok (.aload_n 0, 1) := by decide +kernel
theorem dJ1_indexOfChar_4cfef_14 : decode cJ1_indexOfChar_4cfef 14 = .ok (.iload 5, 2) := by decide +kernel
theorem dJ1_indexOfChar_4cfef_16 : decode cJ1_indexOfChar_4cfef 16 = .ok (.baload, 1) := by decide +kernel
theorem dJ1_indexOfChar_4cfef_17 : decode cJ1_indexOfChar_4cfef 17 = .ok (.iload 4, 2) := by decide +kernel
theorem dJ1_indexOfChar_4cfef_19 : decode cJ1_indexOfChar_4cfef 19 = .ok (.if_icmp .ne 6, 3) := by decide +kernel
theorem dJ1_indexOfChar_4cfef_22 : decode cJ1_indexOfChar_4cfef 22 = .ok (.iload 5, 2) := by decide +kernel
theorem dJ1_indexOfChar_4cfef_24 : decode cJ1_indexOfChar_4cfef 24 = .ok (.ireturn, 1) := by decide +kernel
theorem dJ1_indexOfChar_4cfef_25 : decode cJ1_indexOfChar_4cfef 25 = .ok (.iinc 5 1, 3) := by decide +kernel
theorem dJ1_indexOfChar_4cfef_28 : decode cJ1_indexOfChar_4cfef 28 = .ok (.goto (-21), 3) := by decide +kernel
theorem dJ1_indexOfChar_4cfef_31 : decode cJ1_indexOfChar_4cfef 31 = .ok (.iconst (-1), 1) := by decide +kernel
theorem dJ1_indexOfChar_4cfef_32 : decode cJ1_indexOfChar_4cfef 32 = .ok (.ireturn, 1) := by decide +kernel
def jl_indexOfChar_7 (F : Nat) (bs : List Int32) (g1 : Int32) (g2 : Int32) (g3 : Int32) (g4 : Int32) : Nat → Int32 → Option ((Int32) ⊕ (Int32))
  | 0, _ => none
  | k + 1, l5 => if g3 ≤ l5 then (some (.inr l5)) else (chk l5 (List.length bs) (if (List.getD bs (Int32.toNatClampNeg l5) 0) = g4 then (some (.inl l5)) else (jl_indexOfChar_7 F bs g1 g2 g3 g4 k (l5 + 1))))
def jl_indexOfChar (F : Nat) (bs : List Int32) (v1 : Int32) (v2 : Int32) (v3 : Int32) : Option (Int32) := let x1 := ((Int32.toInt8 v1).toInt32); (jl_indexOfChar_7 F bs v1 v2 v3 x1 F v2).bind (fun q6 => match q6 with | .inl r0 => some r0 | .inr q0 => let m8 := q0; some (-1))
theorem l_jl_indexOfChar_7 {l : Launch} {D : va_G} {E : Nat → ClassId} {B : Nat → Prop} {n F : Nat} {Q : Option Value → HT → Prop} {T : Nat → Option (Nat × Nat)} {I : Nat → Nat → Int32} {J : Nat → Nat → Int64} {P : Nat → Nat → Option Nat}  {sk si : Nat} {so stx : String} {bs : List Int32} {g1 : Int32} {g2 : Int32} {g3 : Int32} {g4 : Int32} (hsk : strs[sk]? = some (so, si, stx, bs))  (r : (Int32) ⊕ (Int32)) : ∀ (k : Nat) (l5 : Int32), jl_indexOfChar_7 F bs g1 g2 g3 g4 k l5 = some r → (match r with | .inl r => Q (some (.int r)) (n, T, I, J, P) | .inr r => V l D E B yJ1_indexOfChar_4cfef cJ1_indexOfChar_4cfef 6 (some .int) 0 0 0 Q 0 0 (n, T, I, J, P) 31 [(0, some (.ref (E (101 + 2 * sk)))), (1, some (.int g1)), (2, some (.int g2)), (3, some (.int g3)), (4, some (.int g4)), (5, some (.int r))] []) → V l D E B yJ1_indexOfChar_4cfef cJ1_indexOfChar_4cfef 6 (some .int) 0 0 0 Q 0 0 (n, T, I, J, P) 7 [(0, some (.ref (E (101 + 2 * sk)))), (1, some (.int g1)), (2, some (.int g2)), (3, some (.int g3)), (4, some (.int g4)), (5, some (.int l5))] [] := by
  intro k
  induction k with
  | zero =>
    intro l5 hf hk
    cases hf
  | succ k ih =>
    intro l5 hf hk
    unfold jl_indexOfChar_7 at hf
    refine V.iload dJ1_indexOfChar_4cfef_7 rfl ?_
    refine V.iload_n dJ1_indexOfChar_4cfef_9 rfl ?_
    refine V.icmp_ge 31 dJ1_indexOfChar_4cfef_10 (by decide) (fun c3 => ?_) (fun c3 => ?_)
    · rw [if_pos c3] at hf
      obtain rfl := Option.some.inj hf
      exact V.lo [(0, some (.ref (E (101 + 2 * sk)))), (1, some (.int g1)), (2, some (.int g2)), (3, some (.int g3)), (4, some (.int g4)), (5, some (.int l5))] (by simp only [Subs]; repeat' first | exact trivial | constructor | rfl) hk
    · rw [if_neg c3] at hf
      refine V.aload_n dJ1_indexOfChar_4cfef_13 rfl ?_
      refine V.iload dJ1_indexOfChar_4cfef_14 rfl ?_
      obtain ⟨hb4, hf⟩ := chk_some hf
      refine V.baldS hsk dJ1_indexOfChar_4cfef_16 hb4 ?_
      refine V.iload dJ1_indexOfChar_4cfef_17 rfl ?_
      refine V.icmp_ne 25 dJ1_indexOfChar_4cfef_19 (by decide) (fun c5 => ?_) (fun c5 => ?_)
      · rw [if_neg c5] at hf
        refine V.iinc (v := (l5 + 1)) dJ1_indexOfChar_4cfef_25 rfl rfl (by first | exact rfl | exact trivial) ?_
        refine V.goto 7 dJ1_indexOfChar_4cfef_28 (by decide) ?_
        exact V.lo [(0, some (.ref (E (101 + 2 * sk)))), (1, some (.int g1)), (2, some (.int g2)), (3, some (.int g3)), (4, some (.int g4)), (5, some (.int (l5 + 1)))] (by simp only [Subs]; repeat' first | exact trivial | constructor | rfl) (ih _ hf hk)
      · rw [if_pos c5] at hf
        refine V.iload dJ1_indexOfChar_4cfef_22 rfl ?_
        obtain rfl := Option.some.inj hf
        exact V.iret dJ1_indexOfChar_4cfef_24 rfl (Nat.le_refl _) (Nat.le_refl _) hk
theorem c_jl_indexOfChar {l : Launch} {D : va_G} {E : Nat → ClassId} {B : Nat → Prop} {n F : Nat} {T : Nat → Option (Nat × Nat)} {I : Nat → Nat → Int32} {J : Nat → Nat → Int64} {P : Nat → Nat → Option Nat}  {sk si : Nat} {so stx : String} {bs : List Int32} {v1 : Int32} {v2 : Int32} {v3 : Int32} {r : Int32} (hsk : strs[sk]? = some (so, si, stx, bs)) (hf : jl_indexOfChar F bs v1 v2 v3 = some r) : Ct l D E B yJ1_indexOfChar_4cfef cJ1_indexOfChar_4cfef 6 (some .int) 0 0 0 [.ref (E (101 + 2 * sk)), .int v1, .int v2, .int v3] (n, T, I, J, P) (Ret (some (.int r)) (n, T, I, J, P)) := by
  unfold jl_indexOfChar at hf
  refine Ct.ofVF (by decide +kernel) (Nat.le_of_ble_eq_true rfl) ?_
  refine V.iload_n dJ1_indexOfChar_4cfef_0 rfl ?_
  refine V.i2b dJ1_indexOfChar_4cfef_1 ?_
  refine V.istore dJ1_indexOfChar_4cfef_2 (by decide) (by first | exact rfl | exact trivial) ?_
  obtain ⟨x1, e2⟩ : ∃ zz_, zz_ = ((Int32.toInt8 v1).toInt32) := ⟨_, rfl⟩
  rw [← e2] at hf ⊢
  try dsimp only at hf
  refine V.iload_n dJ1_indexOfChar_4cfef_4 rfl ?_
  refine V.istore dJ1_indexOfChar_4cfef_5 (by decide) (by first | exact rfl | exact trivial) ?_
  obtain ⟨q6, hk7, hf⟩ := bnd_some hf
  refine V.lo [(0, some (.ref (E (101 + 2 * sk)))), (1, some (.int v1)), (2, some (.int v2)), (3, some (.int v3)), (4, some (.int x1)), (5, some (.int v2))] (by simp only [Subs]; repeat' first | exact trivial | constructor | rfl) (l_jl_indexOfChar_7 hsk q6 F _ hk7 ?_)
  rcases q6 with r0 | m8
  · try dsimp only at hf ⊢
    obtain rfl := Option.some.inj hf
    exact ⟨rfl, rfl⟩
  · try dsimp only at hf ⊢
    refine V.iconst (v := -1) dJ1_indexOfChar_4cfef_31 (by decide) ?_
    obtain rfl := Option.some.inj hf
    exact V.iret dJ1_indexOfChar_4cfef_32 rfl (Nat.le_refl _) (Nat.le_refl _) ⟨rfl, rfl⟩
theorem dJ1_indexOf_4cfef_0 : decode cJ1_indexOf_4cfef 0 = .ok (.iload_n 1, 1) := by decide +kernel
theorem dJ1_indexOf_4cfef_1 : decode cJ1_indexOf_4cfef 1 = .ok (.invokestatic 88, 3) := by decide +kernel
theorem dJ1_indexOf_4cfef_4 : decode cJ1_indexOf_4cfef 4 = .ok (.ifCond .ne 5, 3) := by decide +kernel
theorem dJ1_indexOf_4cfef_7 : decode cJ1_indexOf_4cfef 7 = .ok (.iconst (-1), 1) := by decide +kernel
theorem dJ1_indexOf_4cfef_8 : decode cJ1_indexOf_4cfef 8 = .ok (.ireturn, 1) := by decide +kernel
theorem dJ1_indexOf_4cfef_9 : decode cJ1_indexOf_4cfef 9 = .ok (.iload_n 2, 1) := by decide +kernel
theorem dJ1_indexOf_4cfef_10 : decode cJ1_indexOf_4cfef 10 = .ok (.iconst 0, 1) := by decide +kernel
theorem dJ1_indexOf_4cfef_11 : decode cJ1_indexOf_4cfef 11 = .ok (.invokestatic 92, 3) := by decide +kernel
theorem dJ1_indexOf_4cfef_14 : decode cJ1_indexOf_4cfef 14 = .ok (.istore_n 2, 1) := by decide +kernel
theorem dJ1_indexOf_4cfef_15 : decode cJ1_indexOf_4cfef 15 = .ok (.iload_n 3, 1) := by decide +kernel
theorem dJ1_indexOf_4cfef_16 : decode cJ1_indexOf_4cfef 16 = .ok (.aload_n 0, 1) := by decide +kernel
theorem dJ1_indexOf_4cfef_17 : decode cJ1_indexOf_4cfef 17 = .ok (.arraylength, 1) := by decide +kernel
theorem dJ1_indexOf_4cfef_18 : decode cJ1_indexOf_4cfef 18 = .ok (.invokestatic 38, 3) := by decide +kernel
theorem dJ1_indexOf_4cfef_21 : decode cJ1_indexOf_4cfef 21 = .ok (.istore_n 3, 1) := by decide +kernel
theorem dJ1_indexOf_4cfef_22 : decode cJ1_indexOf_4cfef 22 = .ok (.iload_n 2, 1) := by decide +kernel
theorem dJ1_indexOf_4cfef_23 : decode cJ1_indexOf_4cfef 23 = .ok (.iload_n 3, 1) := by decide +kernel
theorem dJ1_indexOf_4cfef_24 : decode cJ1_indexOf_4cfef 24 = .ok (.if_icmp .lt 5, 3) := by decide +kernel
theorem dJ1_indexOf_4cfef_27 : decode cJ1_indexOf_4cfef 27 = .ok (.iconst (-1), 1) := by decide +kernel
theorem dJ1_indexOf_4cfef_28 : decode cJ1_indexOf_4cfef 28 = .ok (.ireturn, 1) := by decide +kernel
theorem dJ1_indexOf_4cfef_29 : decode cJ1_indexOf_4cfef 29 = .ok (.aload_n 0, 1) := by decide +kernel
theorem dJ1_indexOf_4cfef_30 : decode cJ1_indexOf_4cfef 30 = .ok (.iload_n 1, 1) := by decide +kernel
theorem dJ1_indexOf_4cfef_31 : decode cJ1_indexOf_4cfef 31 = .ok (.iload_n 2, 1) := by decide +kernel
theorem dJ1_indexOf_4cfef_32 : decode cJ1_indexOf_4cfef 32 = .ok (.iload_n 3, 1) := by decide +kernel
theorem dJ1_indexOf_4cfef_33 : decode cJ1_indexOf_4cfef 33 = .ok (.invokestatic 95, 3) := by decide +kernel
theorem dJ1_indexOf_4cfef_36 : decode cJ1_indexOf_4cfef 36 = .ok (.ireturn, 1) := by decide +kernel
def jl_indexOf (F : Nat) (bs : List Int32) (v1 : Int32) (v2 : Int32) (v3 : Int32) : Option (Int32) := if (jl_canEncode v1) = 0 then (some (-1)) else (let x2 := (imax v2 0); let x4 := (imin v3 (nI (List.length bs))); if x2 < x4 then ((jl_indexOfChar F bs v1 x2 x4).bind (fun q7 => let u9 := q7; some u9)) else (some (-1)))
theorem c_jl_indexOf {l : Launch} {D : va_G} {E : Nat → ClassId} {B : Nat → Prop} {n F : Nat} {T : Nat → Option (Nat × Nat)} {I : Nat → Nat → Int32} {J : Nat → Nat → Int64} {P : Nat → Nat → Option Nat}  {sk si : Nat} {so stx : String} {bs : List Int32} {v1 : Int32} {v2 : Int32} {v3 : Int32} {r : Int32} (hsk : strs[sk]? = some (so, si, stx, bs)) (hf : jl_indexOf F bs v1 v2 v3 = some r) : Ct l D E B yJ1_indexOf_4cfef cJ1_indexOf_4cfef 4 (some .int) 1 0 0 [.ref (E (101 + 2 * sk)), .int v1, .int v2, .int v3] (n, T, I, J, P) (Ret (some (.int r)) (n, T, I, J, P)) := by
  unfold jl_indexOf at hf
  refine Ct.ofVF (by decide +kernel) (Nat.le_of_ble_eq_true rfl) ?_
  refine V.iload_n dJ1_indexOf_4cfef_0 rfl ?_
  refine V.ins cs_J1_88 (c_jl_canEncode) dJ1_indexOf_4cfef_1 rfl rfl (Nat.le_of_ble_eq_true rfl) (by decide) (by decide) (Nat.le_refl _) (Nat.le_refl _) (fun _ _ hq => ?_)
  obtain ⟨rfl, rfl⟩ := hq
  refine V.if_ne 9 dJ1_indexOf_4cfef_4 (by decide) (fun c1 => ?_) (fun c1 => ?_)
  · rw [if_neg c1] at hf
    refine V.iload_n dJ1_indexOf_4cfef_9 rfl ?_
    refine V.iconst (v := 0) dJ1_indexOf_4cfef_10 (by decide) ?_
    refine V.ins cs_J1_92 (c_imax) dJ1_indexOf_4cfef_11 rfl rfl (Nat.le_of_ble_eq_true rfl) (by decide) (by decide) (Nat.le_refl _) (Nat.le_refl _) (fun _ _ hq => ?_)
    obtain ⟨rfl, rfl⟩ := hq
    refine V.istore_n dJ1_indexOf_4cfef_14 rfl (by decide) (by first | exact rfl | exact trivial) ?_
    obtain ⟨x2, e3⟩ : ∃ zz_, zz_ = (imax v2 0) := ⟨_, rfl⟩
    rw [← e3] at hf ⊢
    try dsimp only at hf
    refine V.iload_n dJ1_indexOf_4cfef_15 rfl ?_
    refine V.aload_n dJ1_indexOf_4cfef_16 rfl ?_
    refine V.alenS hsk dJ1_indexOf_4cfef_17 ?_
    refine V.ins cs_J1_38 (c_imin) dJ1_indexOf_4cfef_18 rfl rfl (Nat.le_of_ble_eq_true rfl) (by decide) (by decide) (Nat.le_refl _) (Nat.le_refl _) (fun _ _ hq => ?_)
    obtain ⟨rfl, rfl⟩ := hq
    refine V.istore_n dJ1_indexOf_4cfef_21 rfl (by decide) (by first | exact rfl | exact trivial) ?_
    obtain ⟨x4, e5⟩ : ∃ zz_, zz_ = (imin v3 (nI (List.length bs))) := ⟨_, rfl⟩
    rw [← e5] at hf ⊢
    try dsimp only at hf
    refine V.iload_n dJ1_indexOf_4cfef_22 rfl ?_
    refine V.iload_n dJ1_indexOf_4cfef_23 rfl ?_
    refine V.icmp_lt 29 dJ1_indexOf_4cfef_24 (by decide) (fun c6 => ?_) (fun c6 => ?_)
    · rw [if_pos c6] at hf
      refine V.aload_n dJ1_indexOf_4cfef_29 rfl ?_
      refine V.iload_n dJ1_indexOf_4cfef_30 rfl ?_
      refine V.iload_n dJ1_indexOf_4cfef_31 rfl ?_
      refine V.iload_n dJ1_indexOf_4cfef_32 rfl ?_
      obtain ⟨u9, hk8, hf⟩ := bnd_some hf
      try dsimp only at hf
      refine V.ins cs_J1_95 (c_jl_indexOfChar hsk hk8) dJ1_indexOf_4cfef_33 rfl rfl (Nat.le_of_ble_eq_true rfl) (by decide) (by decide) (Nat.le_refl _) (Nat.le_refl _) (fun _ _ hq => ?_)
      obtain ⟨rfl, rfl⟩ := hq
      obtain rfl := Option.some.inj hf
      exact V.iret dJ1_indexOf_4cfef_36 rfl (Nat.le_refl _) (Nat.le_refl _) ⟨rfl, rfl⟩
    · rw [if_neg c6] at hf
      refine V.iconst (v := -1) dJ1_indexOf_4cfef_27 (by decide) ?_
      obtain rfl := Option.some.inj hf
      exact V.iret dJ1_indexOf_4cfef_28 rfl (Nat.le_refl _) (Nat.le_refl _) ⟨rfl, rfl⟩
  · rw [if_pos c1] at hf
    refine V.iconst (v := -1) dJ1_indexOf_4cfef_7 (by decide) ?_
    obtain rfl := Option.some.inj hf
    exact V.iret dJ1_indexOf_4cfef_8 rfl (Nat.le_refl _) (Nat.le_refl _) ⟨rfl, rfl⟩
theorem dJ0_indexOf_7cf53_0 : decode cJ0_indexOf_7cf53 0 = .ok (.aload_n 0, 1) := by decide +kernel
theorem dJ0_indexOf_7cf53_1 : decode cJ0_indexOf_7cf53 1 = .ok (.invokevirtual 492, 3) := by decide +kernel
theorem dJ0_indexOf_7cf53_4 : decode cJ0_indexOf_7cf53 4 = .ok (.ifCond .eq 19, 3) := by decide +kernel
theorem dJ0_indexOf_7cf53_7 : decode cJ0_indexOf_7cf53 7 = .ok (.aload_n 0, 1) := by decide +kernel
theorem dJ0_indexOf_7cf53_8 : decode cJ0_indexOf_7cf53 8 = .ok (.getfield 9, 3) := by decide +kernel
theorem dJ0_indexOf_7cf53_11 : decode cJ0_indexOf_7cf53 11 = .ok (.iload_n 1, 1) := by decide +kernel
theorem dJ0_indexOf_7cf53_12 : decode cJ0_indexOf_7cf53 12 = .ok (.iload_n 2, 1) := by decide +kernel
theorem dJ0_indexOf_7cf53_13 : decode cJ0_indexOf_7cf53 13 = .ok (.aload_n 0, 1) := by decide +kernel
theorem dJ0_indexOf_7cf53_14 : decode cJ0_indexOf_7cf53 14 = .ok (.invokevirtual 505, 3) := by decide +kernel
theorem dJ0_indexOf_7cf53_17 : decode cJ0_indexOf_7cf53 17 = .ok (.invokestatic 637, 3) := by decide +kernel
theorem dJ0_indexOf_7cf53_20 : decode cJ0_indexOf_7cf53 20 = .ok (.goto 16, 3) := by decide +kernel
theorem dJ0_indexOf_7cf53_36 : decode cJ0_indexOf_7cf53 36 = .ok (.ireturn, 1) := by decide +kernel
def js_indexOfFrom (F : Nat) (bs : List Int32) (v1 : Int32) (v2 : Int32) : Option (Int32) := if (js_isLatin1 bs) = 0 then (none) else ((jl_indexOf F bs v1 v2 (js_length bs)).bind (fun q2 => let u4 := q2; some u4))
theorem c_js_indexOfFrom {l : Launch} {D : va_G} {E : Nat → ClassId} {B : Nat → Prop} {n F : Nat} {T : Nat → Option (Nat × Nat)} {I : Nat → Nat → Int32} {J : Nat → Nat → Int64} {P : Nat → Nat → Option Nat}  {sk si : Nat} {so stx : String} {bs : List Int32} {v1 : Int32} {v2 : Int32} {r : Int32} (hsk : strs[sk]? = some (so, si, stx, bs)) (hf : js_indexOfFrom F bs v1 v2 = some r) : Ct l D E B yJ0_indexOf_7cf53 cJ0_indexOf_7cf53 3 (some .int) 2 0 0 [.ref (E (100 + 2 * sk)), .int v1, .int v2] (n, T, I, J, P) (Ret (some (.int r)) (n, T, I, J, P)) := by
  unfold js_indexOfFrom at hf
  refine Ct.ofVF (by decide +kernel) (Nat.le_of_ble_eq_true rfl) ?_
  refine V.aload_n dJ0_indexOf_7cf53_0 rfl ?_
  refine V.invS hsk cv_J0_492 (c_js_isLatin1 hsk) dJ0_indexOf_7cf53_1 rfl rfl rfl (Nat.le_of_ble_eq_true rfl) (by decide) (by decide) (Nat.le_refl _) (Nat.le_refl _) (fun _ _ hq => ?_)
  obtain ⟨rfl, rfl⟩ := hq
  refine V.if_eq 23 dJ0_indexOf_7cf53_4 (by decide) (fun c1 => ?_) (fun c1 => ?_)
  · rw [if_pos c1] at hf
    cases hf
  · rw [if_neg c1] at hf
    refine V.aload_n dJ0_indexOf_7cf53_7 rfl ?_
    refine V.getSv hsk kf_J0_9 dJ0_indexOf_7cf53_8 ?_
    refine V.iload_n dJ0_indexOf_7cf53_11 rfl ?_
    refine V.iload_n dJ0_indexOf_7cf53_12 rfl ?_
    refine V.aload_n dJ0_indexOf_7cf53_13 rfl ?_
    refine V.invS hsk cv_J0_505 (c_js_length hsk) dJ0_indexOf_7cf53_14 rfl rfl rfl (Nat.le_of_ble_eq_true rfl) (by decide) (by decide) (Nat.le_refl _) (Nat.le_refl _) (fun _ _ hq => ?_)
    obtain ⟨rfl, rfl⟩ := hq
    obtain ⟨u4, hk3, hf⟩ := bnd_some hf
    try dsimp only at hf
    refine V.ins cs_J0_637 (c_jl_indexOf hsk hk3) dJ0_indexOf_7cf53_17 rfl rfl (Nat.le_of_ble_eq_true rfl) (by decide) (by decide) (Nat.le_refl _) (Nat.le_refl _) (fun _ _ hq => ?_)
    obtain ⟨rfl, rfl⟩ := hq
    refine V.goto 36 dJ0_indexOf_7cf53_20 (by decide) ?_
    obtain rfl := Option.some.inj hf
    exact V.iret dJ0_indexOf_7cf53_36 rfl (Nat.le_refl _) (Nat.le_refl _) ⟨rfl, rfl⟩
theorem dJ0_indexOf_0f7a4_0 : decode cJ0_indexOf_0f7a4 0 = .ok (.aload_n 0, 1) := by decide +kernel
theorem dJ0_indexOf_0f7a4_1 : decode cJ0_indexOf_0f7a4 1 = .ok (.iload_n 1, 1) := by decide +kernel
theorem dJ0_indexOf_0f7a4_2 : decode cJ0_indexOf_0f7a4 2 = .ok (.iconst 0, 1) := by decide +kernel
theorem dJ0_indexOf_0f7a4_3 : decode cJ0_indexOf_0f7a4 3 = .ok (.invokevirtual 633, 3) := by decide +kernel
theorem dJ0_indexOf_0f7a4_6 : decode cJ0_indexOf_0f7a4 6 = .ok (.ireturn, 1) := by decide +kernel
def js_indexOf (F : Nat) (bs : List Int32) (v1 : Int32) : Option (Int32) := (js_indexOfFrom F bs v1 0).bind (fun q1 => let u3 := q1; some u3)
theorem c_js_indexOf {l : Launch} {D : va_G} {E : Nat → ClassId} {B : Nat → Prop} {n F : Nat} {T : Nat → Option (Nat × Nat)} {I : Nat → Nat → Int32} {J : Nat → Nat → Int64} {P : Nat → Nat → Option Nat}  {sk si : Nat} {so stx : String} {bs : List Int32} {v1 : Int32} {r : Int32} (hsk : strs[sk]? = some (so, si, stx, bs)) (hf : js_indexOf F bs v1 = some r) : Ct l D E B yJ0_indexOf_0f7a4 cJ0_indexOf_0f7a4 2 (some .int) 3 0 0 [.ref (E (100 + 2 * sk)), .int v1] (n, T, I, J, P) (Ret (some (.int r)) (n, T, I, J, P)) := by
  unfold js_indexOf at hf
  refine Ct.ofVF (by decide +kernel) (Nat.le_of_ble_eq_true rfl) ?_
  refine V.aload_n dJ0_indexOf_0f7a4_0 rfl ?_
  refine V.iload_n dJ0_indexOf_0f7a4_1 rfl ?_
  refine V.iconst (v := 0) dJ0_indexOf_0f7a4_2 (by decide) ?_
  obtain ⟨u3, hk2, hf⟩ := bnd_some hf
  try dsimp only at hf
  refine V.invS hsk cv_J0_633 (c_js_indexOfFrom hsk hk2) dJ0_indexOf_0f7a4_3 rfl rfl rfl (Nat.le_of_ble_eq_true rfl) (by decide) (by decide) (Nat.le_refl _) (Nat.le_refl _) (fun _ _ hq => ?_)
  obtain ⟨rfl, rfl⟩ := hq
  obtain rfl := Option.some.inj hf
  exact V.iret dJ0_indexOf_0f7a4_6 rfl (Nat.le_refl _) (Nat.le_refl _) ⟨rfl, rfl⟩
theorem dX12_keyAt_0 : decode cX12_keyAt 0 = .ok (.iconst 0, 1) := by decide +kernel
theorem dX12_keyAt_1 : decode cX12_keyAt 1 = .ok (.istore_n 1, 1) := by decide +kernel
theorem dX12_keyAt_2 : decode cX12_keyAt 2 = .ok (.iconst 1, 1) := by decide +kernel
theorem dX12_keyAt_3 : decode cX12_keyAt 3 = .ok (.istore_n 2, 1) := by decide +kernel
theorem dX12_keyAt_4 : decode cX12_keyAt 4 = .ok (.iload_n 2, 1) := by decide +kernel
theorem dX12_keyAt_5 : decode cX12_keyAt 5 = .ok (.ldc 89, 2) := by decide +kernel
theorem dX12_keyAt_7 : decode cX12_keyAt 7 = .ok (.invokevirtual 91, 3) := by decide +kernel
theorem dX12_keyAt_10 : decode cX12_keyAt 10 = .ok (.if_icmp .ge 113, 3) := by decide +kernel
theorem dX12_keyAt_13 : decode cX12_keyAt 13 = .ok (.iconst 0, 1) := by decide +kernel
theorem dX12_keyAt_14 : decode cX12_keyAt 14 = .ok (.istore_n 3, 1) := by decide +kernel
theorem dX12_keyAt_15 : decode cX12_keyAt 15 = .ok (.ldc 89, 2) := by decide +kernel
theorem dX12_keyAt_17 : decode cX12_keyAt 17 = .ok (.iload_n 2, 1) := by decide +kernel
theorem dX12_keyAt_18 : decode cX12_keyAt 18 = .ok (.iload_n 3, 1) := by decide +kernel
theorem dX12_keyAt_19 : decode cX12_keyAt 19 = .ok (.iadd, 1) := by decide +kernel
theorem dX12_keyAt_20 : decode cX12_keyAt 20 = .ok (.invokevirtual 97, 3) := by decide +kernel
theorem dX12_keyAt_23 : decode cX12_keyAt 23 = .ok (.bipush 32, 2) := by decide +kernel
theorem dX12_keyAt_25 : decode cX12_keyAt 25 = .ok (.if_icmp .eq 44, 3) := by decide +kernel
theorem dX12_keyAt_28 : decode cX12_keyAt 28 = .ok (.aload_n 0, 1) := by decide +kernel
theorem dX12_keyAt_29 : decode cX12_keyAt 29 = .ok (.getfield 101, 3) := by decide +kernel
theorem dX12_keyAt_32 : decode cX12_keyAt 32 = .ok (.iload_n 3, 1) := by decide +kernel
theorem dX12_keyAt_33 : decode cX12_keyAt 33 = .ok (.iadd, 1) := by decide +kernel
theorem dX12_keyAt_34 : decode cX12_keyAt 34 = .ok (.aload_n 0, 1) := by decide +kernel
theorem dX12_keyAt_35 : decode cX12_keyAt 35 = .ok (.getfield 104, 3) := by decide +kernel
theorem dX12_keyAt_38 : decode cX12_keyAt 38 = .ok (.if_icmp .ge 31, 3) := by decide +kernel
theorem dX12_keyAt_41 : decode cX12_keyAt 41 = .ok (.aload_n 0, 1) := by decide +kernel
theorem dX12_keyAt_42 : decode cX12_keyAt 42 = .ok (.getfield 21, 3) := by decide +kernel
theorem dX12_keyAt_45 : decode cX12_keyAt 45 = .ok (.aload_n 0, 1) := by decide +kernel
theorem dX12_keyAt_46 : decode cX12_keyAt 46 = .ok (.getfield 101, 3) := by decide +kernel
theorem dX12_keyAt_49 : decode cX12_keyAt 49 = .ok (.iload_n 3, 1) := by decide +kernel
theorem dX12_keyAt_50 : decode cX12_keyAt 50 = .ok (.iadd, 1) := by decide +kernel
theorem dX12_keyAt_51 : decode cX12_keyAt 51 = .ok (.iaload, 1) := by decide +kernel
theorem dX12_keyAt_52 : decode cX12_keyAt 52 = .ok (.ldc 89, 2) := by decide +kernel
theorem dX12_keyAt_54 : decode cX12_keyAt 54 = .ok (.iload_n 2, 1) := by decide +kernel
theorem dX12_keyAt_55 : decode cX12_keyAt 55 = .ok (.iload_n 3, 1) := by decide +kernel
theorem dX12_keyAt_56 : decode cX12_keyAt 56 = .ok (.iadd, 1) := by decide +kernel
theorem dX12_keyAt_57 : decode cX12_keyAt 57 = .ok (.invokevirtual 97, 3) := by decide +kernel
theorem dX12_keyAt_60 : decode cX12_keyAt 60 = .ok (.if_icmp .ne 9, 3) := by decide +kernel
theorem dX12_keyAt_63 : decode cX12_keyAt 63 = .ok (.iinc 3 1, 3) := by decide +kernel
theorem dX12_keyAt_66 : decode cX12_keyAt 66 = .ok (.goto (-51), 3) := by decide +kernel
theorem dX12_keyAt_69 : decode cX12_keyAt 69 = .ok (.ldc 89, 2) := by decide +kernel
theorem dX12_keyAt_71 : decode cX12_keyAt 71 = .ok (.iload_n 2, 1) := by decide +kernel
theorem dX12_keyAt_72 : decode cX12_keyAt 72 = .ok (.iload_n 3, 1) := by decide +kernel
theorem dX12_keyAt_73 : decode cX12_keyAt 73 = .ok (.iadd, 1) := by decide +kernel
theorem dX12_keyAt_74 : decode cX12_keyAt 74 = .ok (.invokevirtual 97, 3) := by decide +kernel
theorem dX12_keyAt_77 : decode cX12_keyAt 77 = .ok (.bipush 32, 2) := by decide +kernel
theorem dX12_keyAt_79 : decode cX12_keyAt 79 = .ok (.if_icmp .ne 18, 3) := by decide +kernel
theorem dX12_keyAt_82 : decode cX12_keyAt 82 = .ok (.aload_n 0, 1) := by decide +kernel
theorem dX12_keyAt_83 : decode cX12_keyAt 83 = .ok (.getfield 101, 3) := by decide +kernel
theorem dX12_keyAt_86 : decode cX12_keyAt 86 = .ok (.iload_n 3, 1) := by decide +kernel
theorem dX12_keyAt_87 : decode cX12_keyAt 87 = .ok (.iadd, 1) := by decide +kernel
theorem dX12_keyAt_88 : decode cX12_keyAt 88 = .ok (.aload_n 0, 1) := by decide +kernel
theorem dX12_keyAt_89 : decode cX12_keyAt 89 = .ok (.getfield 104, 3) := by decide +kernel
theorem dX12_keyAt_92 : decode cX12_keyAt 92 = .ok (.if_icmp .ne 5, 3) := by decide +kernel
theorem dX12_keyAt_95 : decode cX12_keyAt 95 = .ok (.iload_n 1, 1) := by decide +kernel
theorem dX12_keyAt_96 : decode cX12_keyAt 96 = .ok (.ireturn, 1) := by decide +kernel
theorem dX12_keyAt_97 : decode cX12_keyAt 97 = .ok (.ldc 89, 2) := by decide +kernel
theorem dX12_keyAt_99 : decode cX12_keyAt 99 = .ok (.iload_n 2, 1) := by decide +kernel
theorem dX12_keyAt_100 : decode cX12_keyAt 100 = .ok (.invokevirtual 97, 3) := by decide +kernel
theorem dX12_keyAt_103 : decode cX12_keyAt 103 = .ok (.bipush 32, 2) := by decide +kernel
theorem dX12_keyAt_105 : decode cX12_keyAt 105 = .ok (.if_icmp .eq 9, 3) := by decide +kernel
theorem dX12_keyAt_108 : decode cX12_keyAt 108 = .ok (.iinc 2 1, 3) := by decide +kernel
theorem dX12_keyAt_111 : decode cX12_keyAt 111 = .ok (.goto (-14), 3) := by decide +kernel
theorem dX12_keyAt_114 : decode cX12_keyAt 114 = .ok (.iinc 2 1, 3) := by decide +kernel
theorem dX12_keyAt_117 : decode cX12_keyAt 117 = .ok (.iinc 1 1, 3) := by decide +kernel
theorem dX12_keyAt_120 : decode cX12_keyAt 120 = .ok (.goto (-116), 3) := by decide +kernel
theorem dX12_keyAt_123 : decode cX12_keyAt 123 = .ok (.bipush 22, 2) := by decide +kernel
theorem dX12_keyAt_125 : decode cX12_keyAt 125 = .ok (.ireturn, 1) := by decide +kernel
def r_keyAt_15 (F : Nat) (I : Nat → Nat → Int32) (z : Nat) (g1 : Int32) (g2 : Int32) : Nat → Int32 → Option (Int32)
  | 0, _ => none
  | k + 1, l3 => (js_charAt (sbs 2) (g2 + l3)).bind (fun q2 => let u4 := q2; if u4 = 32 then (some l3) else (if (I z 7) ≤ ((I z 6) + l3) then (some l3) else (chk ((I z 6) + l3) 900 ((js_charAt (sbs 2) (g2 + l3)).bind (fun q8 => let u10 := q8; if (I (z + 3) (Int32.toNatClampNeg ((I z 6) + l3))) = u10 then (r_keyAt_15 F I z g1 g2 k (l3 + 1)) else (some l3))))))
def r_keyAt_97 (F : Nat) (z : Nat) (g1 : Int32) (g3 : Int32) : Nat → Int32 → Option (Int32)
  | 0, _ => none
  | k + 1, l2 => (js_charAt (sbs 2) l2).bind (fun q19 => let u21 := q19; if u21 = 32 then (some l2) else (r_keyAt_97 F z g1 g3 k (l2 + 1)))
def r_keyAt_4 (F : Nat) (I : Nat → Nat → Int32) (z : Nat) : Nat → Int32 → Int32 → Option ((Int32) ⊕ (Int32 × Int32))
  | 0, _, _ => none
  | k + 1, l1, l2 => if (js_length (sbs 2)) ≤ l2 then (some (.inr (l1, l2))) else ((r_keyAt_15 F I z l1 l2 F 0).bind (fun q12 => let m14 := q12; (js_charAt (sbs 2) (l2 + m14)).bind (fun q15 => let u17 := q15; if u17 = 32 then (if ((I z 6) + m14) = (I z 7) then (some (.inl l1)) else ((r_keyAt_97 F z l1 m14 F l2).bind (fun q27 => let m29 := q27; r_keyAt_4 F I z k (l1 + 1) (m29 + 1)))) else ((r_keyAt_97 F z l1 m14 F l2).bind (fun q23 => let m25 := q23; r_keyAt_4 F I z k (l1 + 1) (m25 + 1))))))
def r_keyAt (F : Nat) (I : Nat → Nat → Int32) (z : Nat) : Option (Int32) := (r_keyAt_4 F I z F 0 1).bind (fun q30 => match q30 with | .inl r0 => some r0 | .inr q0 => let m32 := q0.1; let m33 := q0.2; some 22)
theorem l_r_keyAt_15 {l : Launch} {D : va_G} {E : Nat → ClassId} {B : Nat → Prop} {n F : Nat} {Q : Option Value → HT → Prop} {T : Nat → Option (Nat × Nat)} {I : Nat → Nat → Int32} {J : Nat → Nat → Int64} {P : Nat → Nat → Option Nat} {z : Nat} {g1 : Int32} {g2 : Int32} (hs_z : isMd T P z)  (r : Int32) : ∀ (k : Nat) (l3 : Int32), r_keyAt_15 F I z g1 g2 k l3 = some r → V l D E B yX12_keyAt cX12_keyAt 4 (some .int) 4 0 0 Q 0 0 (n, T, I, J, P) 69 [(0, some (.ref z)), (1, some (.int g1)), (2, some (.int g2)), (3, some (.int r))] [] → V l D E B yX12_keyAt cX12_keyAt 4 (some .int) 4 0 0 Q 0 0 (n, T, I, J, P) 15 [(0, some (.ref z)), (1, some (.int g1)), (2, some (.int g2)), (3, some (.int l3))] [] := by
  intro k
  induction k with
  | zero =>
    intro l3 hf hk
    cases hf
  | succ k ih =>
    intro l3 hf hk
    unfold r_keyAt_15 at hf
    refine V.ldcS (sk := 2) ss2 dX12_keyAt_15 ?_
    refine V.iload_n dX12_keyAt_17 rfl ?_
    refine V.iload_n dX12_keyAt_18 rfl ?_
    refine V.iadd dX12_keyAt_19 ?_
    obtain ⟨u4, hk3, hf⟩ := bnd_some hf
    try dsimp only at hf
    refine V.invS ss2 cv_X12_97 (c_js_charAt ss2 hk3) dX12_keyAt_20 rfl rfl rfl (Nat.le_of_ble_eq_true rfl) (by decide) (by decide) (Nat.le_refl _) (Nat.le_refl _) (fun _ _ hq => ?_)
    obtain ⟨rfl, rfl⟩ := hq
    refine V.bipush (v := 32) dX12_keyAt_23 (by decide) ?_
    refine V.icmp_eq 69 dX12_keyAt_25 (by decide) (fun c5 => ?_) (fun c5 => ?_)
    · rw [if_pos c5] at hf
      obtain rfl := Option.some.inj hf
      exact V.lo [(0, some (.ref z)), (1, some (.int g1)), (2, some (.int g2)), (3, some (.int l3))] (by simp only [Subs]; repeat' first | exact trivial | constructor | rfl) hk
    · rw [if_neg c5] at hf
      refine V.aload_n dX12_keyAt_28 rfl ?_
      refine V.getf fl_X12_101 dX12_keyAt_29 (hs_z.1 0 (12, 0) rfl) (by decide) rfl ?_
      refine V.iload_n dX12_keyAt_32 rfl ?_
      refine V.iadd dX12_keyAt_33 ?_
      refine V.aload_n dX12_keyAt_34 rfl ?_
      refine V.getf fl_X12_104 dX12_keyAt_35 (hs_z.1 0 (12, 0) rfl) (by decide) rfl ?_
      refine V.icmp_ge 69 dX12_keyAt_38 (by decide) (fun c6 => ?_) (fun c6 => ?_)
      · rw [if_pos c6] at hf
        obtain rfl := Option.some.inj hf
        exact V.lo [(0, some (.ref z)), (1, some (.int g1)), (2, some (.int g2)), (3, some (.int l3))] (by simp only [Subs]; repeat' first | exact trivial | constructor | rfl) hk
      · rw [if_neg c6] at hf
        refine V.aload_n dX12_keyAt_41 rfl ?_
        refine V.getr fl_X12_21 dX12_keyAt_42 (hs_z.1 0 (12, 0) rfl) (hs_z.2 0 3 3 rfl) (by decide) rfl ?_
        refine V.aload_n dX12_keyAt_45 rfl ?_
        refine V.getf fl_X12_101 dX12_keyAt_46 (hs_z.1 0 (12, 0) rfl) (by decide) rfl ?_
        refine V.iload_n dX12_keyAt_49 rfl ?_
        refine V.iadd dX12_keyAt_50 ?_
        obtain ⟨hb7, hf⟩ := chk_some hf
        refine V.iald dX12_keyAt_51 (hs_z.1 3 (20, 900) rfl) hb7 ?_
        refine V.ldcS (sk := 2) ss2 dX12_keyAt_52 ?_
        refine V.iload_n dX12_keyAt_54 rfl ?_
        refine V.iload_n dX12_keyAt_55 rfl ?_
        refine V.iadd dX12_keyAt_56 ?_
        obtain ⟨u10, hk9, hf⟩ := bnd_some hf
        try dsimp only at hf
        refine V.invS ss2 cv_X12_97 (c_js_charAt ss2 hk9) dX12_keyAt_57 rfl rfl rfl (Nat.le_of_ble_eq_true rfl) (by decide) (by decide) (Nat.le_refl _) (Nat.le_refl _) (fun _ _ hq => ?_)
        obtain ⟨rfl, rfl⟩ := hq
        refine V.icmp_ne 69 dX12_keyAt_60 (by decide) (fun c11 => ?_) (fun c11 => ?_)
        · rw [if_neg c11] at hf
          obtain rfl := Option.some.inj hf
          exact V.lo [(0, some (.ref z)), (1, some (.int g1)), (2, some (.int g2)), (3, some (.int l3))] (by simp only [Subs]; repeat' first | exact trivial | constructor | rfl) hk
        · rw [if_pos c11] at hf
          refine V.iinc (v := (l3 + 1)) dX12_keyAt_63 rfl rfl (by first | exact rfl | exact trivial) ?_
          refine V.goto 15 dX12_keyAt_66 (by decide) ?_
          exact V.lo [(0, some (.ref z)), (1, some (.int g1)), (2, some (.int g2)), (3, some (.int (l3 + 1)))] (by simp only [Subs]; repeat' first | exact trivial | constructor | rfl) (ih _ hf hk)
theorem l_r_keyAt_97 {l : Launch} {D : va_G} {E : Nat → ClassId} {B : Nat → Prop} {n F : Nat} {Q : Option Value → HT → Prop} {T : Nat → Option (Nat × Nat)} {I : Nat → Nat → Int32} {J : Nat → Nat → Int64} {P : Nat → Nat → Option Nat} {z : Nat} {g1 : Int32} {g3 : Int32} (hs_z : isMd T P z)  (r : Int32) : ∀ (k : Nat) (l2 : Int32), r_keyAt_97 F z g1 g3 k l2 = some r → V l D E B yX12_keyAt cX12_keyAt 4 (some .int) 4 0 0 Q 0 0 (n, T, I, J, P) 114 [(0, some (.ref z)), (1, some (.int g1)), (2, some (.int r)), (3, some (.int g3))] [] → V l D E B yX12_keyAt cX12_keyAt 4 (some .int) 4 0 0 Q 0 0 (n, T, I, J, P) 97 [(0, some (.ref z)), (1, some (.int g1)), (2, some (.int l2)), (3, some (.int g3))] [] := by
  intro k
  induction k with
  | zero =>
    intro l2 hf hk
    cases hf
  | succ k ih =>
    intro l2 hf hk
    unfold r_keyAt_97 at hf
    refine V.ldcS (sk := 2) ss2 dX12_keyAt_97 ?_
    refine V.iload_n dX12_keyAt_99 rfl ?_
    obtain ⟨u21, hk20, hf⟩ := bnd_some hf
    try dsimp only at hf
    refine V.invS ss2 cv_X12_97 (c_js_charAt ss2 hk20) dX12_keyAt_100 rfl rfl rfl (Nat.le_of_ble_eq_true rfl) (by decide) (by decide) (Nat.le_refl _) (Nat.le_refl _) (fun _ _ hq => ?_)
    obtain ⟨rfl, rfl⟩ := hq
    refine V.bipush (v := 32) dX12_keyAt_103 (by decide) ?_
    refine V.icmp_eq 114 dX12_keyAt_105 (by decide) (fun c22 => ?_) (fun c22 => ?_)
    · rw [if_pos c22] at hf
      obtain rfl := Option.some.inj hf
      exact V.lo [(0, some (.ref z)), (1, some (.int g1)), (2, some (.int l2)), (3, some (.int g3))] (by simp only [Subs]; repeat' first | exact trivial | constructor | rfl) hk
    · rw [if_neg c22] at hf
      refine V.iinc (v := (l2 + 1)) dX12_keyAt_108 rfl rfl (by first | exact rfl | exact trivial) ?_
      refine V.goto 97 dX12_keyAt_111 (by decide) ?_
      exact V.lo [(0, some (.ref z)), (1, some (.int g1)), (2, some (.int (l2 + 1))), (3, some (.int g3))] (by simp only [Subs]; repeat' first | exact trivial | constructor | rfl) (ih _ hf hk)
theorem l_r_keyAt_4 {l : Launch} {D : va_G} {E : Nat → ClassId} {B : Nat → Prop} {n F : Nat} {Q : Option Value → HT → Prop} {T : Nat → Option (Nat × Nat)} {I : Nat → Nat → Int32} {J : Nat → Nat → Int64} {P : Nat → Nat → Option Nat} {z : Nat}  (hs_z : isMd T P z)  (r : (Int32) ⊕ (Int32 × Int32)) : ∀ (k : Nat) (l1 : Int32) (l2 : Int32), r_keyAt_4 F I z k l1 l2 = some r → (match r with | .inl r => Q (some (.int r)) (n, T, I, J, P) | .inr r => V l D E B yX12_keyAt cX12_keyAt 4 (some .int) 4 0 0 Q 0 0 (n, T, I, J, P) 123 [(0, some (.ref z)), (1, some (.int (r.1))), (2, some (.int (r.2)))] []) → V l D E B yX12_keyAt cX12_keyAt 4 (some .int) 4 0 0 Q 0 0 (n, T, I, J, P) 4 [(0, some (.ref z)), (1, some (.int l1)), (2, some (.int l2))] [] := by
  intro k
  induction k with
  | zero =>
    intro l1 l2 hf hk
    cases hf
  | succ k ih =>
    intro l1 l2 hf hk
    unfold r_keyAt_4 at hf
    refine V.iload_n dX12_keyAt_4 rfl ?_
    refine V.ldcS (sk := 2) ss2 dX12_keyAt_5 ?_
    refine V.invS ss2 cv_X12_91 (c_js_length ss2) dX12_keyAt_7 rfl rfl rfl (Nat.le_of_ble_eq_true rfl) (by decide) (by decide) (Nat.le_refl _) (Nat.le_refl _) (fun _ _ hq => ?_)
    obtain ⟨rfl, rfl⟩ := hq
    refine V.icmp_ge 123 dX12_keyAt_10 (by decide) (fun c1 => ?_) (fun c1 => ?_)
    · rw [if_pos c1] at hf
      obtain rfl := Option.some.inj hf
      exact V.lo [(0, some (.ref z)), (1, some (.int l1)), (2, some (.int l2))] (by simp only [Subs]; repeat' first | exact trivial | constructor | rfl) hk
    · rw [if_neg c1] at hf
      refine V.iconst (v := 0) dX12_keyAt_13 (by decide) ?_
      refine V.istore_n dX12_keyAt_14 rfl (by decide) (by first | exact rfl | exact trivial) ?_
      obtain ⟨m14, hk13, hf⟩ := bnd_some hf
      try dsimp only at hf
      refine V.lo [(0, some (.ref z)), (1, some (.int l1)), (2, some (.int l2)), (3, some (.int 0))] (by simp only [Subs]; repeat' first | exact trivial | constructor | rfl) (l_r_keyAt_15 hs_z _ F _ hk13 ?_)
      try dsimp only
      refine V.ldcS (sk := 2) ss2 dX12_keyAt_69 ?_
      refine V.iload_n dX12_keyAt_71 rfl ?_
      refine V.iload_n dX12_keyAt_72 rfl ?_
      refine V.iadd dX12_keyAt_73 ?_
      obtain ⟨u17, hk16, hf⟩ := bnd_some hf
      try dsimp only at hf
      refine V.invS ss2 cv_X12_97 (c_js_charAt ss2 hk16) dX12_keyAt_74 rfl rfl rfl (Nat.le_of_ble_eq_true rfl) (by decide) (by decide) (Nat.le_refl _) (Nat.le_refl _) (fun _ _ hq => ?_)
      obtain ⟨rfl, rfl⟩ := hq
      refine V.bipush (v := 32) dX12_keyAt_77 (by decide) ?_
      refine V.icmp_ne 97 dX12_keyAt_79 (by decide) (fun c18 => ?_) (fun c18 => ?_)
      · rw [if_neg c18] at hf
        obtain ⟨m25, hk24, hf⟩ := bnd_some hf
        try dsimp only at hf
        refine V.lo [(0, some (.ref z)), (1, some (.int l1)), (2, some (.int l2)), (3, some (.int m14))] (by simp only [Subs]; repeat' first | exact trivial | constructor | rfl) (l_r_keyAt_97 hs_z _ F _ hk24 ?_)
        try dsimp only
        refine V.iinc (v := (m25 + 1)) dX12_keyAt_114 rfl rfl (by first | exact rfl | exact trivial) ?_
        refine V.iinc (v := (l1 + 1)) dX12_keyAt_117 rfl rfl (by first | exact rfl | exact trivial) ?_
        refine V.goto 4 dX12_keyAt_120 (by decide) ?_
        exact V.lo [(0, some (.ref z)), (1, some (.int (l1 + 1))), (2, some (.int (m25 + 1)))] (by simp only [Subs]; repeat' first | exact trivial | constructor | rfl) (ih _ _ hf hk)
      · rw [if_pos c18] at hf
        refine V.aload_n dX12_keyAt_82 rfl ?_
        refine V.getf fl_X12_101 dX12_keyAt_83 (hs_z.1 0 (12, 0) rfl) (by decide) rfl ?_
        refine V.iload_n dX12_keyAt_86 rfl ?_
        refine V.iadd dX12_keyAt_87 ?_
        refine V.aload_n dX12_keyAt_88 rfl ?_
        refine V.getf fl_X12_104 dX12_keyAt_89 (hs_z.1 0 (12, 0) rfl) (by decide) rfl ?_
        refine V.icmp_ne 97 dX12_keyAt_92 (by decide) (fun c26 => ?_) (fun c26 => ?_)
        · rw [if_neg c26] at hf
          obtain ⟨m29, hk28, hf⟩ := bnd_some hf
          try dsimp only at hf
          refine V.lo [(0, some (.ref z)), (1, some (.int l1)), (2, some (.int l2)), (3, some (.int m14))] (by simp only [Subs]; repeat' first | exact trivial | constructor | rfl) (l_r_keyAt_97 hs_z _ F _ hk28 ?_)
          try dsimp only
          refine V.iinc (v := (m29 + 1)) dX12_keyAt_114 rfl rfl (by first | exact rfl | exact trivial) ?_
          refine V.iinc (v := (l1 + 1)) dX12_keyAt_117 rfl rfl (by first | exact rfl | exact trivial) ?_
          refine V.goto 4 dX12_keyAt_120 (by decide) ?_
          exact V.lo [(0, some (.ref z)), (1, some (.int (l1 + 1))), (2, some (.int (m29 + 1)))] (by simp only [Subs]; repeat' first | exact trivial | constructor | rfl) (ih _ _ hf hk)
        · rw [if_pos c26] at hf
          refine V.iload_n dX12_keyAt_95 rfl ?_
          obtain rfl := Option.some.inj hf
          exact V.iret dX12_keyAt_96 rfl (Nat.le_refl _) (Nat.le_refl _) hk
theorem c_r_keyAt {l : Launch} {D : va_G} {E : Nat → ClassId} {B : Nat → Prop} {n F : Nat} {T : Nat → Option (Nat × Nat)} {I : Nat → Nat → Int32} {J : Nat → Nat → Int64} {P : Nat → Nat → Option Nat} {z : Nat}  {r : Int32} (hs_z : isMd T P z) (hf : r_keyAt F I z = some r) : Ct l D E B yX12_keyAt cX12_keyAt 4 (some .int) 4 0 0 [.ref z] (n, T, I, J, P) (Ret (some (.int r)) (n, T, I, J, P)) := by
  unfold r_keyAt at hf
  refine Ct.ofV (by decide) (Nat.le_of_ble_eq_true rfl) ?_
  refine V.iconst (v := 0) dX12_keyAt_0 (by decide) ?_
  refine V.istore_n dX12_keyAt_1 rfl (by decide) (by first | exact rfl | exact trivial) ?_
  refine V.iconst (v := 1) dX12_keyAt_2 (by decide) ?_
  refine V.istore_n dX12_keyAt_3 rfl (by decide) (by first | exact rfl | exact trivial) ?_
  obtain ⟨q30, hk31, hf⟩ := bnd_some hf
  refine V.lo [(0, some (.ref z)), (1, some (.int 0)), (2, some (.int 1))] (by simp only [Subs]; repeat' first | exact trivial | constructor | rfl) (l_r_keyAt_4 hs_z q30 F _ _ hk31 ?_)
  rcases q30 with r0 | ⟨m32, m33⟩
  · try dsimp only at hf ⊢
    obtain rfl := Option.some.inj hf
    exact ⟨rfl, rfl⟩
  · try dsimp only at hf ⊢
    refine V.bipush (v := 22) dX12_keyAt_123 (by decide) ?_
    obtain rfl := Option.some.inj hf
    exact V.iret dX12_keyAt_125 rfl (Nat.le_refl _) (Nat.le_refl _) ⟨rfl, rfl⟩
theorem dX12_nextToken_0 : decode cX12_nextToken 0 = .ok (.aload_n 0, 1) := by decide +kernel
theorem dX12_nextToken_1 : decode cX12_nextToken 1 = .ok (.aload_n 0, 1) := by decide +kernel
theorem dX12_nextToken_2 : decode cX12_nextToken 2 = .ok (.getfield 104, 3) := by decide +kernel
theorem dX12_nextToken_5 : decode cX12_nextToken 5 = .ok (.putfield 101, 3) := by decide +kernel
theorem dX12_nextToken_8 : decode cX12_nextToken 8 = .ok (.aload_n 0, 1) := by decide +kernel
theorem dX12_nextToken_9 : decode cX12_nextToken 9 = .ok (.aload_n 0, 1) := by decide +kernel
theorem dX12_nextToken_10 : decode cX12_nextToken 10 = .ok (.getfield 101, 3) := by decide +kernel
theorem dX12_nextToken_13 : decode cX12_nextToken 13 = .ok (.invokevirtual 107, 3) := by decide +kernel
theorem dX12_nextToken_16 : decode cX12_nextToken 16 = .ok (.bipush 10, 2) := by decide +kernel
theorem dX12_nextToken_18 : decode cX12_nextToken 18 = .ok (.if_icmp .eq 16, 3) := by decide +kernel
theorem dX12_nextToken_21 : decode cX12_nextToken 21 = .ok (.aload_n 0, 1) := by decide +kernel
theorem dX12_nextToken_22 : decode cX12_nextToken 22 = .ok (.aload_n 0, 1) := by decide +kernel
theorem dX12_nextToken_23 : decode cX12_nextToken 23 = .ok (.getfield 101, 3) := by decide +kernel
theorem dX12_nextToken_26 : decode cX12_nextToken 26 = .ok (.invokevirtual 107, 3) := by decide +kernel
theorem dX12_nextToken_29 : decode cX12_nextToken 29 = .ok (.bipush 32, 2) := by decide +kernel
theorem dX12_nextToken_31 : decode cX12_nextToken 31 = .ok (.if_icmp .ne 16, 3) := by decide +kernel
theorem dX12_nextToken_34 : decode cX12_nextToken 34 = .ok (.aload_n 0, 1) := by decide +kernel
theorem dX12_nextToken_35 : decode cX12_nextToken 35 = .ok (.dup, 1) := by decide +kernel
theorem dX12_nextToken_36 : decode cX12_nextToken 36 = .ok (.getfield 101, 3) := by decide +kernel
theorem dX12_nextToken_39 : decode cX12_nextToken 39 = .ok (.iconst 1, 1) := by decide +kernel
theorem dX12_nextToken_40 : decode cX12_nextToken 40 = .ok (.iadd, 1) := by decide +kernel
theorem dX12_nextToken_41 : decode cX12_nextToken 41 = .ok (.putfield 101, 3) := by decide +kernel
theorem dX12_nextToken_44 : decode cX12_nextToken 44 = .ok (.goto (-36), 3) := by decide +kernel
theorem dX12_nextToken_47 : decode cX12_nextToken 47 = .ok (.aload_n 0, 1) := by decide +kernel
theorem dX12_nextToken_48 : decode cX12_nextToken 48 = .ok (.aload_n 0, 1) := by decide +kernel
theorem dX12_nextToken_49 : decode cX12_nextToken 49 = .ok (.getfield 101, 3) := by decide +kernel
theorem dX12_nextToken_52 : decode cX12_nextToken 52 = .ok (.putfield 104, 3) := by decide +kernel
theorem dX12_nextToken_55 : decode cX12_nextToken 55 = .ok (.aload_n 0, 1) := by decide +kernel
theorem dX12_nextToken_56 : decode cX12_nextToken 56 = .ok (.getfield 101, 3) := by decide +kernel
theorem dX12_nextToken_59 : decode cX12_nextToken 59 = .ok (.aload_n 0, 1) := by decide +kernel
theorem dX12_nextToken_60 : decode cX12_nextToken 60 = .ok (.getfield 86, 3) := by decide +kernel
theorem dX12_nextToken_63 : decode cX12_nextToken 63 = .ok (.if_icmp .lt 12, 3) := by decide +kernel
theorem dX12_nextToken_66 : decode cX12_nextToken 66 = .ok (.aload_n 0, 1) := by decide +kernel
theorem dX12_nextToken_67 : decode cX12_nextToken 67 = .ok (.bipush 24, 2) := by decide +kernel
theorem dX12_nextToken_69 : decode cX12_nextToken 69 = .ok (.putfield 111, 3) := by decide +kernel
theorem dX12_nextToken_72 : decode cX12_nextToken 72 = .ok (.goto 222, 3) := by decide +kernel
theorem dX12_nextToken_75 : decode cX12_nextToken 75 = .ok (.aload_n 0, 1) := by decide +kernel
theorem dX12_nextToken_76 : decode cX12_nextToken 76 = .ok (.aload_n 0, 1) := by decide +kernel
theorem dX12_nextToken_77 : decode cX12_nextToken 77 = .ok (.getfield 101, 3) := by decide +kernel
theorem dX12_nextToken_80 : decode cX12_nextToken 80 = .ok (.invokevirtual 107, 3) := by decide +kernel
theorem dX12_nextToken_83 : decode cX12_nextToken 83 = .ok (.invokestatic 114, 3) := by decide +kernel
theorem dX12_nextToken_86 : decode cX12_nextToken 86 = .ok (.ifCond .eq 41, 3) := by decide +kernel
theorem dX12_nextToken_89 : decode cX12_nextToken 89 = .ok (.aload_n 0, 1) := by decide +kernel
theorem dX12_nextToken_90 : decode cX12_nextToken 90 = .ok (.aload_n 0, 1) := by decide +kernel
theorem dX12_nextToken_91 : decode cX12_nextToken 91 = .ok (.getfield 104, 3) := by decide +kernel
theorem dX12_nextToken_94 : decode cX12_nextToken 94 = .ok (.invokevirtual 107, 3) := by decide +kernel
theorem dX12_nextToken_97 : decode cX12_nextToken 97 = .ok (.invokestatic 114, 3) := by decide +kernel
theorem dX12_nextToken_100 : decode cX12_nextToken 100 = .ok (.ifCond .eq 16, 3) := by decide +kernel
theorem dX12_nextToken_103 : decode cX12_nextToken 103 = .ok (.aload_n 0, 1) := by decide +kernel
theorem dX12_nextToken_104 : decode cX12_nextToken 104 = .ok (.dup, 1) := by decide +kernel
theorem dX12_nextToken_105 : decode cX12_nextToken 105 = .ok (.getfield 104, 3) := by decide +kernel
theorem dX12_nextToken_108 : decode cX12_nextToken 108 = .ok (.iconst 1, 1) := by decide +kernel
theorem dX12_nextToken_109 : decode cX12_nextToken 109 = .ok (.iadd, 1) := by decide +kernel
theorem dX12_nextToken_110 : decode cX12_nextToken 110 = .ok (.putfield 104, 3) := by decide +kernel
theorem dX12_nextToken_113 : decode cX12_nextToken 113 = .ok (.goto (-24), 3) := by decide +kernel
theorem dX12_nextToken_116 : decode cX12_nextToken 116 = .ok (.aload_n 0, 1) := by decide +kernel
theorem dX12_nextToken_117 : decode cX12_nextToken 117 = .ok (.aload_n 0, 1) := by decide +kernel
theorem dX12_nextToken_118 : decode cX12_nextToken 118 = .ok (.invokevirtual 118, 3) := by decide +kernel
theorem dX12_nextToken_121 : decode cX12_nextToken 121 = .ok (.putfield 111, 3) := by decide +kernel
theorem dX12_nextToken_124 : decode cX12_nextToken 124 = .ok (.goto 170, 3) := by decide +kernel
theorem dX12_nextToken_127 : decode cX12_nextToken 127 = .ok (.aload_n 0, 1) := by decide +kernel
theorem dX12_nextToken_128 : decode cX12_nextToken 128 = .ok (.aload_n 0, 1) := by decide +kernel
theorem dX12_nextToken_129 : decode cX12_nextToken 129 = .ok (.getfield 101, 3) := by decide +kernel
theorem dX12_nextToken_132 : decode cX12_nextToken 132 = .ok (.invokevirtual 107, 3) := by decide +kernel
theorem dX12_nextToken_135 : decode cX12_nextToken 135 = .ok (.invokestatic 121, 3) := by decide +kernel
theorem dX12_nextToken_138 : decode cX12_nextToken 138 = .ok (.ifCond .eq 98, 3) := by decide +kernel
theorem dX12_nextToken_141 : decode cX12_nextToken 141 = .ok (.aload_n 0, 1) := by decide +kernel
theorem dX12_nextToken_142 : decode cX12_nextToken 142 = .ok (.iconst 0, 1) := by decide +kernel
theorem dX12_nextToken_143 : decode cX12_nextToken 143 = .ok (.putfield 124, 3) := by decide +kernel
theorem dX12_nextToken_146 : decode cX12_nextToken 146 = .ok (.aload_n 0, 1) := by decide +kernel
theorem dX12_nextToken_147 : decode cX12_nextToken 147 = .ok (.aload_n 0, 1) := by decide +kernel
theorem dX12_nextToken_148 : decode cX12_nextToken 148 = .ok (.getfield 104, 3) := by decide +kernel
theorem dX12_nextToken_151 : decode cX12_nextToken 151 = .ok (.invokevirtual 107, 3) := by decide +kernel
theorem dX12_nextToken_154 : decode cX12_nextToken 154 = .ok (.invokestatic 121, 3) := by decide +kernel
theorem dX12_nextToken_157 : decode cX12_nextToken 157 = .ok (.ifCond .eq 52, 3) := by decide +kernel
theorem dX12_nextToken_160 : decode cX12_nextToken 160 = .ok (.aload_n 0, 1) := by decide +kernel
theorem dX12_nextToken_161 : decode cX12_nextToken 161 = .ok (.getfield 104, 3) := by decide +kernel
theorem dX12_nextToken_164 : decode cX12_nextToken 164 = .ok (.aload_n 0, 1) := by decide +kernel
theorem dX12_nextToken_165 : decode cX12_nextToken 165 = .ok (.getfield 101, 3) := by decide +kernel
theorem dX12_nextToken_168 : decode cX12_nextToken 168 = .ok (.isub, 1) := by decide +kernel
theorem dX12_nextToken_169 : decode cX12_nextToken 169 = .ok (.iconst 3, 1) := by decide +kernel
theorem dX12_nextToken_170 : decode cX12_nextToken 170 = .ok (.if_icmp .ge 26, 3) := by decide +kernel
theorem dX12_nextToken_173 : decode cX12_nextToken 173 = .ok (.aload_n 0, 1) := by decide +kernel
theorem dX12_nextToken_174 : decode cX12_nextToken 174 = .ok (.bipush 10, 2) := by decide +kernel
theorem dX12_nextToken_176 : decode cX12_nextToken 176 = .ok (.aload_n 0, 1) := by decide +kernel
theorem dX12_nextToken_177 : decode cX12_nextToken 177 = .ok (.getfield 124, 3) := by decide +kernel
theorem dX12_nextToken_180 : decode cX12_nextToken 180 = .ok (.imul, 1) := by decide +kernel
theorem dX12_nextToken_181 : decode cX12_nextToken 181 = .ok (.aload_n 0, 1) := by decide +kernel
theorem dX12_nextToken_182 : decode cX12_nextToken 182 = .ok (.aload_n 0, 1) := by decide +kernel
theorem dX12_nextToken_183 : decode cX12_nextToken 183 = .ok (.getfield 104, 3) := by decide +kernel
theorem dX12_nextToken_186 : decode cX12_nextToken 186 = .ok (.invokevirtual 107, 3) := by decide +kernel
theorem dX12_nextToken_189 : decode cX12_nextToken 189 = .ok (.iadd, 1) := by decide +kernel
theorem dX12_nextToken_190 : decode cX12_nextToken 190 = .ok (.bipush 48, 2) := by decide +kernel
theorem dX12_nextToken_192 : decode cX12_nextToken 192 = .ok (.isub, 1) := by decide +kernel
theorem dX12_nextToken_193 : decode cX12_nextToken 193 = .ok (.putfield 124, 3) := by decide +kernel
theorem dX12_nextToken_196 : decode cX12_nextToken 196 = .ok (.aload_n 0, 1) := by decide +kernel
theorem dX12_nextToken_197 : decode cX12_nextToken 197 = .ok (.dup, 1) := by decide +kernel
theorem dX12_nextToken_198 : decode cX12_nextToken 198 = .ok (.getfield 104, 3) := by decide +kernel
theorem dX12_nextToken_201 : decode cX12_nextToken 201 = .ok (.iconst 1, 1) := by decide +kernel
theorem dX12_nextToken_202 : decode cX12_nextToken 202 = .ok (.iadd, 1) := by decide +kernel
theorem dX12_nextToken_203 : decode cX12_nextToken 203 = .ok (.putfield 104, 3) := by decide +kernel
theorem dX12_nextToken_206 : decode cX12_nextToken 206 = .ok (.goto (-60), 3) := by decide +kernel
theorem dX12_nextToken_209 : decode cX12_nextToken 209 = .ok (.aload_n 0, 1) := by decide +kernel
theorem dX12_nextToken_210 : decode cX12_nextToken 210 = .ok (.aload_n 0, 1) := by decide +kernel
theorem dX12_nextToken_211 : decode cX12_nextToken 211 = .ok (.getfield 104, 3) := by decide +kernel
theorem dX12_nextToken_214 : decode cX12_nextToken 214 = .ok (.aload_n 0, 1) := by decide +kernel
theorem dX12_nextToken_215 : decode cX12_nextToken 215 = .ok (.getfield 101, 3) := by decide +kernel
theorem dX12_nextToken_218 : decode cX12_nextToken 218 = .ok (.isub, 1) := by decide +kernel
theorem dX12_nextToken_219 : decode cX12_nextToken 219 = .ok (.iconst 3, 1) := by decide +kernel
theorem dX12_nextToken_220 : decode cX12_nextToken 220 = .ok (.if_icmp .le 8, 3) := by decide +kernel
theorem dX12_nextToken_223 : decode cX12_nextToken 223 = .ok (.bipush 25, 2) := by decide +kernel
theorem dX12_nextToken_225 : decode cX12_nextToken 225 = .ok (.goto 5, 3) := by decide +kernel
theorem dX12_nextToken_228 : decode cX12_nextToken 228 = .ok (.bipush 23, 2) := by decide +kernel
theorem dX12_nextToken_230 : decode cX12_nextToken 230 = .ok (.putfield 111, 3) := by decide +kernel
theorem dX12_nextToken_233 : decode cX12_nextToken 233 = .ok (.goto 61, 3) := by decide +kernel
theorem dX12_nextToken_236 : decode cX12_nextToken 236 = .ok (.aload_n 0, 1) := by decide +kernel
theorem dX12_nextToken_237 : decode cX12_nextToken 237 = .ok (.dup, 1) := by decide +kernel
theorem dX12_nextToken_238 : decode cX12_nextToken 238 = .ok (.getfield 104, 3) := by decide +kernel
theorem dX12_nextToken_241 : decode cX12_nextToken 241 = .ok (.iconst 1, 1) := by decide +kernel
theorem dX12_nextToken_242 : decode cX12_nextToken 242 = .ok (.iadd, 1) := by decide +kernel
theorem dX12_nextToken_243 : decode cX12_nextToken 243 = .ok (.putfield 104, 3) := by decide +kernel
theorem dX12_nextToken_246 : decode cX12_nextToken 246 = .ok (.aload_n 0, 1) := by decide +kernel
theorem dX12_nextToken_247 : decode cX12_nextToken 247 = .ok (.bipush 25, 2) := by decide +kernel
theorem dX12_nextToken_249 : decode cX12_nextToken 249 = .ok (.putfield 111, 3) := by decide +kernel
theorem dX12_nextToken_252 : decode cX12_nextToken 252 = .ok (.iconst 0, 1) := by decide +kernel
theorem dX12_nextToken_253 : decode cX12_nextToken 253 = .ok (.istore_n 1, 1) := by decide +kernel
theorem dX12_nextToken_254 : decode cX12_nextToken 254 = .ok (.iload_n 1, 1) := by decide +kernel
theorem dX12_nextToken_255 : decode cX12_nextToken 255 = .ok (.ldc 127, 2) := by decide +kernel
theorem dX12_nextToken_257 : decode cX12_nextToken 257 = .ok (.invokevirtual 91, 3) := by decide +kernel
theorem dX12_nextToken_260 : decode cX12_nextToken 260 = .ok (.if_icmp .ge 34, 3) := by decide +kernel
theorem dX12_nextToken_263 : decode cX12_nextToken 263 = .ok (.aload_n 0, 1) := by decide +kernel
theorem dX12_nextToken_264 : decode cX12_nextToken 264 = .ok (.aload_n 0, 1) := by decide +kernel
theorem dX12_nextToken_265 : decode cX12_nextToken 265 = .ok (.getfield 101, 3) := by decide +kernel
theorem dX12_nextToken_268 : decode cX12_nextToken 268 = .ok (.invokevirtual 107, 3) := by decide +kernel
theorem dX12_nextToken_271 : decode cX12_nextToken 271 = .ok (.ldc 127, 2) := by decide +kernel
theorem dX12_nextToken_273 : decode cX12_nextToken 273 = .ok (.iload_n 1, 1) := by decide +kernel
theorem dX12_nextToken_274 : decode cX12_nextToken 274 = .ok (.invokevirtual 97, 3) := by decide +kernel
theorem dX12_nextToken_277 : decode cX12_nextToken 277 = .ok (.if_icmp .ne 11, 3) := by decide +kernel
theorem dX12_nextToken_280 : decode cX12_nextToken 280 = .ok (.aload_n 0, 1) := by decide +kernel
theorem dX12_nextToken_281 : decode cX12_nextToken 281 = .ok (.bipush 30, 2) := by decide +kernel
theorem dX12_nextToken_283 : decode cX12_nextToken 283 = .ok (.iload_n 1, 1) := by decide +kernel
theorem dX12_nextToken_284 : decode cX12_nextToken 284 = .ok (.iadd, 1) := by decide +kernel
theorem dX12_nextToken_285 : decode cX12_nextToken 285 = .ok (.putfield 111, 3) := by decide +kernel
theorem dX12_nextToken_288 : decode cX12_nextToken 288 = .ok (.iinc 1 1, 3) := by decide +kernel
theorem dX12_nextToken_291 : decode cX12_nextToken 291 = .ok (.goto (-37), 3) := by decide +kernel
theorem dX12_nextToken_294 : decode cX12_nextToken 294 = .ok (.return_, 1) := by decide +kernel
def r_nextToken_8 (F : Nat) (z : Nat) : Nat → (Nat → Nat → Int32) → Option ((Nat → Nat → Int32))
  | 0, _ => none
  | k + 1, I => (r_see I z (I z 6)).bind (fun q3 => let u5 := q3; if u5 = 10 then (let I7 := uI I z 6 ((I z 6) + 1); r_nextToken_8 F z k I7) else ((r_see I z (I z 6)).bind (fun q9 => let u11 := q9; if u11 = 32 then (let I13 := uI I z 6 ((I z 6) + 1); r_nextToken_8 F z k I13) else (some I))))
def r_nextToken_254 (F : Nat) (z : Nat) : Nat → Int32 → (Nat → Nat → Int32) → Option (Int32 × (Nat → Nat → Int32))
  | 0, _, _ => none
  | k + 1, l1, I => if (js_length (sbs 3)) ≤ l1 then (some (l1, I)) else ((r_see I z (I z 6)).bind (fun q34 => let u36 := q34; (js_charAt (sbs 3) l1).bind (fun q37 => let u39 := q37; if u36 = u39 then (let I41 := uI I z 9 (30 + l1); r_nextToken_254 F z k (l1 + 1) I41) else (r_nextToken_254 F z k (l1 + 1) I))))
def r_nextToken_146 (F : Nat) (z : Nat) : Nat → (Nat → Nat → Int32) → Option ((Nat → Nat → Int32))
  | 0, _ => none
  | k + 1, I => (r_see I z (I z 7)).bind (fun q49 => let u51 := q49; if (r_isDigit u51) = 0 then (some I) else (if 3 ≤ ((I z 7) - (I z 6)) then (let I54 := uI I z 7 ((I z 7) + 1); r_nextToken_146 F z k I54) else ((r_see I z (I z 7)).bind (fun q56 => let u58 := q56; let I59 := uI I z 10 (((10 * (I z 10)) + u58) - 48); let I61 := uI I59 z 7 ((I59 z 7) + 1); r_nextToken_146 F z k I61))))
def r_nextToken_89 (F : Nat) (z : Nat) : Nat → (Nat → Nat → Int32) → Option ((Nat → Nat → Int32))
  | 0, _ => none
  | k + 1, I => (r_see I z (I z 7)).bind (fun q71 => let u73 := q71; if (r_isSmall u73) = 0 then (some I) else (let I75 := uI I z 7 ((I z 7) + 1); r_nextToken_89 F z k I75))
def r_nextToken (F : Nat) (I : Nat → Nat → Int32) (z : Nat) : Option ((Nat → Nat → Int32)) := let I1 := uI I z 6 (I z 7); (r_nextToken_8 F z F I1).bind (fun q15 => let I17 := q15; let I18 := uI I17 z 7 (I17 z 6); if (I18 z 6) < (I18 z 8) then ((r_see I18 z (I18 z 6)).bind (fun q21 => let u23 := q21; if (r_isSmall u23) = 0 then ((r_see I18 z (I18 z 6)).bind (fun q25 => let u27 := q25; if (r_isDigit u27) = 0 then (let I29 := uI I18 z 7 ((I18 z 7) + 1); let I31 := uI I29 z 9 25; (r_nextToken_254 F z F 0 I31).bind (fun q43 => let m45 := q43.1; let I46 := q43.2; some I46)) else (let I47 := uI I18 z 10 0; (r_nextToken_146 F z F I47).bind (fun q63 => let I65 := q63; if ((I65 z 7) - (I65 z 6)) ≤ 3 then (let I67 := uI I65 z 9 23; some I67) else (let I69 := uI I65 z 9 25; some I69))))) else ((r_nextToken_89 F z F I18).bind (fun q77 => let I79 := q77; (r_keyAt F I79 z).bind (fun q80 => let u82 := q80; let I83 := uI I79 z 9 u82; some I83))))) else (let I85 := uI I18 z 9 24; some I85))
theorem l_r_nextToken_8 {l : Launch} {D : va_G} {E : Nat → ClassId} {B : Nat → Prop} {n F : Nat} {Q : Option Value → HT → Prop} {T : Nat → Option (Nat × Nat)} {J : Nat → Nat → Int64} {P : Nat → Nat → Option Nat} {z : Nat}  (hs_z : isMd T P z)  (r : (Nat → Nat → Int32)) : ∀ (k : Nat) (I : (Nat → Nat → Int32)), r_nextToken_8 F z k I = some r → V l D E B yX12_nextToken cX12_nextToken 2 none 5 0 0 Q 0 0 (n, T, r, J, P) 47 [(0, some (.ref z))] [] → V l D E B yX12_nextToken cX12_nextToken 2 none 5 0 0 Q 0 0 (n, T, I, J, P) 8 [(0, some (.ref z))] [] := by
  intro k
  induction k with
  | zero =>
    intro I hf hk
    cases hf
  | succ k ih =>
    intro I hf hk
    unfold r_nextToken_8 at hf
    refine V.aload_n dX12_nextToken_8 rfl ?_
    refine V.aload_n dX12_nextToken_9 rfl ?_
    refine V.getf fl_X12_101 dX12_nextToken_10 (hs_z.1 0 (12, 0) rfl) (by decide) rfl ?_
    obtain ⟨u5, hk4, hf⟩ := bnd_some hf
    try dsimp only at hf
    refine V.inv cv_X12_107 (c_r_see hs_z hk4) dX12_nextToken_13 (hs_z.1 0 (12, 0) rfl) (by decide) rfl rfl rfl (Nat.le_of_ble_eq_true rfl) (by decide) (by decide) (Nat.le_refl _) (Nat.le_refl _) (fun _ _ hq => ?_)
    obtain ⟨rfl, rfl⟩ := hq
    refine V.bipush (v := 10) dX12_nextToken_16 (by decide) ?_
    refine V.icmp_eq 34 dX12_nextToken_18 (by decide) (fun c6 => ?_) (fun c6 => ?_)
    · rw [if_pos c6] at hf
      refine V.aload_n dX12_nextToken_34 rfl ?_
      refine V.dup dX12_nextToken_35 rfl ?_
      refine V.getf fl_X12_101 dX12_nextToken_36 (hs_z.1 0 (12, 0) rfl) (by decide) rfl ?_
      refine V.iconst (v := 1) dX12_nextToken_39 (by decide) ?_
      refine V.iadd dX12_nextToken_40 ?_
      refine V.putiE fl_X12_101 dX12_nextToken_41 (hs_z.1 0 (12, 0) rfl) (by decide) (fun h => by cases h) rfl rfl rfl (Nat.le_of_ble_eq_true rfl) (fun I7 e8 => ?_)
      rw [← e8] at hf
      try dsimp only at hf
      clear e8
      refine V.goto 8 dX12_nextToken_44 (by decide) ?_
      exact V.lo [(0, some (.ref z))] (by simp only [Subs]; repeat' first | exact trivial | constructor | rfl) (ih _ hf hk)
    · rw [if_neg c6] at hf
      refine V.aload_n dX12_nextToken_21 rfl ?_
      refine V.aload_n dX12_nextToken_22 rfl ?_
      refine V.getf fl_X12_101 dX12_nextToken_23 (hs_z.1 0 (12, 0) rfl) (by decide) rfl ?_
      obtain ⟨u11, hk10, hf⟩ := bnd_some hf
      try dsimp only at hf
      refine V.inv cv_X12_107 (c_r_see hs_z hk10) dX12_nextToken_26 (hs_z.1 0 (12, 0) rfl) (by decide) rfl rfl rfl (Nat.le_of_ble_eq_true rfl) (by decide) (by decide) (Nat.le_refl _) (Nat.le_refl _) (fun _ _ hq => ?_)
      obtain ⟨rfl, rfl⟩ := hq
      refine V.bipush (v := 32) dX12_nextToken_29 (by decide) ?_
      refine V.icmp_ne 47 dX12_nextToken_31 (by decide) (fun c12 => ?_) (fun c12 => ?_)
      · rw [if_neg c12] at hf
        obtain rfl := Option.some.inj hf
        exact V.lo [(0, some (.ref z))] (by simp only [Subs]; repeat' first | exact trivial | constructor | rfl) hk
      · rw [if_pos c12] at hf
        refine V.aload_n dX12_nextToken_34 rfl ?_
        refine V.dup dX12_nextToken_35 rfl ?_
        refine V.getf fl_X12_101 dX12_nextToken_36 (hs_z.1 0 (12, 0) rfl) (by decide) rfl ?_
        refine V.iconst (v := 1) dX12_nextToken_39 (by decide) ?_
        refine V.iadd dX12_nextToken_40 ?_
        refine V.putiE fl_X12_101 dX12_nextToken_41 (hs_z.1 0 (12, 0) rfl) (by decide) (fun h => by cases h) rfl rfl rfl (Nat.le_of_ble_eq_true rfl) (fun I13 e14 => ?_)
        rw [← e14] at hf
        try dsimp only at hf
        clear e14
        refine V.goto 8 dX12_nextToken_44 (by decide) ?_
        exact V.lo [(0, some (.ref z))] (by simp only [Subs]; repeat' first | exact trivial | constructor | rfl) (ih _ hf hk)
theorem l_r_nextToken_254 {l : Launch} {D : va_G} {E : Nat → ClassId} {B : Nat → Prop} {n F : Nat} {Q : Option Value → HT → Prop} {T : Nat → Option (Nat × Nat)} {J : Nat → Nat → Int64} {P : Nat → Nat → Option Nat} {z : Nat}  (hs_z : isMd T P z)  (r : Int32 × (Nat → Nat → Int32)) : ∀ (k : Nat) (l1 : Int32) (I : (Nat → Nat → Int32)), r_nextToken_254 F z k l1 I = some r → V l D E B yX12_nextToken cX12_nextToken 2 none 5 0 0 Q 0 0 (n, T, r.2, J, P) 294 [(0, some (.ref z)), (1, some (.int (r.1)))] [] → V l D E B yX12_nextToken cX12_nextToken 2 none 5 0 0 Q 0 0 (n, T, I, J, P) 254 [(0, some (.ref z)), (1, some (.int l1))] [] := by
  intro k
  induction k with
  | zero =>
    intro l1 I hf hk
    cases hf
  | succ k ih =>
    intro l1 I hf hk
    unfold r_nextToken_254 at hf
    refine V.iload_n dX12_nextToken_254 rfl ?_
    refine V.ldcS (sk := 3) ss3 dX12_nextToken_255 ?_
    refine V.invS ss3 cv_X12_91 (c_js_length ss3) dX12_nextToken_257 rfl rfl rfl (Nat.le_of_ble_eq_true rfl) (by decide) (by decide) (Nat.le_refl _) (Nat.le_refl _) (fun _ _ hq => ?_)
    obtain ⟨rfl, rfl⟩ := hq
    refine V.icmp_ge 294 dX12_nextToken_260 (by decide) (fun c33 => ?_) (fun c33 => ?_)
    · rw [if_pos c33] at hf
      obtain rfl := Option.some.inj hf
      exact V.lo [(0, some (.ref z)), (1, some (.int l1))] (by simp only [Subs]; repeat' first | exact trivial | constructor | rfl) hk
    · rw [if_neg c33] at hf
      refine V.aload_n dX12_nextToken_263 rfl ?_
      refine V.aload_n dX12_nextToken_264 rfl ?_
      refine V.getf fl_X12_101 dX12_nextToken_265 (hs_z.1 0 (12, 0) rfl) (by decide) rfl ?_
      obtain ⟨u36, hk35, hf⟩ := bnd_some hf
      try dsimp only at hf
      refine V.inv cv_X12_107 (c_r_see hs_z hk35) dX12_nextToken_268 (hs_z.1 0 (12, 0) rfl) (by decide) rfl rfl rfl (Nat.le_of_ble_eq_true rfl) (by decide) (by decide) (Nat.le_refl _) (Nat.le_refl _) (fun _ _ hq => ?_)
      obtain ⟨rfl, rfl⟩ := hq
      refine V.ldcS (sk := 3) ss3 dX12_nextToken_271 ?_
      refine V.iload_n dX12_nextToken_273 rfl ?_
      obtain ⟨u39, hk38, hf⟩ := bnd_some hf
      try dsimp only at hf
      refine V.invS ss3 cv_X12_97 (c_js_charAt ss3 hk38) dX12_nextToken_274 rfl rfl rfl (Nat.le_of_ble_eq_true rfl) (by decide) (by decide) (Nat.le_refl _) (Nat.le_refl _) (fun _ _ hq => ?_)
      obtain ⟨rfl, rfl⟩ := hq
      refine V.icmp_ne 288 dX12_nextToken_277 (by decide) (fun c40 => ?_) (fun c40 => ?_)
      · rw [if_neg c40] at hf
        refine V.iinc (v := (l1 + 1)) dX12_nextToken_288 rfl rfl (by first | exact rfl | exact trivial) ?_
        refine V.goto 254 dX12_nextToken_291 (by decide) ?_
        exact V.lo [(0, some (.ref z)), (1, some (.int (l1 + 1)))] (by simp only [Subs]; repeat' first | exact trivial | constructor | rfl) (ih _ _ hf hk)
      · rw [if_pos c40] at hf
        refine V.aload_n dX12_nextToken_280 rfl ?_
        refine V.bipush (v := 30) dX12_nextToken_281 (by decide) ?_
        refine V.iload_n dX12_nextToken_283 rfl ?_
        refine V.iadd dX12_nextToken_284 ?_
        refine V.putiE fl_X12_111 dX12_nextToken_285 (hs_z.1 0 (12, 0) rfl) (by decide) (fun h => by cases h) rfl rfl rfl (Nat.le_of_ble_eq_true rfl) (fun I41 e42 => ?_)
        rw [← e42] at hf
        try dsimp only at hf
        clear e42
        refine V.iinc (v := (l1 + 1)) dX12_nextToken_288 rfl rfl (by first | exact rfl | exact trivial) ?_
        refine V.goto 254 dX12_nextToken_291 (by decide) ?_
        exact V.lo [(0, some (.ref z)), (1, some (.int (l1 + 1)))] (by simp only [Subs]; repeat' first | exact trivial | constructor | rfl) (ih _ _ hf hk)
theorem l_r_nextToken_146 {l : Launch} {D : va_G} {E : Nat → ClassId} {B : Nat → Prop} {n F : Nat} {Q : Option Value → HT → Prop} {T : Nat → Option (Nat × Nat)} {J : Nat → Nat → Int64} {P : Nat → Nat → Option Nat} {z : Nat}  (hs_z : isMd T P z)  (r : (Nat → Nat → Int32)) : ∀ (k : Nat) (I : (Nat → Nat → Int32)), r_nextToken_146 F z k I = some r → V l D E B yX12_nextToken cX12_nextToken 2 none 5 0 0 Q 0 0 (n, T, r, J, P) 209 [(0, some (.ref z))] [] → V l D E B yX12_nextToken cX12_nextToken 2 none 5 0 0 Q 0 0 (n, T, I, J, P) 146 [(0, some (.ref z))] [] := by
  intro k
  induction k with
  | zero =>
    intro I hf hk
    cases hf
  | succ k ih =>
    intro I hf hk
    unfold r_nextToken_146 at hf
    refine V.aload_n dX12_nextToken_146 rfl ?_
    refine V.aload_n dX12_nextToken_147 rfl ?_
    refine V.getf fl_X12_104 dX12_nextToken_148 (hs_z.1 0 (12, 0) rfl) (by decide) rfl ?_
    obtain ⟨u51, hk50, hf⟩ := bnd_some hf
    try dsimp only at hf
    refine V.inv cv_X12_107 (c_r_see hs_z hk50) dX12_nextToken_151 (hs_z.1 0 (12, 0) rfl) (by decide) rfl rfl rfl (Nat.le_of_ble_eq_true rfl) (by decide) (by decide) (Nat.le_refl _) (Nat.le_refl _) (fun _ _ hq => ?_)
    obtain ⟨rfl, rfl⟩ := hq
    refine V.ins cs_X12_121 (c_r_isDigit) dX12_nextToken_154 rfl rfl (Nat.le_of_ble_eq_true rfl) (by decide) (by decide) (Nat.le_refl _) (Nat.le_refl _) (fun _ _ hq => ?_)
    obtain ⟨rfl, rfl⟩ := hq
    refine V.if_eq 209 dX12_nextToken_157 (by decide) (fun c52 => ?_) (fun c52 => ?_)
    · rw [if_pos c52] at hf
      obtain rfl := Option.some.inj hf
      exact V.lo [(0, some (.ref z))] (by simp only [Subs]; repeat' first | exact trivial | constructor | rfl) hk
    · rw [if_neg c52] at hf
      refine V.aload_n dX12_nextToken_160 rfl ?_
      refine V.getf fl_X12_104 dX12_nextToken_161 (hs_z.1 0 (12, 0) rfl) (by decide) rfl ?_
      refine V.aload_n dX12_nextToken_164 rfl ?_
      refine V.getf fl_X12_101 dX12_nextToken_165 (hs_z.1 0 (12, 0) rfl) (by decide) rfl ?_
      refine V.isub dX12_nextToken_168 ?_
      refine V.iconst (v := 3) dX12_nextToken_169 (by decide) ?_
      refine V.icmp_ge 196 dX12_nextToken_170 (by decide) (fun c53 => ?_) (fun c53 => ?_)
      · rw [if_pos c53] at hf
        refine V.aload_n dX12_nextToken_196 rfl ?_
        refine V.dup dX12_nextToken_197 rfl ?_
        refine V.getf fl_X12_104 dX12_nextToken_198 (hs_z.1 0 (12, 0) rfl) (by decide) rfl ?_
        refine V.iconst (v := 1) dX12_nextToken_201 (by decide) ?_
        refine V.iadd dX12_nextToken_202 ?_
        refine V.putiE fl_X12_104 dX12_nextToken_203 (hs_z.1 0 (12, 0) rfl) (by decide) (fun h => by cases h) rfl rfl rfl (Nat.le_of_ble_eq_true rfl) (fun I54 e55 => ?_)
        rw [← e55] at hf
        try dsimp only at hf
        clear e55
        refine V.goto 146 dX12_nextToken_206 (by decide) ?_
        exact V.lo [(0, some (.ref z))] (by simp only [Subs]; repeat' first | exact trivial | constructor | rfl) (ih _ hf hk)
      · rw [if_neg c53] at hf
        refine V.aload_n dX12_nextToken_173 rfl ?_
        refine V.bipush (v := 10) dX12_nextToken_174 (by decide) ?_
        refine V.aload_n dX12_nextToken_176 rfl ?_
        refine V.getf fl_X12_124 dX12_nextToken_177 (hs_z.1 0 (12, 0) rfl) (by decide) rfl ?_
        refine V.imul dX12_nextToken_180 ?_
        refine V.aload_n dX12_nextToken_181 rfl ?_
        refine V.aload_n dX12_nextToken_182 rfl ?_
        refine V.getf fl_X12_104 dX12_nextToken_183 (hs_z.1 0 (12, 0) rfl) (by decide) rfl ?_
        obtain ⟨u58, hk57, hf⟩ := bnd_some hf
        try dsimp only at hf
        refine V.inv cv_X12_107 (c_r_see hs_z hk57) dX12_nextToken_186 (hs_z.1 0 (12, 0) rfl) (by decide) rfl rfl rfl (Nat.le_of_ble_eq_true rfl) (by decide) (by decide) (Nat.le_refl _) (Nat.le_refl _) (fun _ _ hq => ?_)
        obtain ⟨rfl, rfl⟩ := hq
        refine V.iadd dX12_nextToken_189 ?_
        refine V.bipush (v := 48) dX12_nextToken_190 (by decide) ?_
        refine V.isub dX12_nextToken_192 ?_
        refine V.putiE fl_X12_124 dX12_nextToken_193 (hs_z.1 0 (12, 0) rfl) (by decide) (fun h => by cases h) rfl rfl rfl (Nat.le_of_ble_eq_true rfl) (fun I59 e60 => ?_)
        rw [← e60] at hf
        try dsimp only at hf
        clear e60
        refine V.aload_n dX12_nextToken_196 rfl ?_
        refine V.dup dX12_nextToken_197 rfl ?_
        refine V.getf fl_X12_104 dX12_nextToken_198 (hs_z.1 0 (12, 0) rfl) (by decide) rfl ?_
        refine V.iconst (v := 1) dX12_nextToken_201 (by decide) ?_
        refine V.iadd dX12_nextToken_202 ?_
        refine V.putiE fl_X12_104 dX12_nextToken_203 (hs_z.1 0 (12, 0) rfl) (by decide) (fun h => by cases h) rfl rfl rfl (Nat.le_of_ble_eq_true rfl) (fun I61 e62 => ?_)
        rw [← e62] at hf
        try dsimp only at hf
        clear e62
        refine V.goto 146 dX12_nextToken_206 (by decide) ?_
        exact V.lo [(0, some (.ref z))] (by simp only [Subs]; repeat' first | exact trivial | constructor | rfl) (ih _ hf hk)
theorem l_r_nextToken_89 {l : Launch} {D : va_G} {E : Nat → ClassId} {B : Nat → Prop} {n F : Nat} {Q : Option Value → HT → Prop} {T : Nat → Option (Nat × Nat)} {J : Nat → Nat → Int64} {P : Nat → Nat → Option Nat} {z : Nat}  (hs_z : isMd T P z)  (r : (Nat → Nat → Int32)) : ∀ (k : Nat) (I : (Nat → Nat → Int32)), r_nextToken_89 F z k I = some r → V l D E B yX12_nextToken cX12_nextToken 2 none 5 0 0 Q 0 0 (n, T, r, J, P) 116 [(0, some (.ref z))] [] → V l D E B yX12_nextToken cX12_nextToken 2 none 5 0 0 Q 0 0 (n, T, I, J, P) 89 [(0, some (.ref z))] [] := by
  intro k
  induction k with
  | zero =>
    intro I hf hk
    cases hf
  | succ k ih =>
    intro I hf hk
    unfold r_nextToken_89 at hf
    refine V.aload_n dX12_nextToken_89 rfl ?_
    refine V.aload_n dX12_nextToken_90 rfl ?_
    refine V.getf fl_X12_104 dX12_nextToken_91 (hs_z.1 0 (12, 0) rfl) (by decide) rfl ?_
    obtain ⟨u73, hk72, hf⟩ := bnd_some hf
    try dsimp only at hf
    refine V.inv cv_X12_107 (c_r_see hs_z hk72) dX12_nextToken_94 (hs_z.1 0 (12, 0) rfl) (by decide) rfl rfl rfl (Nat.le_of_ble_eq_true rfl) (by decide) (by decide) (Nat.le_refl _) (Nat.le_refl _) (fun _ _ hq => ?_)
    obtain ⟨rfl, rfl⟩ := hq
    refine V.ins cs_X12_114 (c_r_isSmall) dX12_nextToken_97 rfl rfl (Nat.le_of_ble_eq_true rfl) (by decide) (by decide) (Nat.le_refl _) (Nat.le_refl _) (fun _ _ hq => ?_)
    obtain ⟨rfl, rfl⟩ := hq
    refine V.if_eq 116 dX12_nextToken_100 (by decide) (fun c74 => ?_) (fun c74 => ?_)
    · rw [if_pos c74] at hf
      obtain rfl := Option.some.inj hf
      exact V.lo [(0, some (.ref z))] (by simp only [Subs]; repeat' first | exact trivial | constructor | rfl) hk
    · rw [if_neg c74] at hf
      refine V.aload_n dX12_nextToken_103 rfl ?_
      refine V.dup dX12_nextToken_104 rfl ?_
      refine V.getf fl_X12_104 dX12_nextToken_105 (hs_z.1 0 (12, 0) rfl) (by decide) rfl ?_
      refine V.iconst (v := 1) dX12_nextToken_108 (by decide) ?_
      refine V.iadd dX12_nextToken_109 ?_
      refine V.putiE fl_X12_104 dX12_nextToken_110 (hs_z.1 0 (12, 0) rfl) (by decide) (fun h => by cases h) rfl rfl rfl (Nat.le_of_ble_eq_true rfl) (fun I75 e76 => ?_)
      rw [← e76] at hf
      try dsimp only at hf
      clear e76
      refine V.goto 89 dX12_nextToken_113 (by decide) ?_
      exact V.lo [(0, some (.ref z))] (by simp only [Subs]; repeat' first | exact trivial | constructor | rfl) (ih _ hf hk)
theorem c_r_nextToken {l : Launch} {D : va_G} {E : Nat → ClassId} {B : Nat → Prop} {n F : Nat} {T : Nat → Option (Nat × Nat)} {I : Nat → Nat → Int32} {J : Nat → Nat → Int64} {P : Nat → Nat → Option Nat} {z : Nat}  {r : (Nat → Nat → Int32)} (hs_z : isMd T P z) (hf : r_nextToken F I z = some r) : Ct l D E B yX12_nextToken cX12_nextToken 2 none 5 0 0 [.ref z] (n, T, I, J, P) (Ret (none) (n, T, r, J, P)) := by
  unfold r_nextToken at hf
  refine Ct.ofV (by decide) (Nat.le_of_ble_eq_true rfl) ?_
  refine V.aload_n dX12_nextToken_0 rfl ?_
  refine V.aload_n dX12_nextToken_1 rfl ?_
  refine V.getf fl_X12_104 dX12_nextToken_2 (hs_z.1 0 (12, 0) rfl) (by decide) rfl ?_
  refine V.putiE fl_X12_101 dX12_nextToken_5 (hs_z.1 0 (12, 0) rfl) (by decide) (fun h => by cases h) rfl rfl rfl (Nat.le_of_ble_eq_true rfl) (fun I1 e2 => ?_)
  rw [← e2] at hf
  try dsimp only at hf
  clear e2
  obtain ⟨I17, hk16, hf⟩ := bnd_some hf
  try dsimp only at hf
  refine V.lo [(0, some (.ref z))] (by simp only [Subs]; repeat' first | exact trivial | constructor | rfl) (l_r_nextToken_8 hs_z _ F _ hk16 ?_)
  try dsimp only
  refine V.aload_n dX12_nextToken_47 rfl ?_
  refine V.aload_n dX12_nextToken_48 rfl ?_
  refine V.getf fl_X12_101 dX12_nextToken_49 (hs_z.1 0 (12, 0) rfl) (by decide) rfl ?_
  refine V.putiE fl_X12_104 dX12_nextToken_52 (hs_z.1 0 (12, 0) rfl) (by decide) (fun h => by cases h) rfl rfl rfl (Nat.le_of_ble_eq_true rfl) (fun I18 e19 => ?_)
  rw [← e19] at hf
  try dsimp only at hf
  clear e19
  refine V.aload_n dX12_nextToken_55 rfl ?_
  refine V.getf fl_X12_101 dX12_nextToken_56 (hs_z.1 0 (12, 0) rfl) (by decide) rfl ?_
  refine V.aload_n dX12_nextToken_59 rfl ?_
  refine V.getf fl_X12_86 dX12_nextToken_60 (hs_z.1 0 (12, 0) rfl) (by decide) rfl ?_
  refine V.icmp_lt 75 dX12_nextToken_63 (by decide) (fun c20 => ?_) (fun c20 => ?_)
  · rw [if_pos c20] at hf
    refine V.aload_n dX12_nextToken_75 rfl ?_
    refine V.aload_n dX12_nextToken_76 rfl ?_
    refine V.getf fl_X12_101 dX12_nextToken_77 (hs_z.1 0 (12, 0) rfl) (by decide) rfl ?_
    obtain ⟨u23, hk22, hf⟩ := bnd_some hf
    try dsimp only at hf
    refine V.inv cv_X12_107 (c_r_see hs_z hk22) dX12_nextToken_80 (hs_z.1 0 (12, 0) rfl) (by decide) rfl rfl rfl (Nat.le_of_ble_eq_true rfl) (by decide) (by decide) (Nat.le_refl _) (Nat.le_refl _) (fun _ _ hq => ?_)
    obtain ⟨rfl, rfl⟩ := hq
    refine V.ins cs_X12_114 (c_r_isSmall) dX12_nextToken_83 rfl rfl (Nat.le_of_ble_eq_true rfl) (by decide) (by decide) (Nat.le_refl _) (Nat.le_refl _) (fun _ _ hq => ?_)
    obtain ⟨rfl, rfl⟩ := hq
    refine V.if_eq 127 dX12_nextToken_86 (by decide) (fun c24 => ?_) (fun c24 => ?_)
    · rw [if_pos c24] at hf
      refine V.aload_n dX12_nextToken_127 rfl ?_
      refine V.aload_n dX12_nextToken_128 rfl ?_
      refine V.getf fl_X12_101 dX12_nextToken_129 (hs_z.1 0 (12, 0) rfl) (by decide) rfl ?_
      obtain ⟨u27, hk26, hf⟩ := bnd_some hf
      try dsimp only at hf
      refine V.inv cv_X12_107 (c_r_see hs_z hk26) dX12_nextToken_132 (hs_z.1 0 (12, 0) rfl) (by decide) rfl rfl rfl (Nat.le_of_ble_eq_true rfl) (by decide) (by decide) (Nat.le_refl _) (Nat.le_refl _) (fun _ _ hq => ?_)
      obtain ⟨rfl, rfl⟩ := hq
      refine V.ins cs_X12_121 (c_r_isDigit) dX12_nextToken_135 rfl rfl (Nat.le_of_ble_eq_true rfl) (by decide) (by decide) (Nat.le_refl _) (Nat.le_refl _) (fun _ _ hq => ?_)
      obtain ⟨rfl, rfl⟩ := hq
      refine V.if_eq 236 dX12_nextToken_138 (by decide) (fun c28 => ?_) (fun c28 => ?_)
      · rw [if_pos c28] at hf
        refine V.aload_n dX12_nextToken_236 rfl ?_
        refine V.dup dX12_nextToken_237 rfl ?_
        refine V.getf fl_X12_104 dX12_nextToken_238 (hs_z.1 0 (12, 0) rfl) (by decide) rfl ?_
        refine V.iconst (v := 1) dX12_nextToken_241 (by decide) ?_
        refine V.iadd dX12_nextToken_242 ?_
        refine V.putiE fl_X12_104 dX12_nextToken_243 (hs_z.1 0 (12, 0) rfl) (by decide) (fun h => by cases h) rfl rfl rfl (Nat.le_of_ble_eq_true rfl) (fun I29 e30 => ?_)
        rw [← e30] at hf
        try dsimp only at hf
        clear e30
        refine V.aload_n dX12_nextToken_246 rfl ?_
        refine V.bipush (v := 25) dX12_nextToken_247 (by decide) ?_
        refine V.putiE fl_X12_111 dX12_nextToken_249 (hs_z.1 0 (12, 0) rfl) (by decide) (fun h => by cases h) rfl rfl rfl (Nat.le_of_ble_eq_true rfl) (fun I31 e32 => ?_)
        rw [← e32] at hf
        try dsimp only at hf
        clear e32
        refine V.iconst (v := 0) dX12_nextToken_252 (by decide) ?_
        refine V.istore_n dX12_nextToken_253 rfl (by decide) (by first | exact rfl | exact trivial) ?_
        obtain ⟨⟨m45, I46⟩, hk44, hf⟩ := bnd_some hf
        try dsimp only at hf
        refine V.lo [(0, some (.ref z)), (1, some (.int 0))] (by simp only [Subs]; repeat' first | exact trivial | constructor | rfl) (l_r_nextToken_254 hs_z _ F _ _ hk44 ?_)
        try dsimp only
        obtain rfl := Option.some.inj hf
        exact V.vret dX12_nextToken_294 rfl (Nat.le_refl _) (Nat.le_refl _) ⟨rfl, rfl⟩
      · rw [if_neg c28] at hf
        refine V.aload_n dX12_nextToken_141 rfl ?_
        refine V.iconst (v := 0) dX12_nextToken_142 (by decide) ?_
        refine V.putiE fl_X12_124 dX12_nextToken_143 (hs_z.1 0 (12, 0) rfl) (by decide) (fun h => by cases h) rfl rfl rfl (Nat.le_of_ble_eq_true rfl) (fun I47 e48 => ?_)
        rw [← e48] at hf
        try dsimp only at hf
        clear e48
        obtain ⟨I65, hk64, hf⟩ := bnd_some hf
        try dsimp only at hf
        refine V.lo [(0, some (.ref z))] (by simp only [Subs]; repeat' first | exact trivial | constructor | rfl) (l_r_nextToken_146 hs_z _ F _ hk64 ?_)
        try dsimp only
        refine V.aload_n dX12_nextToken_209 rfl ?_
        refine V.aload_n dX12_nextToken_210 rfl ?_
        refine V.getf fl_X12_104 dX12_nextToken_211 (hs_z.1 0 (12, 0) rfl) (by decide) rfl ?_
        refine V.aload_n dX12_nextToken_214 rfl ?_
        refine V.getf fl_X12_101 dX12_nextToken_215 (hs_z.1 0 (12, 0) rfl) (by decide) rfl ?_
        refine V.isub dX12_nextToken_218 ?_
        refine V.iconst (v := 3) dX12_nextToken_219 (by decide) ?_
        refine V.icmp_le 228 dX12_nextToken_220 (by decide) (fun c66 => ?_) (fun c66 => ?_)
        · rw [if_pos c66] at hf
          refine V.bipush (v := 23) dX12_nextToken_228 (by decide) ?_
          refine V.putiE fl_X12_111 dX12_nextToken_230 (hs_z.1 0 (12, 0) rfl) (by decide) (fun h => by cases h) rfl rfl rfl (Nat.le_of_ble_eq_true rfl) (fun I67 e68 => ?_)
          rw [← e68] at hf
          try dsimp only at hf
          clear e68
          refine V.goto 294 dX12_nextToken_233 (by decide) ?_
          obtain rfl := Option.some.inj hf
          exact V.vret dX12_nextToken_294 rfl (Nat.le_refl _) (Nat.le_refl _) ⟨rfl, rfl⟩
        · rw [if_neg c66] at hf
          refine V.bipush (v := 25) dX12_nextToken_223 (by decide) ?_
          refine V.goto 230 dX12_nextToken_225 (by decide) ?_
          refine V.putiE fl_X12_111 dX12_nextToken_230 (hs_z.1 0 (12, 0) rfl) (by decide) (fun h => by cases h) rfl rfl rfl (Nat.le_of_ble_eq_true rfl) (fun I69 e70 => ?_)
          rw [← e70] at hf
          try dsimp only at hf
          clear e70
          refine V.goto 294 dX12_nextToken_233 (by decide) ?_
          obtain rfl := Option.some.inj hf
          exact V.vret dX12_nextToken_294 rfl (Nat.le_refl _) (Nat.le_refl _) ⟨rfl, rfl⟩
    · rw [if_neg c24] at hf
      obtain ⟨I79, hk78, hf⟩ := bnd_some hf
      try dsimp only at hf
      refine V.lo [(0, some (.ref z))] (by simp only [Subs]; repeat' first | exact trivial | constructor | rfl) (l_r_nextToken_89 hs_z _ F _ hk78 ?_)
      try dsimp only
      refine V.aload_n dX12_nextToken_116 rfl ?_
      refine V.aload_n dX12_nextToken_117 rfl ?_
      obtain ⟨u82, hk81, hf⟩ := bnd_some hf
      try dsimp only at hf
      refine V.inv cv_X12_118 (c_r_keyAt hs_z hk81) dX12_nextToken_118 (hs_z.1 0 (12, 0) rfl) (by decide) rfl rfl rfl (Nat.le_of_ble_eq_true rfl) (by decide) (by decide) (Nat.le_refl _) (Nat.le_refl _) (fun _ _ hq => ?_)
      obtain ⟨rfl, rfl⟩ := hq
      refine V.putiE fl_X12_111 dX12_nextToken_121 (hs_z.1 0 (12, 0) rfl) (by decide) (fun h => by cases h) rfl rfl rfl (Nat.le_of_ble_eq_true rfl) (fun I83 e84 => ?_)
      rw [← e84] at hf
      try dsimp only at hf
      clear e84
      refine V.goto 294 dX12_nextToken_124 (by decide) ?_
      obtain rfl := Option.some.inj hf
      exact V.vret dX12_nextToken_294 rfl (Nat.le_refl _) (Nat.le_refl _) ⟨rfl, rfl⟩
  · rw [if_neg c20] at hf
    refine V.aload_n dX12_nextToken_66 rfl ?_
    refine V.bipush (v := 24) dX12_nextToken_67 (by decide) ?_
    refine V.putiE fl_X12_111 dX12_nextToken_69 (hs_z.1 0 (12, 0) rfl) (by decide) (fun h => by cases h) rfl rfl rfl (Nat.le_of_ble_eq_true rfl) (fun I85 e86 => ?_)
    rw [← e86] at hf
    try dsimp only at hf
    clear e86
    refine V.goto 294 dX12_nextToken_72 (by decide) ?_
    obtain rfl := Option.some.inj hf
    exact V.vret dX12_nextToken_294 rfl (Nat.le_refl _) (Nat.le_refl _) ⟨rfl, rfl⟩
theorem dX12_eats_0 : decode cX12_eats 0 = .ok (.aload_n 0, 1) := by decide +kernel
theorem dX12_eats_1 : decode cX12_eats 1 = .ok (.iload_n 1, 1) := by decide +kernel
theorem dX12_eats_2 : decode cX12_eats 2 = .ok (.invokevirtual 135, 3) := by decide +kernel
theorem dX12_eats_5 : decode cX12_eats 5 = .ok (.ifCond .ne 5, 3) := by decide +kernel
theorem dX12_eats_8 : decode cX12_eats 8 = .ok (.iconst 0, 1) := by decide +kernel
theorem dX12_eats_9 : decode cX12_eats 9 = .ok (.ireturn, 1) := by decide +kernel
theorem dX12_eats_10 : decode cX12_eats 10 = .ok (.aload_n 0, 1) := by decide +kernel
theorem dX12_eats_11 : decode cX12_eats 11 = .ok (.invokevirtual 138, 3) := by decide +kernel
theorem dX12_eats_14 : decode cX12_eats 14 = .ok (.iconst 1, 1) := by decide +kernel
theorem dX12_eats_15 : decode cX12_eats 15 = .ok (.ireturn, 1) := by decide +kernel
def r_eats (F : Nat) (I : Nat → Nat → Int32) (z : Nat) (v1 : Int32) : Option (Int32 × (Nat → Nat → Int32)) := if (r_is I z v1) = 0 then (some (0, I)) else ((r_nextToken F I z).bind (fun q2 => let I4 := q2; some (1, I4)))
theorem c_r_eats {l : Launch} {D : va_G} {E : Nat → ClassId} {B : Nat → Prop} {n F : Nat} {T : Nat → Option (Nat × Nat)} {I : Nat → Nat → Int32} {J : Nat → Nat → Int64} {P : Nat → Nat → Option Nat} {z : Nat} {v1 : Int32} {r : Int32 × (Nat → Nat → Int32)} (hs_z : isMd T P z) (hf : r_eats F I z v1 = some r) : Ct l D E B yX12_eats cX12_eats 2 (some .boolean) 6 0 0 [.ref z, .int v1] (n, T, I, J, P) (Ret (some (.int r.1)) (n, T, r.2, J, P)) := by
  unfold r_eats at hf
  refine Ct.ofV (by decide) (Nat.le_of_ble_eq_true rfl) ?_
  refine V.aload_n dX12_eats_0 rfl ?_
  refine V.iload_n dX12_eats_1 rfl ?_
  refine V.inv cv_X12_135 (c_r_is hs_z) dX12_eats_2 (hs_z.1 0 (12, 0) rfl) (by decide) rfl rfl rfl (Nat.le_of_ble_eq_true rfl) (by decide) (by decide) (Nat.le_refl _) (Nat.le_refl _) (fun _ _ hq => ?_)
  obtain ⟨rfl, rfl⟩ := hq
  refine V.if_ne 10 dX12_eats_5 (by decide) (fun c1 => ?_) (fun c1 => ?_)
  · rw [if_neg c1] at hf
    refine V.aload_n dX12_eats_10 rfl ?_
    obtain ⟨I4, hk3, hf⟩ := bnd_some hf
    try dsimp only at hf
    refine V.inv cv_X12_138 (c_r_nextToken hs_z hk3) dX12_eats_11 (hs_z.1 0 (12, 0) rfl) (by decide) rfl rfl rfl (Nat.le_of_ble_eq_true rfl) (by decide) (by decide) (Nat.le_refl _) (Nat.le_refl _) (fun _ _ hq => ?_)
    obtain ⟨rfl, rfl⟩ := hq
    refine V.iconst (v := 1) dX12_eats_14 (by decide) ?_
    obtain rfl := Option.some.inj hf
    exact V.zret dX12_eats_15 rfl rfl (Nat.le_refl _) (Nat.le_refl _) ⟨rfl, rfl⟩
  · rw [if_pos c1] at hf
    refine V.iconst (v := 0) dX12_eats_8 (by decide) ?_
    obtain rfl := Option.some.inj hf
    exact V.zret dX12_eats_9 rfl rfl (Nat.le_refl _) (Nat.le_refl _) ⟨rfl, rfl⟩
theorem dX12_takes_0 : decode cX12_takes 0 = .ok (.aload_n 0, 1) := by decide +kernel
theorem dX12_takes_1 : decode cX12_takes 1 = .ok (.bipush 23, 2) := by decide +kernel
theorem dX12_takes_3 : decode cX12_takes 3 = .ok (.invokevirtual 135, 3) := by decide +kernel
theorem dX12_takes_6 : decode cX12_takes 6 = .ok (.ifCond .ne 11, 3) := by decide +kernel
theorem dX12_takes_9 : decode cX12_takes 9 = .ok (.aload_n 0, 1) := by decide +kernel
theorem dX12_takes_10 : decode cX12_takes 10 = .ok (.iconst 2, 1) := by decide +kernel
theorem dX12_takes_11 : decode cX12_takes 11 = .ok (.invokevirtual 141, 3) := by decide +kernel
theorem dX12_takes_14 : decode cX12_takes 14 = .ok (.goto 23, 3) := by decide +kernel
theorem dX12_takes_17 : decode cX12_takes 17 = .ok (.aload_n 0, 1) := by decide +kernel
theorem dX12_takes_18 : decode cX12_takes 18 = .ok (.getfield 124, 3) := by decide +kernel
theorem dX12_takes_21 : decode cX12_takes 21 = .ok (.i2l, 1) := by decide +kernel
theorem dX12_takes_22 : decode cX12_takes 22 = .ok (.iload_n 1, 1) := by decide +kernel
theorem dX12_takes_23 : decode cX12_takes 23 = .ok (.i2l, 1) := by decide +kernel
theorem dX12_takes_24 : decode cX12_takes 24 = .ok (.iload_n 2, 1) := by decide +kernel
theorem dX12_takes_25 : decode cX12_takes 25 = .ok (.i2l, 1) := by decide +kernel
theorem dX12_takes_26 : decode cX12_takes 26 = .ok (.invokestatic 145, 3) := by decide +kernel
theorem dX12_takes_29 : decode cX12_takes 29 = .ok (.ifCond .ne 8, 3) := by decide +kernel
theorem dX12_takes_32 : decode cX12_takes 32 = .ok (.aload_n 0, 1) := by decide +kernel
theorem dX12_takes_33 : decode cX12_takes 33 = .ok (.iconst 3, 1) := by decide +kernel
theorem dX12_takes_34 : decode cX12_takes 34 = .ok (.invokevirtual 141, 3) := by decide +kernel
theorem dX12_takes_37 : decode cX12_takes 37 = .ok (.aload_n 0, 1) := by decide +kernel
theorem dX12_takes_38 : decode cX12_takes 38 = .ok (.getfield 124, 3) := by decide +kernel
theorem dX12_takes_41 : decode cX12_takes 41 = .ok (.istore_n 3, 1) := by decide +kernel
theorem dX12_takes_42 : decode cX12_takes 42 = .ok (.aload_n 0, 1) := by decide +kernel
theorem dX12_takes_43 : decode cX12_takes 43 = .ok (.getfield 129, 3) := by decide +kernel
theorem dX12_takes_46 : decode cX12_takes 46 = .ok (.ifCond .ne 7, 3) := by decide +kernel
theorem dX12_takes_49 : decode cX12_takes 49 = .ok (.aload_n 0, 1) := by decide +kernel
theorem dX12_takes_50 : decode cX12_takes 50 = .ok (.invokevirtual 138, 3) := by decide +kernel
theorem dX12_takes_53 : decode cX12_takes 53 = .ok (.iload_n 3, 1) := by decide +kernel
theorem dX12_takes_54 : decode cX12_takes 54 = .ok (.ireturn, 1) := by decide +kernel
def r_takes (F : Nat) (I : Nat → Nat → Int32) (z : Nat) (v1 : Int32) (v2 : Int32) : Option (Int32 × (Nat → Nat → Int32)) := if (r_is I z 23) = 0 then ((r_fails I z 2).bind (fun q18 => let I20 := q18; let x21 := (I20 z 10); if (I20 z 11) = 0 then ((r_nextToken F I20 z).bind (fun q24 => let I26 := q24; some (x21, I26))) else (some (x21, I20)))) else (if (r_within (Int32.toInt64 (I z 10)) (Int32.toInt64 v1) (Int32.toInt64 v2)) = 0 then ((r_fails I z 3).bind (fun q9 => let I11 := q9; let x12 := (I11 z 10); if (I11 z 11) = 0 then ((r_nextToken F I11 z).bind (fun q15 => let I17 := q15; some (x12, I17))) else (some (x12, I11)))) else (let x3 := (I z 10); if (I z 11) = 0 then ((r_nextToken F I z).bind (fun q6 => let I8 := q6; some (x3, I8))) else (some (x3, I))))
theorem c_r_takes {l : Launch} {D : va_G} {E : Nat → ClassId} {B : Nat → Prop} {n F : Nat} {T : Nat → Option (Nat × Nat)} {I : Nat → Nat → Int32} {J : Nat → Nat → Int64} {P : Nat → Nat → Option Nat} {z : Nat} {v1 : Int32} {v2 : Int32} {r : Int32 × (Nat → Nat → Int32)} (hs_z : isMd T P z) (hf : r_takes F I z v1 v2 = some r) : Ct l D E B yX12_takes cX12_takes 4 (some .int) 6 0 0 [.ref z, .int v1, .int v2] (n, T, I, J, P) (Ret (some (.int r.1)) (n, T, r.2, J, P)) := by
  unfold r_takes at hf
  refine Ct.ofV (by decide) (Nat.le_of_ble_eq_true rfl) ?_
  refine V.aload_n dX12_takes_0 rfl ?_
  refine V.bipush (v := 23) dX12_takes_1 (by decide) ?_
  refine V.inv cv_X12_135 (c_r_is hs_z) dX12_takes_3 (hs_z.1 0 (12, 0) rfl) (by decide) rfl rfl rfl (Nat.le_of_ble_eq_true rfl) (by decide) (by decide) (Nat.le_refl _) (Nat.le_refl _) (fun _ _ hq => ?_)
  obtain ⟨rfl, rfl⟩ := hq
  refine V.if_ne 17 dX12_takes_6 (by decide) (fun c1 => ?_) (fun c1 => ?_)
  · rw [if_neg c1] at hf
    refine V.aload_n dX12_takes_17 rfl ?_
    refine V.getf fl_X12_124 dX12_takes_18 (hs_z.1 0 (12, 0) rfl) (by decide) rfl ?_
    refine V.i2l dX12_takes_21 ?_
    refine V.iload_n dX12_takes_22 rfl ?_
    refine V.i2l dX12_takes_23 ?_
    refine V.iload_n dX12_takes_24 rfl ?_
    refine V.i2l dX12_takes_25 ?_
    refine V.ins cs_X12_145 (c_r_within) dX12_takes_26 rfl rfl (Nat.le_of_ble_eq_true rfl) (by decide) (by decide) (Nat.le_refl _) (Nat.le_refl _) (fun _ _ hq => ?_)
    obtain ⟨rfl, rfl⟩ := hq
    refine V.if_ne 37 dX12_takes_29 (by decide) (fun c2 => ?_) (fun c2 => ?_)
    · rw [if_neg c2] at hf
      refine V.aload_n dX12_takes_37 rfl ?_
      refine V.getf fl_X12_124 dX12_takes_38 (hs_z.1 0 (12, 0) rfl) (by decide) rfl ?_
      refine V.istore_n dX12_takes_41 rfl (by decide) (by first | exact rfl | exact trivial) ?_
      obtain ⟨x3, e4⟩ : ∃ zz_, zz_ = (I z 10) := ⟨_, rfl⟩
      rw [← e4] at hf ⊢
      try dsimp only at hf
      refine V.aload_n dX12_takes_42 rfl ?_
      refine V.getf fl_X12_129 dX12_takes_43 (hs_z.1 0 (12, 0) rfl) (by decide) rfl ?_
      refine V.if_ne 53 dX12_takes_46 (by decide) (fun c5 => ?_) (fun c5 => ?_)
      · rw [if_neg c5] at hf
        refine V.iload_n dX12_takes_53 rfl ?_
        obtain rfl := Option.some.inj hf
        exact V.iret dX12_takes_54 rfl (Nat.le_refl _) (Nat.le_refl _) ⟨rfl, rfl⟩
      · rw [if_pos c5] at hf
        refine V.aload_n dX12_takes_49 rfl ?_
        obtain ⟨I8, hk7, hf⟩ := bnd_some hf
        try dsimp only at hf
        refine V.inv cv_X12_138 (c_r_nextToken hs_z hk7) dX12_takes_50 (hs_z.1 0 (12, 0) rfl) (by decide) rfl rfl rfl (Nat.le_of_ble_eq_true rfl) (by decide) (by decide) (Nat.le_refl _) (Nat.le_refl _) (fun _ _ hq => ?_)
        obtain ⟨rfl, rfl⟩ := hq
        refine V.iload_n dX12_takes_53 rfl ?_
        obtain rfl := Option.some.inj hf
        exact V.iret dX12_takes_54 rfl (Nat.le_refl _) (Nat.le_refl _) ⟨rfl, rfl⟩
    · rw [if_pos c2] at hf
      refine V.aload_n dX12_takes_32 rfl ?_
      refine V.iconst (v := 3) dX12_takes_33 (by decide) ?_
      obtain ⟨I11, hk10, hf⟩ := bnd_some hf
      try dsimp only at hf
      refine V.inv cv_X12_141 (c_r_fails hs_z hk10) dX12_takes_34 (hs_z.1 0 (12, 0) rfl) (by decide) rfl rfl rfl (Nat.le_of_ble_eq_true rfl) (by decide) (by decide) (Nat.le_refl _) (Nat.le_refl _) (fun _ _ hq => ?_)
      obtain ⟨rfl, rfl⟩ := hq
      refine V.aload_n dX12_takes_37 rfl ?_
      refine V.getf fl_X12_124 dX12_takes_38 (hs_z.1 0 (12, 0) rfl) (by decide) rfl ?_
      refine V.istore_n dX12_takes_41 rfl (by decide) (by first | exact rfl | exact trivial) ?_
      obtain ⟨x12, e13⟩ : ∃ zz_, zz_ = (I11 z 10) := ⟨_, rfl⟩
      rw [← e13] at hf ⊢
      try dsimp only at hf
      refine V.aload_n dX12_takes_42 rfl ?_
      refine V.getf fl_X12_129 dX12_takes_43 (hs_z.1 0 (12, 0) rfl) (by decide) rfl ?_
      refine V.if_ne 53 dX12_takes_46 (by decide) (fun c14 => ?_) (fun c14 => ?_)
      · rw [if_neg c14] at hf
        refine V.iload_n dX12_takes_53 rfl ?_
        obtain rfl := Option.some.inj hf
        exact V.iret dX12_takes_54 rfl (Nat.le_refl _) (Nat.le_refl _) ⟨rfl, rfl⟩
      · rw [if_pos c14] at hf
        refine V.aload_n dX12_takes_49 rfl ?_
        obtain ⟨I17, hk16, hf⟩ := bnd_some hf
        try dsimp only at hf
        refine V.inv cv_X12_138 (c_r_nextToken hs_z hk16) dX12_takes_50 (hs_z.1 0 (12, 0) rfl) (by decide) rfl rfl rfl (Nat.le_of_ble_eq_true rfl) (by decide) (by decide) (Nat.le_refl _) (Nat.le_refl _) (fun _ _ hq => ?_)
        obtain ⟨rfl, rfl⟩ := hq
        refine V.iload_n dX12_takes_53 rfl ?_
        obtain rfl := Option.some.inj hf
        exact V.iret dX12_takes_54 rfl (Nat.le_refl _) (Nat.le_refl _) ⟨rfl, rfl⟩
  · rw [if_pos c1] at hf
    refine V.aload_n dX12_takes_9 rfl ?_
    refine V.iconst (v := 2) dX12_takes_10 (by decide) ?_
    obtain ⟨I20, hk19, hf⟩ := bnd_some hf
    try dsimp only at hf
    refine V.inv cv_X12_141 (c_r_fails hs_z hk19) dX12_takes_11 (hs_z.1 0 (12, 0) rfl) (by decide) rfl rfl rfl (Nat.le_of_ble_eq_true rfl) (by decide) (by decide) (Nat.le_refl _) (Nat.le_refl _) (fun _ _ hq => ?_)
    obtain ⟨rfl, rfl⟩ := hq
    refine V.goto 37 dX12_takes_14 (by decide) ?_
    refine V.aload_n dX12_takes_37 rfl ?_
    refine V.getf fl_X12_124 dX12_takes_38 (hs_z.1 0 (12, 0) rfl) (by decide) rfl ?_
    refine V.istore_n dX12_takes_41 rfl (by decide) (by first | exact rfl | exact trivial) ?_
    obtain ⟨x21, e22⟩ : ∃ zz_, zz_ = (I20 z 10) := ⟨_, rfl⟩
    rw [← e22] at hf ⊢
    try dsimp only at hf
    refine V.aload_n dX12_takes_42 rfl ?_
    refine V.getf fl_X12_129 dX12_takes_43 (hs_z.1 0 (12, 0) rfl) (by decide) rfl ?_
    refine V.if_ne 53 dX12_takes_46 (by decide) (fun c23 => ?_) (fun c23 => ?_)
    · rw [if_neg c23] at hf
      refine V.iload_n dX12_takes_53 rfl ?_
      obtain rfl := Option.some.inj hf
      exact V.iret dX12_takes_54 rfl (Nat.le_refl _) (Nat.le_refl _) ⟨rfl, rfl⟩
    · rw [if_pos c23] at hf
      refine V.aload_n dX12_takes_49 rfl ?_
      obtain ⟨I26, hk25, hf⟩ := bnd_some hf
      try dsimp only at hf
      refine V.inv cv_X12_138 (c_r_nextToken hs_z hk25) dX12_takes_50 (hs_z.1 0 (12, 0) rfl) (by decide) rfl rfl rfl (Nat.le_of_ble_eq_true rfl) (by decide) (by decide) (Nat.le_refl _) (Nat.le_refl _) (fun _ _ hq => ?_)
      obtain ⟨rfl, rfl⟩ := hq
      refine V.iload_n dX12_takes_53 rfl ?_
      obtain rfl := Option.some.inj hf
      exact V.iret dX12_takes_54 rfl (Nat.le_refl _) (Nat.le_refl _) ⟨rfl, rfl⟩
theorem dX12_goesIn_0 : decode cX12_goesIn 0 = .ok (.iload_n 1, 1) := by decide +kernel
theorem dX12_goesIn_1 : decode cX12_goesIn 1 = .ok (.bipush 6, 2) := by decide +kernel
theorem dX12_goesIn_3 : decode cX12_goesIn 3 = .ok (.if_icmp .ne 8, 3) := by decide +kernel
theorem dX12_goesIn_6 : decode cX12_goesIn 6 = .ok (.aload_n 0, 1) := by decide +kernel
theorem dX12_goesIn_7 : decode cX12_goesIn 7 = .ok (.iconst 4, 1) := by decide +kernel
theorem dX12_goesIn_8 : decode cX12_goesIn 8 = .ok (.invokevirtual 141, 3) := by decide +kernel
theorem dX12_goesIn_11 : decode cX12_goesIn 11 = .ok (.aload_n 0, 1) := by decide +kernel
theorem dX12_goesIn_12 : decode cX12_goesIn 12 = .ok (.getfield 129, 3) := by decide +kernel
theorem dX12_goesIn_15 : decode cX12_goesIn 15 = .ok (.ifCond .ne 7, 3) := by decide +kernel
theorem dX12_goesIn_18 : decode cX12_goesIn 18 = .ok (.aload_n 0, 1) := by decide +kernel
theorem dX12_goesIn_19 : decode cX12_goesIn 19 = .ok (.invokevirtual 138, 3) := by decide +kernel
theorem dX12_goesIn_22 : decode cX12_goesIn 22 = .ok (.aload_n 0, 1) := by decide +kernel
theorem dX12_goesIn_23 : decode cX12_goesIn 23 = .ok (.getfield 129, 3) := by decide +kernel
theorem dX12_goesIn_26 : decode cX12_goesIn 26 = .ok (.ifCond .ne 7, 3) := by decide +kernel
theorem dX12_goesIn_29 : decode cX12_goesIn 29 = .ok (.iconst 1, 1) := by decide +kernel
theorem dX12_goesIn_30 : decode cX12_goesIn 30 = .ok (.goto 4, 3) := by decide +kernel
theorem dX12_goesIn_33 : decode cX12_goesIn 33 = .ok (.iconst 0, 1) := by decide +kernel
theorem dX12_goesIn_34 : decode cX12_goesIn 34 = .ok (.ireturn, 1) := by decide +kernel
def r_goesIn (F : Nat) (I : Nat → Nat → Int32) (z : Nat) (v1 : Int32) : Option (Int32 × (Nat → Nat → Int32)) := if v1 = 6 then ((r_fails I z 4).bind (fun q8 => let I10 := q8; if (I10 z 11) = 0 then ((r_nextToken F I10 z).bind (fun q13 => let I15 := q13; if (I15 z 11) = 0 then (some (1, I15)) else (some (0, I15)))) else (if (I10 z 11) = 0 then (some (1, I10)) else (some (0, I10))))) else (if (I z 11) = 0 then ((r_nextToken F I z).bind (fun q4 => let I6 := q4; if (I6 z 11) = 0 then (some (1, I6)) else (some (0, I6)))) else (if (I z 11) = 0 then (some (1, I)) else (some (0, I))))
theorem c_r_goesIn {l : Launch} {D : va_G} {E : Nat → ClassId} {B : Nat → Prop} {n F : Nat} {T : Nat → Option (Nat × Nat)} {I : Nat → Nat → Int32} {J : Nat → Nat → Int64} {P : Nat → Nat → Option Nat} {z : Nat} {v1 : Int32} {r : Int32 × (Nat → Nat → Int32)} (hs_z : isMd T P z) (hf : r_goesIn F I z v1 = some r) : Ct l D E B yX12_goesIn cX12_goesIn 2 (some .boolean) 6 0 0 [.ref z, .int v1] (n, T, I, J, P) (Ret (some (.int r.1)) (n, T, r.2, J, P)) := by
  unfold r_goesIn at hf
  refine Ct.ofV (by decide) (Nat.le_of_ble_eq_true rfl) ?_
  refine V.iload_n dX12_goesIn_0 rfl ?_
  refine V.bipush (v := 6) dX12_goesIn_1 (by decide) ?_
  refine V.icmp_ne 11 dX12_goesIn_3 (by decide) (fun c1 => ?_) (fun c1 => ?_)
  · rw [if_neg c1] at hf
    refine V.aload_n dX12_goesIn_11 rfl ?_
    refine V.getf fl_X12_129 dX12_goesIn_12 (hs_z.1 0 (12, 0) rfl) (by decide) rfl ?_
    refine V.if_ne 22 dX12_goesIn_15 (by decide) (fun c2 => ?_) (fun c2 => ?_)
    · rw [if_neg c2] at hf
      refine V.aload_n dX12_goesIn_22 rfl ?_
      refine V.getf fl_X12_129 dX12_goesIn_23 (hs_z.1 0 (12, 0) rfl) (by decide) rfl ?_
      refine V.if_ne 33 dX12_goesIn_26 (by decide) (fun c3 => ?_) (fun c3 => ?_)
      · rw [if_neg c3] at hf
        refine V.iconst (v := 0) dX12_goesIn_33 (by decide) ?_
        obtain rfl := Option.some.inj hf
        exact V.zret dX12_goesIn_34 rfl rfl (Nat.le_refl _) (Nat.le_refl _) ⟨rfl, rfl⟩
      · rw [if_pos c3] at hf
        refine V.iconst (v := 1) dX12_goesIn_29 (by decide) ?_
        refine V.goto 34 dX12_goesIn_30 (by decide) ?_
        obtain rfl := Option.some.inj hf
        exact V.zret dX12_goesIn_34 rfl rfl (Nat.le_refl _) (Nat.le_refl _) ⟨rfl, rfl⟩
    · rw [if_pos c2] at hf
      refine V.aload_n dX12_goesIn_18 rfl ?_
      obtain ⟨I6, hk5, hf⟩ := bnd_some hf
      try dsimp only at hf
      refine V.inv cv_X12_138 (c_r_nextToken hs_z hk5) dX12_goesIn_19 (hs_z.1 0 (12, 0) rfl) (by decide) rfl rfl rfl (Nat.le_of_ble_eq_true rfl) (by decide) (by decide) (Nat.le_refl _) (Nat.le_refl _) (fun _ _ hq => ?_)
      obtain ⟨rfl, rfl⟩ := hq
      refine V.aload_n dX12_goesIn_22 rfl ?_
      refine V.getf fl_X12_129 dX12_goesIn_23 (hs_z.1 0 (12, 0) rfl) (by decide) rfl ?_
      refine V.if_ne 33 dX12_goesIn_26 (by decide) (fun c7 => ?_) (fun c7 => ?_)
      · rw [if_neg c7] at hf
        refine V.iconst (v := 0) dX12_goesIn_33 (by decide) ?_
        obtain rfl := Option.some.inj hf
        exact V.zret dX12_goesIn_34 rfl rfl (Nat.le_refl _) (Nat.le_refl _) ⟨rfl, rfl⟩
      · rw [if_pos c7] at hf
        refine V.iconst (v := 1) dX12_goesIn_29 (by decide) ?_
        refine V.goto 34 dX12_goesIn_30 (by decide) ?_
        obtain rfl := Option.some.inj hf
        exact V.zret dX12_goesIn_34 rfl rfl (Nat.le_refl _) (Nat.le_refl _) ⟨rfl, rfl⟩
  · rw [if_pos c1] at hf
    refine V.aload_n dX12_goesIn_6 rfl ?_
    refine V.iconst (v := 4) dX12_goesIn_7 (by decide) ?_
    obtain ⟨I10, hk9, hf⟩ := bnd_some hf
    try dsimp only at hf
    refine V.inv cv_X12_141 (c_r_fails hs_z hk9) dX12_goesIn_8 (hs_z.1 0 (12, 0) rfl) (by decide) rfl rfl rfl (Nat.le_of_ble_eq_true rfl) (by decide) (by decide) (Nat.le_refl _) (Nat.le_refl _) (fun _ _ hq => ?_)
    obtain ⟨rfl, rfl⟩ := hq
    refine V.aload_n dX12_goesIn_11 rfl ?_
    refine V.getf fl_X12_129 dX12_goesIn_12 (hs_z.1 0 (12, 0) rfl) (by decide) rfl ?_
    refine V.if_ne 22 dX12_goesIn_15 (by decide) (fun c11 => ?_) (fun c11 => ?_)
    · rw [if_neg c11] at hf
      refine V.aload_n dX12_goesIn_22 rfl ?_
      refine V.getf fl_X12_129 dX12_goesIn_23 (hs_z.1 0 (12, 0) rfl) (by decide) rfl ?_
      refine V.if_ne 33 dX12_goesIn_26 (by decide) (fun c12 => ?_) (fun c12 => ?_)
      · rw [if_neg c12] at hf
        refine V.iconst (v := 0) dX12_goesIn_33 (by decide) ?_
        obtain rfl := Option.some.inj hf
        exact V.zret dX12_goesIn_34 rfl rfl (Nat.le_refl _) (Nat.le_refl _) ⟨rfl, rfl⟩
      · rw [if_pos c12] at hf
        refine V.iconst (v := 1) dX12_goesIn_29 (by decide) ?_
        refine V.goto 34 dX12_goesIn_30 (by decide) ?_
        obtain rfl := Option.some.inj hf
        exact V.zret dX12_goesIn_34 rfl rfl (Nat.le_refl _) (Nat.le_refl _) ⟨rfl, rfl⟩
    · rw [if_pos c11] at hf
      refine V.aload_n dX12_goesIn_18 rfl ?_
      obtain ⟨I15, hk14, hf⟩ := bnd_some hf
      try dsimp only at hf
      refine V.inv cv_X12_138 (c_r_nextToken hs_z hk14) dX12_goesIn_19 (hs_z.1 0 (12, 0) rfl) (by decide) rfl rfl rfl (Nat.le_of_ble_eq_true rfl) (by decide) (by decide) (Nat.le_refl _) (Nat.le_refl _) (fun _ _ hq => ?_)
      obtain ⟨rfl, rfl⟩ := hq
      refine V.aload_n dX12_goesIn_22 rfl ?_
      refine V.getf fl_X12_129 dX12_goesIn_23 (hs_z.1 0 (12, 0) rfl) (by decide) rfl ?_
      refine V.if_ne 33 dX12_goesIn_26 (by decide) (fun c16 => ?_) (fun c16 => ?_)
      · rw [if_neg c16] at hf
        refine V.iconst (v := 0) dX12_goesIn_33 (by decide) ?_
        obtain rfl := Option.some.inj hf
        exact V.zret dX12_goesIn_34 rfl rfl (Nat.le_refl _) (Nat.le_refl _) ⟨rfl, rfl⟩
      · rw [if_pos c16] at hf
        refine V.iconst (v := 1) dX12_goesIn_29 (by decide) ?_
        refine V.goto 34 dX12_goesIn_30 (by decide) ?_
        obtain rfl := Option.some.inj hf
        exact V.zret dX12_goesIn_34 rfl rfl (Nat.le_refl _) (Nat.le_refl _) ⟨rfl, rfl⟩
theorem dX7_isLetter_0 : decode cX7_isLetter 0 = .ok (.iload_n 0, 1) := by decide +kernel
theorem dX7_isLetter_1 : decode cX7_isLetter 1 = .ok (.bipush 97, 2) := by decide +kernel
theorem dX7_isLetter_3 : decode cX7_isLetter 3 = .ok (.if_icmp .lt 13, 3) := by decide +kernel
theorem dX7_isLetter_6 : decode cX7_isLetter 6 = .ok (.iload_n 0, 1) := by decide +kernel
theorem dX7_isLetter_7 : decode cX7_isLetter 7 = .ok (.bipush 122, 2) := by decide +kernel
theorem dX7_isLetter_9 : decode cX7_isLetter 9 = .ok (.if_icmp .gt 7, 3) := by decide +kernel
theorem dX7_isLetter_12 : decode cX7_isLetter 12 = .ok (.iconst 1, 1) := by decide +kernel
theorem dX7_isLetter_13 : decode cX7_isLetter 13 = .ok (.goto 4, 3) := by decide +kernel
theorem dX7_isLetter_16 : decode cX7_isLetter 16 = .ok (.iconst 0, 1) := by decide +kernel
theorem dX7_isLetter_17 : decode cX7_isLetter 17 = .ok (.ireturn, 1) := by decide +kernel
def rd_isLetter (v0 : Int32) : Int32 := if v0 < 97 then (0) else (if 122 < v0 then (0) else (1))
theorem c_rd_isLetter {l : Launch} {D : va_G} {E : Nat → ClassId} {B : Nat → Prop} {n : Nat} {T : Nat → Option (Nat × Nat)} {I : Nat → Nat → Int32} {J : Nat → Nat → Int64} {P : Nat → Nat → Option Nat}  {v0 : Int32}  : Ct l D E B yX7_isLetter cX7_isLetter 1 (some .boolean) 0 0 0 [.int v0] (n, T, I, J, P) (Ret (some (.int (rd_isLetter v0))) (n, T, I, J, P)) := by
  obtain ⟨r, hf⟩ : ∃ r, rd_isLetter v0 = r := ⟨_, rfl⟩
  rw [hf]
  unfold rd_isLetter at hf
  refine Ct.ofV (by decide) (Nat.le_of_ble_eq_true rfl) ?_
  refine V.iload_n dX7_isLetter_0 rfl ?_
  refine V.bipush (v := 97) dX7_isLetter_1 (by decide) ?_
  refine V.icmp_lt 16 dX7_isLetter_3 (by decide) (fun c1 => ?_) (fun c1 => ?_)
  · rw [if_pos c1] at hf
    refine V.iconst (v := 0) dX7_isLetter_16 (by decide) ?_
    subst hf
    exact V.zret dX7_isLetter_17 rfl rfl (Nat.le_refl _) (Nat.le_refl _) ⟨rfl, rfl⟩
  · rw [if_neg c1] at hf
    refine V.iload_n dX7_isLetter_6 rfl ?_
    refine V.bipush (v := 122) dX7_isLetter_7 (by decide) ?_
    refine V.icmp_gt 16 dX7_isLetter_9 (by decide) (fun c2 => ?_) (fun c2 => ?_)
    · rw [if_pos c2] at hf
      refine V.iconst (v := 0) dX7_isLetter_16 (by decide) ?_
      subst hf
      exact V.zret dX7_isLetter_17 rfl rfl (Nat.le_refl _) (Nat.le_refl _) ⟨rfl, rfl⟩
    · rw [if_neg c2] at hf
      refine V.iconst (v := 1) dX7_isLetter_12 (by decide) ?_
      refine V.goto 17 dX7_isLetter_13 (by decide) ?_
      subst hf
      exact V.zret dX7_isLetter_17 rfl rfl (Nat.le_refl _) (Nat.le_refl _) ⟨rfl, rfl⟩
theorem dX7_isDigit_0 : decode cX7_isDigit 0 = .ok (.iload_n 0, 1) := by decide +kernel
theorem dX7_isDigit_1 : decode cX7_isDigit 1 = .ok (.bipush 48, 2) := by decide +kernel
theorem dX7_isDigit_3 : decode cX7_isDigit 3 = .ok (.if_icmp .lt 13, 3) := by decide +kernel
theorem dX7_isDigit_6 : decode cX7_isDigit 6 = .ok (.iload_n 0, 1) := by decide +kernel
theorem dX7_isDigit_7 : decode cX7_isDigit 7 = .ok (.bipush 57, 2) := by decide +kernel
theorem dX7_isDigit_9 : decode cX7_isDigit 9 = .ok (.if_icmp .gt 7, 3) := by decide +kernel
theorem dX7_isDigit_12 : decode cX7_isDigit 12 = .ok (.iconst 1, 1) := by decide +kernel
theorem dX7_isDigit_13 : decode cX7_isDigit 13 = .ok (.goto 4, 3) := by decide +kernel
theorem dX7_isDigit_16 : decode cX7_isDigit 16 = .ok (.iconst 0, 1) := by decide +kernel
theorem dX7_isDigit_17 : decode cX7_isDigit 17 = .ok (.ireturn, 1) := by decide +kernel
def rd_isDigit (v0 : Int32) : Int32 := if v0 < 48 then (0) else (if 57 < v0 then (0) else (1))
theorem c_rd_isDigit {l : Launch} {D : va_G} {E : Nat → ClassId} {B : Nat → Prop} {n : Nat} {T : Nat → Option (Nat × Nat)} {I : Nat → Nat → Int32} {J : Nat → Nat → Int64} {P : Nat → Nat → Option Nat}  {v0 : Int32}  : Ct l D E B yX7_isDigit cX7_isDigit 1 (some .boolean) 0 0 0 [.int v0] (n, T, I, J, P) (Ret (some (.int (rd_isDigit v0))) (n, T, I, J, P)) := by
  obtain ⟨r, hf⟩ : ∃ r, rd_isDigit v0 = r := ⟨_, rfl⟩
  rw [hf]
  unfold rd_isDigit at hf
  refine Ct.ofV (by decide) (Nat.le_of_ble_eq_true rfl) ?_
  refine V.iload_n dX7_isDigit_0 rfl ?_
  refine V.bipush (v := 48) dX7_isDigit_1 (by decide) ?_
  refine V.icmp_lt 16 dX7_isDigit_3 (by decide) (fun c1 => ?_) (fun c1 => ?_)
  · rw [if_pos c1] at hf
    refine V.iconst (v := 0) dX7_isDigit_16 (by decide) ?_
    subst hf
    exact V.zret dX7_isDigit_17 rfl rfl (Nat.le_refl _) (Nat.le_refl _) ⟨rfl, rfl⟩
  · rw [if_neg c1] at hf
    refine V.iload_n dX7_isDigit_6 rfl ?_
    refine V.bipush (v := 57) dX7_isDigit_7 (by decide) ?_
    refine V.icmp_gt 16 dX7_isDigit_9 (by decide) (fun c2 => ?_) (fun c2 => ?_)
    · rw [if_pos c2] at hf
      refine V.iconst (v := 0) dX7_isDigit_16 (by decide) ?_
      subst hf
      exact V.zret dX7_isDigit_17 rfl rfl (Nat.le_refl _) (Nat.le_refl _) ⟨rfl, rfl⟩
    · rw [if_neg c2] at hf
      refine V.iconst (v := 1) dX7_isDigit_12 (by decide) ?_
      refine V.goto 17 dX7_isDigit_13 (by decide) ?_
      subst hf
      exact V.zret dX7_isDigit_17 rfl rfl (Nat.le_refl _) (Nat.le_refl _) ⟨rfl, rfl⟩
theorem dX7_kindOfWord_0 : decode cX7_kindOfWord 0 = .ok (.iconst 0, 1) := by decide +kernel
theorem dX7_kindOfWord_1 : decode cX7_kindOfWord 1 = .ok (.istore_n 2, 1) := by decide +kernel
theorem dX7_kindOfWord_2 : decode cX7_kindOfWord 2 = .ok (.iconst 0, 1) := by decide +kernel
theorem dX7_kindOfWord_3 : decode cX7_kindOfWord 3 = .ok (.istore_n 3, 1) := by decide +kernel
theorem dX7_kindOfWord_4 : decode cX7_kindOfWord 4 = .ok (.iconst 0, 1) := by decide +kernel
theorem dX7_kindOfWord_5 : decode cX7_kindOfWord 5 = .ok (.istore 4, 2) := by decide +kernel
theorem dX7_kindOfWord_7 : decode cX7_kindOfWord 7 = .ok (.iload 4, 2) := by decide +kernel
theorem dX7_kindOfWord_9 : decode cX7_kindOfWord 9 = .ok (.ldc 95, 2) := by decide +kernel
theorem dX7_kindOfWord_11 : decode cX7_kindOfWord 11 = .ok (.invokevirtual 97, 3) := by decide +kernel
theorem dX7_kindOfWord_14 : decode cX7_kindOfWord 14 = .ok (.if_icmp .ge 89, 3) := by decide +kernel
theorem dX7_kindOfWord_17 : decode cX7_kindOfWord 17 = .ok (.ldc 95, 2) := by decide +kernel
theorem dX7_kindOfWord_19 : decode cX7_kindOfWord 19 = .ok (.iload 4, 2) := by decide +kernel
theorem dX7_kindOfWord_21 : decode cX7_kindOfWord 21 = .ok (.invokevirtual 100, 3) := by decide +kernel
theorem dX7_kindOfWord_24 : decode cX7_kindOfWord 24 = .ok (.istore 5, 2) := by decide +kernel
theorem dX7_kindOfWord_26 : decode cX7_kindOfWord 26 = .ok (.iload 5, 2) := by decide +kernel
theorem dX7_kindOfWord_28 : decode cX7_kindOfWord 28 = .ok (.bipush 32, 2) := by decide +kernel
theorem dX7_kindOfWord_30 : decode cX7_kindOfWord 30 = .ok (.if_icmp .eq 51, 3) := by decide +kernel
theorem dX7_kindOfWord_33 : decode cX7_kindOfWord 33 = .ok (.iload_n 3, 1) := by decide +kernel
theorem dX7_kindOfWord_34 : decode cX7_kindOfWord 34 = .ok (.ifCond .lt 28, 3) := by decide +kernel
theorem dX7_kindOfWord_37 : decode cX7_kindOfWord 37 = .ok (.iload_n 3, 1) := by decide +kernel
theorem dX7_kindOfWord_38 : decode cX7_kindOfWord 38 = .ok (.iload_n 1, 1) := by decide +kernel
theorem dX7_kindOfWord_39 : decode cX7_kindOfWord 39 = .ok (.if_icmp .ge 23, 3) := by decide +kernel
theorem dX7_kindOfWord_42 : decode cX7_kindOfWord 42 = .ok (.aload_n 0, 1) := by decide +kernel
theorem dX7_kindOfWord_43 : decode cX7_kindOfWord 43 = .ok (.getfield 19, 3) := by decide +kernel
theorem dX7_kindOfWord_46 : decode cX7_kindOfWord 46 = .ok (.aload_n 0, 1) := by decide +kernel
theorem dX7_kindOfWord_47 : decode cX7_kindOfWord 47 = .ok (.getfield 65, 3) := by decide +kernel
theorem dX7_kindOfWord_50 : decode cX7_kindOfWord 50 = .ok (.iload_n 3, 1) := by decide +kernel
theorem dX7_kindOfWord_51 : decode cX7_kindOfWord 51 = .ok (.iadd, 1) := by decide +kernel
theorem dX7_kindOfWord_52 : decode cX7_kindOfWord 52 = .ok (.baload, 1) := by decide +kernel
theorem dX7_kindOfWord_53 : decode cX7_kindOfWord 53 = .ok (.iload 5, 2) := by decide +kernel
theorem dX7_kindOfWord_55 : decode cX7_kindOfWord 55 = .ok (.if_icmp .ne 7, 3) := by decide +kernel
theorem dX7_kindOfWord_58 : decode cX7_kindOfWord 58 = .ok (.iconst 1, 1) := by decide +kernel
theorem dX7_kindOfWord_59 : decode cX7_kindOfWord 59 = .ok (.goto 4, 3) := by decide +kernel
theorem dX7_kindOfWord_62 : decode cX7_kindOfWord 62 = .ok (.iconst 0, 1) := by decide +kernel
theorem dX7_kindOfWord_63 : decode cX7_kindOfWord 63 = .ok (.istore 6, 2) := by decide +kernel
theorem dX7_kindOfWord_65 : decode cX7_kindOfWord 65 = .ok (.iload 6, 2) := by decide +kernel
theorem dX7_kindOfWord_67 : decode cX7_kindOfWord 67 = .ok (.ifCond .eq 9, 3) := by decide +kernel
theorem dX7_kindOfWord_70 : decode cX7_kindOfWord 70 = .ok (.iload_n 3, 1) := by decide +kernel
theorem dX7_kindOfWord_71 : decode cX7_kindOfWord 71 = .ok (.iconst 1, 1) := by decide +kernel
theorem dX7_kindOfWord_72 : decode cX7_kindOfWord 72 = .ok (.iadd, 1) := by decide +kernel
theorem dX7_kindOfWord_73 : decode cX7_kindOfWord 73 = .ok (.goto 4, 3) := by decide +kernel
theorem dX7_kindOfWord_76 : decode cX7_kindOfWord 76 = .ok (.iconst (-1), 1) := by decide +kernel
theorem dX7_kindOfWord_77 : decode cX7_kindOfWord 77 = .ok (.istore_n 3, 1) := by decide +kernel
theorem dX7_kindOfWord_78 : decode cX7_kindOfWord 78 = .ok (.goto 19, 3) := by decide +kernel
theorem dX7_kindOfWord_81 : decode cX7_kindOfWord 81 = .ok (.iload_n 3, 1) := by decide +kernel
theorem dX7_kindOfWord_82 : decode cX7_kindOfWord 82 = .ok (.iload_n 1, 1) := by decide +kernel
theorem dX7_kindOfWord_83 : decode cX7_kindOfWord 83 = .ok (.if_icmp .ne 9, 3) := by decide +kernel
theorem dX7_kindOfWord_86 : decode cX7_kindOfWord 86 = .ok (.sipush 200, 3) := by decide +kernel
theorem dX7_kindOfWord_89 : decode cX7_kindOfWord 89 = .ok (.iload_n 2, 1) := by decide +kernel
theorem dX7_kindOfWord_90 : decode cX7_kindOfWord 90 = .ok (.iadd, 1) := by decide +kernel
theorem dX7_kindOfWord_91 : decode cX7_kindOfWord 91 = .ok (.ireturn, 1) := by decide +kernel
theorem dX7_kindOfWord_92 : decode cX7_kindOfWord 92 = .ok (.iinc 2 1, 3) := by decide +kernel
theorem dX7_kindOfWord_95 : decode cX7_kindOfWord 95 = .ok (.iconst 0, 1) := by decide +kernel
theorem dX7_kindOfWord_96 : decode cX7_kindOfWord 96 = .ok (.istore_n 3, 1) := by decide +kernel
theorem dX7_kindOfWord_97 : decode cX7_kindOfWord 97 = .ok (.iinc 4 1, 3) := by decide +kernel
theorem dX7_kindOfWord_100 : decode cX7_kindOfWord 100 = .ok (.goto (-93), 3) := by decide +kernel
theorem dX7_kindOfWord_103 : decode cX7_kindOfWord 103 = .ok (.iconst 2, 1) := by decide +kernel
theorem dX7_kindOfWord_104 : decode cX7_kindOfWord 104 = .ok (.ireturn, 1) := by decide +kernel
def rd_kindOfWord_7 (F : Nat) (I : Nat → Nat → Int32) (x : Nat) (g1 : Int32) : Nat → Int32 → Int32 → Int32 → Option ((Int32) ⊕ (Int32 × Int32 × Int32))
  | 0, _, _, _ => none
  | k + 1, l2, l3, l4 => if (js_length (sbs 0)) ≤ l4 then (some (.inr (l2, l3, l4))) else ((js_charAt (sbs 0) l4).bind (fun q2 => let u4 := q2; if u4 = 32 then (if l3 = g1 then (some (.inl (200 + l2))) else (rd_kindOfWord_7 F I x g1 k (l2 + 1) 0 (l4 + 1))) else (if l3 < 0 then (rd_kindOfWord_7 F I x g1 k l2 (-1) (l4 + 1)) else (if g1 ≤ l3 then (rd_kindOfWord_7 F I x g1 k l2 (-1) (l4 + 1)) else (chk ((I (x + 2) 4) + l3) 900 (if (I (x + 1) (Int32.toNatClampNeg ((I (x + 2) 4) + l3))) = u4 then (let x15 := (l3 + 1); rd_kindOfWord_7 F I x g1 k l2 x15 (l4 + 1)) else (rd_kindOfWord_7 F I x g1 k l2 (-1) (l4 + 1))))))))
def rd_kindOfWord (F : Nat) (I : Nat → Nat → Int32) (x : Nat) (v1 : Int32) : Option (Int32) := (rd_kindOfWord_7 F I x v1 F 0 0 0).bind (fun q17 => match q17 with | .inl r0 => some r0 | .inr q0 => let m19 := q0.1; let m20 := q0.2.1; let m21 := q0.2.2; some 2)
theorem l_rd_kindOfWord_7 {l : Launch} {D : va_G} {E : Nat → ClassId} {B : Nat → Prop} {n F : Nat} {Q : Option Value → HT → Prop} {T : Nat → Option (Nat × Nat)} {I : Nat → Nat → Int32} {J : Nat → Nat → Int64} {P : Nat → Nat → Option Nat} {x : Nat} {g1 : Int32} (hx : isSR T P x) (ht : P (x + 2) 2 = some (x + 1))  (r : (Int32) ⊕ (Int32 × Int32 × Int32)) : ∀ (k : Nat) (l2 : Int32) (l3 : Int32) (l4 : Int32), rd_kindOfWord_7 F I x g1 k l2 l3 l4 = some r → (match r with | .inl r => Q (some (.int r)) (n, T, I, J, P) | .inr r => V l D E B yX7_kindOfWord cX7_kindOfWord 7 (some .int) 4 0 0 Q 0 0 (n, T, I, J, P) 103 [(0, some (.ref (x + 2))), (1, some (.int g1)), (2, some (.int (r.1))), (3, some (.int (r.2.1))), (4, some (.int (r.2.2)))] []) → V l D E B yX7_kindOfWord cX7_kindOfWord 7 (some .int) 4 0 0 Q 0 0 (n, T, I, J, P) 7 [(0, some (.ref (x + 2))), (1, some (.int g1)), (2, some (.int l2)), (3, some (.int l3)), (4, some (.int l4))] [] := by
  intro k
  induction k with
  | zero =>
    intro l2 l3 l4 hf hk
    cases hf
  | succ k ih =>
    intro l2 l3 l4 hf hk
    unfold rd_kindOfWord_7 at hf
    refine V.iload dX7_kindOfWord_7 rfl ?_
    refine V.ldcS (sk := 0) ss0 dX7_kindOfWord_9 ?_
    refine V.invS ss0 cv_X7_97 (c_js_length ss0) dX7_kindOfWord_11 rfl rfl rfl (Nat.le_of_ble_eq_true rfl) (by decide) (by decide) (Nat.le_refl _) (Nat.le_refl _) (fun _ _ hq => ?_)
    obtain ⟨rfl, rfl⟩ := hq
    refine V.icmp_ge 103 dX7_kindOfWord_14 (by decide) (fun c1 => ?_) (fun c1 => ?_)
    · rw [if_pos c1] at hf
      obtain rfl := Option.some.inj hf
      exact V.lo [(0, some (.ref (x + 2))), (1, some (.int g1)), (2, some (.int l2)), (3, some (.int l3)), (4, some (.int l4))] (by simp only [Subs]; repeat' first | exact trivial | constructor | rfl) hk
    · rw [if_neg c1] at hf
      refine V.ldcS (sk := 0) ss0 dX7_kindOfWord_17 ?_
      refine V.iload dX7_kindOfWord_19 rfl ?_
      obtain ⟨u4, hk3, hf⟩ := bnd_some hf
      try dsimp only at hf
      refine V.invS ss0 cv_X7_100 (c_js_charAt ss0 hk3) dX7_kindOfWord_21 rfl rfl rfl (Nat.le_of_ble_eq_true rfl) (by decide) (by decide) (Nat.le_refl _) (Nat.le_refl _) (fun _ _ hq => ?_)
      obtain ⟨rfl, rfl⟩ := hq
      refine V.istore dX7_kindOfWord_24 (by decide) (by first | exact rfl | exact trivial) ?_
      refine V.iload dX7_kindOfWord_26 rfl ?_
      refine V.bipush (v := 32) dX7_kindOfWord_28 (by decide) ?_
      refine V.icmp_eq 81 dX7_kindOfWord_30 (by decide) (fun c5 => ?_) (fun c5 => ?_)
      · rw [if_pos c5] at hf
        refine V.iload_n dX7_kindOfWord_81 rfl ?_
        refine V.iload_n dX7_kindOfWord_82 rfl ?_
        refine V.icmp_ne 92 dX7_kindOfWord_83 (by decide) (fun c6 => ?_) (fun c6 => ?_)
        · rw [if_neg c6] at hf
          refine V.iinc (v := (l2 + 1)) dX7_kindOfWord_92 rfl rfl (by first | exact rfl | exact trivial) ?_
          refine V.iconst (v := 0) dX7_kindOfWord_95 (by decide) ?_
          refine V.istore_n dX7_kindOfWord_96 rfl (by decide) (by first | exact rfl | exact trivial) ?_
          refine V.iinc (v := (l4 + 1)) dX7_kindOfWord_97 rfl rfl (by first | exact rfl | exact trivial) ?_
          refine V.goto 7 dX7_kindOfWord_100 (by decide) ?_
          exact V.lo [(0, some (.ref (x + 2))), (1, some (.int g1)), (2, some (.int (l2 + 1))), (3, some (.int 0)), (4, some (.int (l4 + 1)))] (by simp only [Subs]; repeat' first | exact trivial | constructor | rfl) (ih _ _ _ hf hk)
        · rw [if_pos c6] at hf
          refine V.sipush (v := 200) dX7_kindOfWord_86 (by decide) ?_
          refine V.iload_n dX7_kindOfWord_89 rfl ?_
          refine V.iadd dX7_kindOfWord_90 ?_
          obtain rfl := Option.some.inj hf
          exact V.iret dX7_kindOfWord_91 rfl (Nat.le_refl _) (Nat.le_refl _) hk
      · rw [if_neg c5] at hf
        refine V.iload_n dX7_kindOfWord_33 rfl ?_
        refine V.if_lt 62 dX7_kindOfWord_34 (by decide) (fun c7 => ?_) (fun c7 => ?_)
        · rw [if_pos c7] at hf
          refine V.iconst (v := 0) dX7_kindOfWord_62 (by decide) ?_
          refine V.istore dX7_kindOfWord_63 (by decide) (by first | exact rfl | exact trivial) ?_
          refine V.iload dX7_kindOfWord_65 rfl ?_
          refine V.if_eq 76 dX7_kindOfWord_67 (by decide) (fun c8 => ?_) (fun c8 => absurd c8 (by decide))
          refine V.iconst (v := -1) dX7_kindOfWord_76 (by decide) ?_
          refine V.istore_n dX7_kindOfWord_77 rfl (by decide) (by first | exact rfl | exact trivial) ?_
          refine V.goto 97 dX7_kindOfWord_78 (by decide) ?_
          refine V.iinc (v := (l4 + 1)) dX7_kindOfWord_97 rfl rfl (by first | exact rfl | exact trivial) ?_
          refine V.goto 7 dX7_kindOfWord_100 (by decide) ?_
          exact V.lo [(0, some (.ref (x + 2))), (1, some (.int g1)), (2, some (.int l2)), (3, some (.int (-1))), (4, some (.int (l4 + 1)))] (by simp only [Subs]; repeat' first | exact trivial | constructor | rfl) (ih _ _ _ hf hk)
        · rw [if_neg c7] at hf
          refine V.iload_n dX7_kindOfWord_37 rfl ?_
          refine V.iload_n dX7_kindOfWord_38 rfl ?_
          refine V.icmp_ge 62 dX7_kindOfWord_39 (by decide) (fun c9 => ?_) (fun c9 => ?_)
          · rw [if_pos c9] at hf
            refine V.iconst (v := 0) dX7_kindOfWord_62 (by decide) ?_
            refine V.istore dX7_kindOfWord_63 (by decide) (by first | exact rfl | exact trivial) ?_
            refine V.iload dX7_kindOfWord_65 rfl ?_
            refine V.if_eq 76 dX7_kindOfWord_67 (by decide) (fun c10 => ?_) (fun c10 => absurd c10 (by decide))
            refine V.iconst (v := -1) dX7_kindOfWord_76 (by decide) ?_
            refine V.istore_n dX7_kindOfWord_77 rfl (by decide) (by first | exact rfl | exact trivial) ?_
            refine V.goto 97 dX7_kindOfWord_78 (by decide) ?_
            refine V.iinc (v := (l4 + 1)) dX7_kindOfWord_97 rfl rfl (by first | exact rfl | exact trivial) ?_
            refine V.goto 7 dX7_kindOfWord_100 (by decide) ?_
            exact V.lo [(0, some (.ref (x + 2))), (1, some (.int g1)), (2, some (.int l2)), (3, some (.int (-1))), (4, some (.int (l4 + 1)))] (by simp only [Subs]; repeat' first | exact trivial | constructor | rfl) (ih _ _ _ hf hk)
          · rw [if_neg c9] at hf
            refine V.aload_n dX7_kindOfWord_42 rfl ?_
            refine V.getr fl_X7_19 dX7_kindOfWord_43 (hx.1 2 (7, 0) rfl) ht (by decide) rfl ?_
            refine V.aload_n dX7_kindOfWord_46 rfl ?_
            refine V.getf fl_X7_65 dX7_kindOfWord_47 (hx.1 2 (7, 0) rfl) (by decide) rfl ?_
            refine V.iload_n dX7_kindOfWord_50 rfl ?_
            refine V.iadd dX7_kindOfWord_51 ?_
            obtain ⟨hb11, hf⟩ := chk_some hf
            refine V.bald dX7_kindOfWord_52 (hx.1 1 (21, 900) rfl) hb11 ?_
            refine V.iload dX7_kindOfWord_53 rfl ?_
            refine V.icmp_ne 62 dX7_kindOfWord_55 (by decide) (fun c12 => ?_) (fun c12 => ?_)
            · rw [if_neg c12] at hf
              refine V.iconst (v := 0) dX7_kindOfWord_62 (by decide) ?_
              refine V.istore dX7_kindOfWord_63 (by decide) (by first | exact rfl | exact trivial) ?_
              refine V.iload dX7_kindOfWord_65 rfl ?_
              refine V.if_eq 76 dX7_kindOfWord_67 (by decide) (fun c13 => ?_) (fun c13 => absurd c13 (by decide))
              refine V.iconst (v := -1) dX7_kindOfWord_76 (by decide) ?_
              refine V.istore_n dX7_kindOfWord_77 rfl (by decide) (by first | exact rfl | exact trivial) ?_
              refine V.goto 97 dX7_kindOfWord_78 (by decide) ?_
              refine V.iinc (v := (l4 + 1)) dX7_kindOfWord_97 rfl rfl (by first | exact rfl | exact trivial) ?_
              refine V.goto 7 dX7_kindOfWord_100 (by decide) ?_
              exact V.lo [(0, some (.ref (x + 2))), (1, some (.int g1)), (2, some (.int l2)), (3, some (.int (-1))), (4, some (.int (l4 + 1)))] (by simp only [Subs]; repeat' first | exact trivial | constructor | rfl) (ih _ _ _ hf hk)
            · rw [if_pos c12] at hf
              refine V.iconst (v := 1) dX7_kindOfWord_58 (by decide) ?_
              refine V.goto 63 dX7_kindOfWord_59 (by decide) ?_
              refine V.istore dX7_kindOfWord_63 (by decide) (by first | exact rfl | exact trivial) ?_
              refine V.iload dX7_kindOfWord_65 rfl ?_
              refine V.if_eq 76 dX7_kindOfWord_67 (by decide) (fun c14 => absurd c14 (by decide)) (fun c14 => ?_)
              refine V.iload_n dX7_kindOfWord_70 rfl ?_
              refine V.iconst (v := 1) dX7_kindOfWord_71 (by decide) ?_
              refine V.iadd dX7_kindOfWord_72 ?_
              refine V.goto 77 dX7_kindOfWord_73 (by decide) ?_
              refine V.istore_n dX7_kindOfWord_77 rfl (by decide) (by first | exact rfl | exact trivial) ?_
              obtain ⟨x15, e16⟩ : ∃ zz_, zz_ = (l3 + 1) := ⟨_, rfl⟩
              rw [← e16] at hf ⊢
              try dsimp only at hf
              refine V.goto 97 dX7_kindOfWord_78 (by decide) ?_
              refine V.iinc (v := (l4 + 1)) dX7_kindOfWord_97 rfl rfl (by first | exact rfl | exact trivial) ?_
              refine V.goto 7 dX7_kindOfWord_100 (by decide) ?_
              exact V.lo [(0, some (.ref (x + 2))), (1, some (.int g1)), (2, some (.int l2)), (3, some (.int x15)), (4, some (.int (l4 + 1)))] (by simp only [Subs]; repeat' first | exact trivial | constructor | rfl) (ih _ _ _ hf hk)
theorem c_rd_kindOfWord {l : Launch} {D : va_G} {E : Nat → ClassId} {B : Nat → Prop} {n F : Nat} {T : Nat → Option (Nat × Nat)} {I : Nat → Nat → Int32} {J : Nat → Nat → Int64} {P : Nat → Nat → Option Nat} {x : Nat} {v1 : Int32} {r : Int32} (hx : isSR T P x) (ht : P (x + 2) 2 = some (x + 1)) (hf : rd_kindOfWord F I x v1 = some r) : Ct l D E B yX7_kindOfWord cX7_kindOfWord 7 (some .int) 4 0 0 [.ref (x + 2), .int v1] (n, T, I, J, P) (Ret (some (.int r)) (n, T, I, J, P)) := by
  unfold rd_kindOfWord at hf
  refine Ct.ofV (by decide) (Nat.le_of_ble_eq_true rfl) ?_
  refine V.iconst (v := 0) dX7_kindOfWord_0 (by decide) ?_
  refine V.istore_n dX7_kindOfWord_1 rfl (by decide) (by first | exact rfl | exact trivial) ?_
  refine V.iconst (v := 0) dX7_kindOfWord_2 (by decide) ?_
  refine V.istore_n dX7_kindOfWord_3 rfl (by decide) (by first | exact rfl | exact trivial) ?_
  refine V.iconst (v := 0) dX7_kindOfWord_4 (by decide) ?_
  refine V.istore dX7_kindOfWord_5 (by decide) (by first | exact rfl | exact trivial) ?_
  obtain ⟨q17, hk18, hf⟩ := bnd_some hf
  refine V.lo [(0, some (.ref (x + 2))), (1, some (.int v1)), (2, some (.int 0)), (3, some (.int 0)), (4, some (.int 0))] (by simp only [Subs]; repeat' first | exact trivial | constructor | rfl) (l_rd_kindOfWord_7 hx ht q17 F _ _ _ hk18 ?_)
  rcases q17 with r0 | ⟨m19, m20, m21⟩
  · try dsimp only at hf ⊢
    obtain rfl := Option.some.inj hf
    exact ⟨rfl, rfl⟩
  · try dsimp only at hf ⊢
    refine V.iconst (v := 2) dX7_kindOfWord_103 (by decide) ?_
    obtain rfl := Option.some.inj hf
    exact V.iret dX7_kindOfWord_104 rfl (Nat.le_refl _) (Nat.le_refl _) ⟨rfl, rfl⟩
theorem dX7_numberTold_0 : decode cX7_numberTold 0 = .ok (.iconst 0, 1) := by decide +kernel
theorem dX7_numberTold_1 : decode cX7_numberTold 1 = .ok (.istore_n 1, 1) := by decide +kernel
theorem dX7_numberTold_2 : decode cX7_numberTold 2 = .ok (.aload_n 0, 1) := by decide +kernel
theorem dX7_numberTold_3 : decode cX7_numberTold 3 = .ok (.getfield 65, 3) := by decide +kernel
theorem dX7_numberTold_6 : decode cX7_numberTold 6 = .ok (.istore_n 2, 1) := by decide +kernel
theorem dX7_numberTold_7 : decode cX7_numberTold 7 = .ok (.iload_n 2, 1) := by decide +kernel
theorem dX7_numberTold_8 : decode cX7_numberTold 8 = .ok (.aload_n 0, 1) := by decide +kernel
theorem dX7_numberTold_9 : decode cX7_numberTold 9 = .ok (.getfield 32, 3) := by decide +kernel
theorem dX7_numberTold_12 : decode cX7_numberTold 12 = .ok (.if_icmp .ge 34, 3) := by decide +kernel
theorem dX7_numberTold_15 : decode cX7_numberTold 15 = .ok (.iload_n 2, 1) := by decide +kernel
theorem dX7_numberTold_16 : decode cX7_numberTold 16 = .ok (.aload_n 0, 1) := by decide +kernel
theorem dX7_numberTold_17 : decode cX7_numberTold 17 = .ok (.getfield 65, 3) := by decide +kernel
theorem dX7_numberTold_20 : decode cX7_numberTold 20 = .ok (.iconst 3, 1) := by decide +kernel
theorem dX7_numberTold_21 : decode cX7_numberTold 21 = .ok (.iadd, 1) := by decide +kernel
theorem dX7_numberTold_22 : decode cX7_numberTold 22 = .ok (.if_icmp .ge 24, 3) := by decide +kernel
theorem dX7_numberTold_25 : decode cX7_numberTold 25 = .ok (.bipush 10, 2) := by decide +kernel
theorem dX7_numberTold_27 : decode cX7_numberTold 27 = .ok (.iload_n 1, 1) := by decide +kernel
theorem dX7_numberTold_28 : decode cX7_numberTold 28 = .ok (.imul, 1) := by decide +kernel
theorem dX7_numberTold_29 : decode cX7_numberTold 29 = .ok (.aload_n 0, 1) := by decide +kernel
theorem dX7_numberTold_30 : decode cX7_numberTold 30 = .ok (.getfield 19, 3) := by decide +kernel
theorem dX7_numberTold_33 : decode cX7_numberTold 33 = .ok (.iload_n 2, 1) := by decide +kernel
theorem dX7_numberTold_34 : decode cX7_numberTold 34 = .ok (.baload, 1) := by decide +kernel
theorem dX7_numberTold_35 : decode cX7_numberTold 35 = .ok (.iadd, 1) := by decide +kernel
theorem dX7_numberTold_36 : decode cX7_numberTold 36 = .ok (.bipush 48, 2) := by decide +kernel
theorem dX7_numberTold_38 : decode cX7_numberTold 38 = .ok (.isub, 1) := by decide +kernel
theorem dX7_numberTold_39 : decode cX7_numberTold 39 = .ok (.istore_n 1, 1) := by decide +kernel
theorem dX7_numberTold_40 : decode cX7_numberTold 40 = .ok (.iinc 2 1, 3) := by decide +kernel
theorem dX7_numberTold_43 : decode cX7_numberTold 43 = .ok (.goto (-36), 3) := by decide +kernel
theorem dX7_numberTold_46 : decode cX7_numberTold 46 = .ok (.iload_n 1, 1) := by decide +kernel
theorem dX7_numberTold_47 : decode cX7_numberTold 47 = .ok (.ireturn, 1) := by decide +kernel
def rd_numberTold_7 (F : Nat) (I : Nat → Nat → Int32) (x : Nat) : Nat → Int32 → Int32 → Option (Int32 × Int32)
  | 0, _, _ => none
  | k + 1, l1, l2 => if (I (x + 2) 5) ≤ l2 then (some (l1, l2)) else (if ((I (x + 2) 4) + 3) ≤ l2 then (some (l1, l2)) else (chk l2 900 (let x6 := (((10 * l1) + (I (x + 1) (Int32.toNatClampNeg l2))) - 48); rd_numberTold_7 F I x k x6 (l2 + 1))))
def rd_numberTold (F : Nat) (I : Nat → Nat → Int32) (x : Nat) : Option (Int32) := let x1 := (I (x + 2) 4); (rd_numberTold_7 F I x F 0 x1).bind (fun q8 => let m10 := q8.1; let m11 := q8.2; some m10)
theorem l_rd_numberTold_7 {l : Launch} {D : va_G} {E : Nat → ClassId} {B : Nat → Prop} {n F : Nat} {Q : Option Value → HT → Prop} {T : Nat → Option (Nat × Nat)} {I : Nat → Nat → Int32} {J : Nat → Nat → Int64} {P : Nat → Nat → Option Nat} {x : Nat}  (hx : isSR T P x) (ht : P (x + 2) 2 = some (x + 1))  (r : Int32 × Int32) : ∀ (k : Nat) (l1 : Int32) (l2 : Int32), rd_numberTold_7 F I x k l1 l2 = some r → V l D E B yX7_numberTold cX7_numberTold 3 (some .int) 0 0 0 Q 0 0 (n, T, I, J, P) 46 [(0, some (.ref (x + 2))), (1, some (.int (r.1))), (2, some (.int (r.2)))] [] → V l D E B yX7_numberTold cX7_numberTold 3 (some .int) 0 0 0 Q 0 0 (n, T, I, J, P) 7 [(0, some (.ref (x + 2))), (1, some (.int l1)), (2, some (.int l2))] [] := by
  intro k
  induction k with
  | zero =>
    intro l1 l2 hf hk
    cases hf
  | succ k ih =>
    intro l1 l2 hf hk
    unfold rd_numberTold_7 at hf
    refine V.iload_n dX7_numberTold_7 rfl ?_
    refine V.aload_n dX7_numberTold_8 rfl ?_
    refine V.getf fl_X7_32 dX7_numberTold_9 (hx.1 2 (7, 0) rfl) (by decide) rfl ?_
    refine V.icmp_ge 46 dX7_numberTold_12 (by decide) (fun c3 => ?_) (fun c3 => ?_)
    · rw [if_pos c3] at hf
      obtain rfl := Option.some.inj hf
      exact V.lo [(0, some (.ref (x + 2))), (1, some (.int l1)), (2, some (.int l2))] (by simp only [Subs]; repeat' first | exact trivial | constructor | rfl) hk
    · rw [if_neg c3] at hf
      refine V.iload_n dX7_numberTold_15 rfl ?_
      refine V.aload_n dX7_numberTold_16 rfl ?_
      refine V.getf fl_X7_65 dX7_numberTold_17 (hx.1 2 (7, 0) rfl) (by decide) rfl ?_
      refine V.iconst (v := 3) dX7_numberTold_20 (by decide) ?_
      refine V.iadd dX7_numberTold_21 ?_
      refine V.icmp_ge 46 dX7_numberTold_22 (by decide) (fun c4 => ?_) (fun c4 => ?_)
      · rw [if_pos c4] at hf
        obtain rfl := Option.some.inj hf
        exact V.lo [(0, some (.ref (x + 2))), (1, some (.int l1)), (2, some (.int l2))] (by simp only [Subs]; repeat' first | exact trivial | constructor | rfl) hk
      · rw [if_neg c4] at hf
        refine V.bipush (v := 10) dX7_numberTold_25 (by decide) ?_
        refine V.iload_n dX7_numberTold_27 rfl ?_
        refine V.imul dX7_numberTold_28 ?_
        refine V.aload_n dX7_numberTold_29 rfl ?_
        refine V.getr fl_X7_19 dX7_numberTold_30 (hx.1 2 (7, 0) rfl) ht (by decide) rfl ?_
        refine V.iload_n dX7_numberTold_33 rfl ?_
        obtain ⟨hb5, hf⟩ := chk_some hf
        refine V.bald dX7_numberTold_34 (hx.1 1 (21, 900) rfl) hb5 ?_
        refine V.iadd dX7_numberTold_35 ?_
        refine V.bipush (v := 48) dX7_numberTold_36 (by decide) ?_
        refine V.isub dX7_numberTold_38 ?_
        refine V.istore_n dX7_numberTold_39 rfl (by decide) (by first | exact rfl | exact trivial) ?_
        obtain ⟨x6, e7⟩ : ∃ zz_, zz_ = (((10 * l1) + (I (x + 1) (Int32.toNatClampNeg l2))) - 48) := ⟨_, rfl⟩
        rw [← e7] at hf ⊢
        try dsimp only at hf
        refine V.iinc (v := (l2 + 1)) dX7_numberTold_40 rfl rfl (by first | exact rfl | exact trivial) ?_
        refine V.goto 7 dX7_numberTold_43 (by decide) ?_
        exact V.lo [(0, some (.ref (x + 2))), (1, some (.int x6)), (2, some (.int (l2 + 1)))] (by simp only [Subs]; repeat' first | exact trivial | constructor | rfl) (ih _ _ hf hk)
theorem c_rd_numberTold {l : Launch} {D : va_G} {E : Nat → ClassId} {B : Nat → Prop} {n F : Nat} {T : Nat → Option (Nat × Nat)} {I : Nat → Nat → Int32} {J : Nat → Nat → Int64} {P : Nat → Nat → Option Nat} {x : Nat}  {r : Int32} (hx : isSR T P x) (ht : P (x + 2) 2 = some (x + 1)) (hf : rd_numberTold F I x = some r) : Ct l D E B yX7_numberTold cX7_numberTold 3 (some .int) 0 0 0 [.ref (x + 2)] (n, T, I, J, P) (Ret (some (.int r)) (n, T, I, J, P)) := by
  unfold rd_numberTold at hf
  refine Ct.ofV (by decide) (Nat.le_of_ble_eq_true rfl) ?_
  refine V.iconst (v := 0) dX7_numberTold_0 (by decide) ?_
  refine V.istore_n dX7_numberTold_1 rfl (by decide) (by first | exact rfl | exact trivial) ?_
  refine V.aload_n dX7_numberTold_2 rfl ?_
  refine V.getf fl_X7_65 dX7_numberTold_3 (hx.1 2 (7, 0) rfl) (by decide) rfl ?_
  refine V.istore_n dX7_numberTold_6 rfl (by decide) (by first | exact rfl | exact trivial) ?_
  obtain ⟨x1, e2⟩ : ∃ zz_, zz_ = (I (x + 2) 4) := ⟨_, rfl⟩
  rw [← e2] at hf ⊢
  try dsimp only at hf
  obtain ⟨⟨m10, m11⟩, hk9, hf⟩ := bnd_some hf
  try dsimp only at hf
  refine V.lo [(0, some (.ref (x + 2))), (1, some (.int 0)), (2, some (.int x1))] (by simp only [Subs]; repeat' first | exact trivial | constructor | rfl) (l_rd_numberTold_7 hx ht _ F _ _ hk9 ?_)
  try dsimp only
  refine V.iload_n dX7_numberTold_46 rfl ?_
  obtain rfl := Option.some.inj hf
  exact V.iret dX7_numberTold_47 rfl (Nat.le_refl _) (Nat.le_refl _) ⟨rfl, rfl⟩
theorem dX7_refuse_0 : decode cX7_refuse 0 = .ok (.aload_n 0, 1) := by decide +kernel
theorem dX7_refuse_1 : decode cX7_refuse 1 = .ok (.getfield 35, 3) := by decide +kernel
theorem dX7_refuse_4 : decode cX7_refuse 4 = .ok (.ifCond .ne 16, 3) := by decide +kernel
theorem dX7_refuse_7 : decode cX7_refuse 7 = .ok (.aload_n 0, 1) := by decide +kernel
theorem dX7_refuse_8 : decode cX7_refuse 8 = .ok (.iload_n 1, 1) := by decide +kernel
theorem dX7_refuse_9 : decode cX7_refuse 9 = .ok (.putfield 35, 3) := by decide +kernel
theorem dX7_refuse_12 : decode cX7_refuse 12 = .ok (.aload_n 0, 1) := by decide +kernel
theorem dX7_refuse_13 : decode cX7_refuse 13 = .ok (.aload_n 0, 1) := by decide +kernel
theorem dX7_refuse_14 : decode cX7_refuse 14 = .ok (.getfield 65, 3) := by decide +kernel
theorem dX7_refuse_17 : decode cX7_refuse 17 = .ok (.putfield 9, 3) := by decide +kernel
theorem dX7_refuse_20 : decode cX7_refuse 20 = .ok (.iconst 0, 1) := by decide +kernel
theorem dX7_refuse_21 : decode cX7_refuse 21 = .ok (.ireturn, 1) := by decide +kernel
def rd_refuse (I : Nat → Nat → Int32) (x : Nat) (v1 : Int32) : Option (Int32 × (Nat → Nat → Int32)) := if (I (x + 2) 0) = 0 then (let I2 := uI I (x + 2) 0 v1; let I4 := uI I2 (x + 2) 1 (I2 (x + 2) 4); some (0, I4)) else (some (0, I))
theorem c_rd_refuse {l : Launch} {D : va_G} {E : Nat → ClassId} {B : Nat → Prop} {n : Nat} {T : Nat → Option (Nat × Nat)} {I : Nat → Nat → Int32} {J : Nat → Nat → Int64} {P : Nat → Nat → Option Nat} {x : Nat} {v1 : Int32} {r : Int32 × (Nat → Nat → Int32)} (hx : isSR T P x) (hf : rd_refuse I x v1 = some r) : Ct l D E B yX7_refuse cX7_refuse 2 (some .boolean) 0 0 0 [.ref (x + 2), .int v1] (n, T, I, J, P) (Ret (some (.int r.1)) (n, T, r.2, J, P)) := by
  unfold rd_refuse at hf
  refine Ct.ofV (by decide) (Nat.le_of_ble_eq_true rfl) ?_
  refine V.aload_n dX7_refuse_0 rfl ?_
  refine V.getf fl_X7_35 dX7_refuse_1 (hx.1 2 (7, 0) rfl) (by decide) rfl ?_
  refine V.if_ne 20 dX7_refuse_4 (by decide) (fun c1 => ?_) (fun c1 => ?_)
  · rw [if_neg c1] at hf
    refine V.iconst (v := 0) dX7_refuse_20 (by decide) ?_
    obtain rfl := Option.some.inj hf
    exact V.zret dX7_refuse_21 rfl rfl (Nat.le_refl _) (Nat.le_refl _) ⟨rfl, rfl⟩
  · rw [if_pos c1] at hf
    refine V.aload_n dX7_refuse_7 rfl ?_
    refine V.iload_n dX7_refuse_8 rfl ?_
    refine V.putiE fl_X7_35 dX7_refuse_9 (hx.1 2 (7, 0) rfl) (by decide) (fun h => by cases h) rfl rfl rfl (Nat.le_of_ble_eq_true rfl) (fun I2 e3 => ?_)
    rw [← e3] at hf
    try dsimp only at hf
    clear e3
    refine V.aload_n dX7_refuse_12 rfl ?_
    refine V.aload_n dX7_refuse_13 rfl ?_
    refine V.getf fl_X7_65 dX7_refuse_14 (hx.1 2 (7, 0) rfl) (by decide) rfl ?_
    refine V.putiE fl_X7_9 dX7_refuse_17 (hx.1 2 (7, 0) rfl) (by decide) (fun h => by cases h) rfl rfl rfl (Nat.le_of_ble_eq_true rfl) (fun I4 e5 => ?_)
    rw [← e5] at hf
    try dsimp only at hf
    clear e5
    refine V.iconst (v := 0) dX7_refuse_20 (by decide) ?_
    obtain rfl := Option.some.inj hf
    exact V.zret dX7_refuse_21 rfl rfl (Nat.le_refl _) (Nat.le_refl _) ⟨rfl, rfl⟩
theorem dX7_takeToken_0 : decode cX7_takeToken 0 = .ok (.aload_n 0, 1) := by decide +kernel
theorem dX7_takeToken_1 : decode cX7_takeToken 1 = .ok (.getfield 32, 3) := by decide +kernel
theorem dX7_takeToken_4 : decode cX7_takeToken 4 = .ok (.aload_n 0, 1) := by decide +kernel
theorem dX7_takeToken_5 : decode cX7_takeToken 5 = .ok (.getfield 29, 3) := by decide +kernel
theorem dX7_takeToken_8 : decode cX7_takeToken 8 = .ok (.if_icmp .ge 44, 3) := by decide +kernel
theorem dX7_takeToken_11 : decode cX7_takeToken 11 = .ok (.aload_n 0, 1) := by decide +kernel
theorem dX7_takeToken_12 : decode cX7_takeToken 12 = .ok (.getfield 19, 3) := by decide +kernel
theorem dX7_takeToken_15 : decode cX7_takeToken 15 = .ok (.aload_n 0, 1) := by decide +kernel
theorem dX7_takeToken_16 : decode cX7_takeToken 16 = .ok (.getfield 32, 3) := by decide +kernel
theorem dX7_takeToken_19 : decode cX7_takeToken 19 = .ok (.baload, 1) := by decide +kernel
theorem dX7_takeToken_20 : decode cX7_takeToken 20 = .ok (.bipush 10, 2) := by decide +kernel
theorem dX7_takeToken_22 : decode cX7_takeToken 22 = .ok (.if_icmp .eq 17, 3) := by decide +kernel
theorem dX7_takeToken_25 : decode cX7_takeToken 25 = .ok (.aload_n 0, 1) := by decide +kernel
theorem dX7_takeToken_26 : decode cX7_takeToken 26 = .ok (.getfield 19, 3) := by decide +kernel
theorem dX7_takeToken_29 : decode cX7_takeToken 29 = .ok (.aload_n 0, 1) := by decide +kernel
theorem dX7_takeToken_30 : decode cX7_takeToken 30 = .ok (.getfield 32, 3) := by decide +kernel
theorem dX7_takeToken_33 : decode cX7_takeToken 33 = .ok (.baload, 1) := by decide +kernel
theorem dX7_takeToken_34 : decode cX7_takeToken 34 = .ok (.bipush 32, 2) := by decide +kernel
theorem dX7_takeToken_36 : decode cX7_takeToken 36 = .ok (.if_icmp .ne 16, 3) := by decide +kernel
theorem dX7_takeToken_39 : decode cX7_takeToken 39 = .ok (.aload_n 0, 1) := by decide +kernel
theorem dX7_takeToken_40 : decode cX7_takeToken 40 = .ok (.dup, 1) := by decide +kernel
theorem dX7_takeToken_41 : decode cX7_takeToken 41 = .ok (.getfield 32, 3) := by decide +kernel
theorem dX7_takeToken_44 : decode cX7_takeToken 44 = .ok (.iconst 1, 1) := by decide +kernel
theorem dX7_takeToken_45 : decode cX7_takeToken 45 = .ok (.iadd, 1) := by decide +kernel
theorem dX7_takeToken_46 : decode cX7_takeToken 46 = .ok (.putfield 32, 3) := by decide +kernel
theorem dX7_takeToken_49 : decode cX7_takeToken 49 = .ok (.goto (-49), 3) := by decide +kernel
theorem dX7_takeToken_52 : decode cX7_takeToken 52 = .ok (.aload_n 0, 1) := by decide +kernel
theorem dX7_takeToken_53 : decode cX7_takeToken 53 = .ok (.aload_n 0, 1) := by decide +kernel
theorem dX7_takeToken_54 : decode cX7_takeToken 54 = .ok (.getfield 32, 3) := by decide +kernel
theorem dX7_takeToken_57 : decode cX7_takeToken 57 = .ok (.putfield 65, 3) := by decide +kernel
theorem dX7_takeToken_60 : decode cX7_takeToken 60 = .ok (.aload_n 0, 1) := by decide +kernel
theorem dX7_takeToken_61 : decode cX7_takeToken 61 = .ok (.getfield 65, 3) := by decide +kernel
theorem dX7_takeToken_64 : decode cX7_takeToken 64 = .ok (.aload_n 0, 1) := by decide +kernel
theorem dX7_takeToken_65 : decode cX7_takeToken 65 = .ok (.getfield 29, 3) := by decide +kernel
theorem dX7_takeToken_68 : decode cX7_takeToken 68 = .ok (.if_icmp .lt 11, 3) := by decide +kernel
theorem dX7_takeToken_71 : decode cX7_takeToken 71 = .ok (.aload_n 0, 1) := by decide +kernel
theorem dX7_takeToken_72 : decode cX7_takeToken 72 = .ok (.iconst 0, 1) := by decide +kernel
theorem dX7_takeToken_73 : decode cX7_takeToken 73 = .ok (.putfield 56, 3) := by decide +kernel
theorem dX7_takeToken_76 : decode cX7_takeToken 76 = .ok (.goto 207, 3) := by decide +kernel
theorem dX7_takeToken_79 : decode cX7_takeToken 79 = .ok (.aload_n 0, 1) := by decide +kernel
theorem dX7_takeToken_80 : decode cX7_takeToken 80 = .ok (.getfield 19, 3) := by decide +kernel
theorem dX7_takeToken_83 : decode cX7_takeToken 83 = .ok (.aload_n 0, 1) := by decide +kernel
theorem dX7_takeToken_84 : decode cX7_takeToken 84 = .ok (.getfield 65, 3) := by decide +kernel
theorem dX7_takeToken_87 : decode cX7_takeToken 87 = .ok (.baload, 1) := by decide +kernel
theorem dX7_takeToken_88 : decode cX7_takeToken 88 = .ok (.invokestatic 71, 3) := by decide +kernel
theorem dX7_takeToken_91 : decode cX7_takeToken 91 = .ok (.ifCond .eq 62, 3) := by decide +kernel
theorem dX7_takeToken_94 : decode cX7_takeToken 94 = .ok (.aload_n 0, 1) := by decide +kernel
theorem dX7_takeToken_95 : decode cX7_takeToken 95 = .ok (.getfield 32, 3) := by decide +kernel
theorem dX7_takeToken_98 : decode cX7_takeToken 98 = .ok (.aload_n 0, 1) := by decide +kernel
theorem dX7_takeToken_99 : decode cX7_takeToken 99 = .ok (.getfield 29, 3) := by decide +kernel
theorem dX7_takeToken_102 : decode cX7_takeToken 102 = .ok (.if_icmp .ge 31, 3) := by decide +kernel
theorem dX7_takeToken_105 : decode cX7_takeToken 105 = .ok (.aload_n 0, 1) := by decide +kernel
theorem dX7_takeToken_106 : decode cX7_takeToken 106 = .ok (.getfield 19, 3) := by decide +kernel
theorem dX7_takeToken_109 : decode cX7_takeToken 109 = .ok (.aload_n 0, 1) := by decide +kernel
theorem dX7_takeToken_110 : decode cX7_takeToken 110 = .ok (.getfield 32, 3) := by decide +kernel
theorem dX7_takeToken_113 : decode cX7_takeToken 113 = .ok (.baload, 1) := by decide +kernel
theorem dX7_takeToken_114 : decode cX7_takeToken 114 = .ok (.invokestatic 71, 3) := by decide +kernel
theorem dX7_takeToken_117 : decode cX7_takeToken 117 = .ok (.ifCond .eq 16, 3) := by decide +kernel
theorem dX7_takeToken_120 : decode cX7_takeToken 120 = .ok (.aload_n 0, 1) := by decide +kernel
theorem dX7_takeToken_121 : decode cX7_takeToken 121 = .ok (.dup, 1) := by decide +kernel
theorem dX7_takeToken_122 : decode cX7_takeToken 122 = .ok (.getfield 32, 3) := by decide +kernel
theorem dX7_takeToken_125 : decode cX7_takeToken 125 = .ok (.iconst 1, 1) := by decide +kernel
theorem dX7_takeToken_126 : decode cX7_takeToken 126 = .ok (.iadd, 1) := by decide +kernel
theorem dX7_takeToken_127 : decode cX7_takeToken 127 = .ok (.putfield 32, 3) := by decide +kernel
theorem dX7_takeToken_130 : decode cX7_takeToken 130 = .ok (.goto (-36), 3) := by decide +kernel
theorem dX7_takeToken_133 : decode cX7_takeToken 133 = .ok (.aload_n 0, 1) := by decide +kernel
theorem dX7_takeToken_134 : decode cX7_takeToken 134 = .ok (.aload_n 0, 1) := by decide +kernel
theorem dX7_takeToken_135 : decode cX7_takeToken 135 = .ok (.aload_n 0, 1) := by decide +kernel
theorem dX7_takeToken_136 : decode cX7_takeToken 136 = .ok (.getfield 32, 3) := by decide +kernel
theorem dX7_takeToken_139 : decode cX7_takeToken 139 = .ok (.aload_n 0, 1) := by decide +kernel
theorem dX7_takeToken_140 : decode cX7_takeToken 140 = .ok (.getfield 65, 3) := by decide +kernel
theorem dX7_takeToken_143 : decode cX7_takeToken 143 = .ok (.isub, 1) := by decide +kernel
theorem dX7_takeToken_144 : decode cX7_takeToken 144 = .ok (.invokevirtual 74, 3) := by decide +kernel
theorem dX7_takeToken_147 : decode cX7_takeToken 147 = .ok (.putfield 56, 3) := by decide +kernel
theorem dX7_takeToken_150 : decode cX7_takeToken 150 = .ok (.goto 133, 3) := by decide +kernel
theorem dX7_takeToken_153 : decode cX7_takeToken 153 = .ok (.aload_n 0, 1) := by decide +kernel
theorem dX7_takeToken_154 : decode cX7_takeToken 154 = .ok (.getfield 19, 3) := by decide +kernel
theorem dX7_takeToken_157 : decode cX7_takeToken 157 = .ok (.aload_n 0, 1) := by decide +kernel
theorem dX7_takeToken_158 : decode cX7_takeToken 158 = .ok (.getfield 65, 3) := by decide +kernel
theorem dX7_takeToken_161 : decode cX7_takeToken 161 = .ok (.baload, 1) := by decide +kernel
theorem dX7_takeToken_162 : decode cX7_takeToken 162 = .ok (.invokestatic 78, 3) := by decide +kernel
theorem dX7_takeToken_165 : decode cX7_takeToken 165 = .ok (.ifCond .eq 75, 3) := by decide +kernel
theorem dX7_takeToken_168 : decode cX7_takeToken 168 = .ok (.aload_n 0, 1) := by decide +kernel
theorem dX7_takeToken_169 : decode cX7_takeToken 169 = .ok (.getfield 32, 3) := by decide +kernel
theorem dX7_takeToken_172 : decode cX7_takeToken 172 = .ok (.aload_n 0, 1) := by decide +kernel
theorem dX7_takeToken_173 : decode cX7_takeToken 173 = .ok (.getfield 29, 3) := by decide +kernel
theorem dX7_takeToken_176 : decode cX7_takeToken 176 = .ok (.if_icmp .ge 31, 3) := by decide +kernel
theorem dX7_takeToken_179 : decode cX7_takeToken 179 = .ok (.aload_n 0, 1) := by decide +kernel
theorem dX7_takeToken_180 : decode cX7_takeToken 180 = .ok (.getfield 19, 3) := by decide +kernel
theorem dX7_takeToken_183 : decode cX7_takeToken 183 = .ok (.aload_n 0, 1) := by decide +kernel
theorem dX7_takeToken_184 : decode cX7_takeToken 184 = .ok (.getfield 32, 3) := by decide +kernel
theorem dX7_takeToken_187 : decode cX7_takeToken 187 = .ok (.baload, 1) := by decide +kernel
theorem dX7_takeToken_188 : decode cX7_takeToken 188 = .ok (.invokestatic 78, 3) := by decide +kernel
theorem dX7_takeToken_191 : decode cX7_takeToken 191 = .ok (.ifCond .eq 16, 3) := by decide +kernel
theorem dX7_takeToken_194 : decode cX7_takeToken 194 = .ok (.aload_n 0, 1) := by decide +kernel
theorem dX7_takeToken_195 : decode cX7_takeToken 195 = .ok (.dup, 1) := by decide +kernel
theorem dX7_takeToken_196 : decode cX7_takeToken 196 = .ok (.getfield 32, 3) := by decide +kernel
theorem dX7_takeToken_199 : decode cX7_takeToken 199 = .ok (.iconst 1, 1) := by decide +kernel
theorem dX7_takeToken_200 : decode cX7_takeToken 200 = .ok (.iadd, 1) := by decide +kernel
theorem dX7_takeToken_201 : decode cX7_takeToken 201 = .ok (.putfield 32, 3) := by decide +kernel
theorem dX7_takeToken_204 : decode cX7_takeToken 204 = .ok (.goto (-36), 3) := by decide +kernel
theorem dX7_takeToken_207 : decode cX7_takeToken 207 = .ok (.aload_n 0, 1) := by decide +kernel
theorem dX7_takeToken_208 : decode cX7_takeToken 208 = .ok (.aload_n 0, 1) := by decide +kernel
theorem dX7_takeToken_209 : decode cX7_takeToken 209 = .ok (.getfield 32, 3) := by decide +kernel
theorem dX7_takeToken_212 : decode cX7_takeToken 212 = .ok (.aload_n 0, 1) := by decide +kernel
theorem dX7_takeToken_213 : decode cX7_takeToken 213 = .ok (.getfield 65, 3) := by decide +kernel
theorem dX7_takeToken_216 : decode cX7_takeToken 216 = .ok (.isub, 1) := by decide +kernel
theorem dX7_takeToken_217 : decode cX7_takeToken 217 = .ok (.iconst 3, 1) := by decide +kernel
theorem dX7_takeToken_218 : decode cX7_takeToken 218 = .ok (.if_icmp .le 7, 3) := by decide +kernel
theorem dX7_takeToken_221 : decode cX7_takeToken 221 = .ok (.iconst (-1), 1) := by decide +kernel
theorem dX7_takeToken_222 : decode cX7_takeToken 222 = .ok (.goto 4, 3) := by decide +kernel
theorem dX7_takeToken_225 : decode cX7_takeToken 225 = .ok (.iconst 1, 1) := by decide +kernel
theorem dX7_takeToken_226 : decode cX7_takeToken 226 = .ok (.putfield 56, 3) := by decide +kernel
theorem dX7_takeToken_229 : decode cX7_takeToken 229 = .ok (.aload_n 0, 1) := by decide +kernel
theorem dX7_takeToken_230 : decode cX7_takeToken 230 = .ok (.aload_n 0, 1) := by decide +kernel
theorem dX7_takeToken_231 : decode cX7_takeToken 231 = .ok (.invokevirtual 81, 3) := by decide +kernel
theorem dX7_takeToken_234 : decode cX7_takeToken 234 = .ok (.putfield 85, 3) := by decide +kernel
theorem dX7_takeToken_237 : decode cX7_takeToken 237 = .ok (.goto 46, 3) := by decide +kernel
theorem dX7_takeToken_240 : decode cX7_takeToken 240 = .ok (.aload_n 0, 1) := by decide +kernel
theorem dX7_takeToken_241 : decode cX7_takeToken 241 = .ok (.dup, 1) := by decide +kernel
theorem dX7_takeToken_242 : decode cX7_takeToken 242 = .ok (.getfield 32, 3) := by decide +kernel
theorem dX7_takeToken_245 : decode cX7_takeToken 245 = .ok (.iconst 1, 1) := by decide +kernel
theorem dX7_takeToken_246 : decode cX7_takeToken 246 = .ok (.iadd, 1) := by decide +kernel
theorem dX7_takeToken_247 : decode cX7_takeToken 247 = .ok (.putfield 32, 3) := by decide +kernel
theorem dX7_takeToken_250 : decode cX7_takeToken 250 = .ok (.aload_n 0, 1) := by decide +kernel
theorem dX7_takeToken_251 : decode cX7_takeToken 251 = .ok (.getfield 19, 3) := by decide +kernel
theorem dX7_takeToken_254 : decode cX7_takeToken 254 = .ok (.aload_n 0, 1) := by decide +kernel
theorem dX7_takeToken_255 : decode cX7_takeToken 255 = .ok (.getfield 65, 3) := by decide +kernel
theorem dX7_takeToken_258 : decode cX7_takeToken 258 = .ok (.baload, 1) := by decide +kernel
theorem dX7_takeToken_259 : decode cX7_takeToken 259 = .ok (.sipush 255, 3) := by decide +kernel
theorem dX7_takeToken_262 : decode cX7_takeToken 262 = .ok (.iand, 1) := by decide +kernel
theorem dX7_takeToken_263 : decode cX7_takeToken 263 = .ok (.i2c, 1) := by decide +kernel
theorem dX7_takeToken_264 : decode cX7_takeToken 264 = .ok (.istore_n 1, 1) := by decide +kernel
theorem dX7_takeToken_265 : decode cX7_takeToken 265 = .ok (.aload_n 0, 1) := by decide +kernel
theorem dX7_takeToken_266 : decode cX7_takeToken 266 = .ok (.ldc 88, 2) := by decide +kernel
theorem dX7_takeToken_268 : decode cX7_takeToken 268 = .ok (.iload_n 1, 1) := by decide +kernel
theorem dX7_takeToken_269 : decode cX7_takeToken 269 = .ok (.invokevirtual 90, 3) := by decide +kernel
theorem dX7_takeToken_272 : decode cX7_takeToken 272 = .ok (.ifCond .lt 7, 3) := by decide +kernel
theorem dX7_takeToken_275 : decode cX7_takeToken 275 = .ok (.iload_n 1, 1) := by decide +kernel
theorem dX7_takeToken_276 : decode cX7_takeToken 276 = .ok (.goto 4, 3) := by decide +kernel
theorem dX7_takeToken_279 : decode cX7_takeToken 279 = .ok (.iconst (-1), 1) := by decide +kernel
theorem dX7_takeToken_280 : decode cX7_takeToken 280 = .ok (.putfield 56, 3) := by decide +kernel
theorem dX7_takeToken_283 : decode cX7_takeToken 283 = .ok (.aload_n 0, 1) := by decide +kernel
theorem dX7_takeToken_284 : decode cX7_takeToken 284 = .ok (.getfield 56, 3) := by decide +kernel
theorem dX7_takeToken_287 : decode cX7_takeToken 287 = .ok (.iconst (-1), 1) := by decide +kernel
theorem dX7_takeToken_288 : decode cX7_takeToken 288 = .ok (.if_icmp .ne 9, 3) := by decide +kernel
theorem dX7_takeToken_291 : decode cX7_takeToken 291 = .ok (.aload_n 0, 1) := by decide +kernel
theorem dX7_takeToken_292 : decode cX7_takeToken 292 = .ok (.iconst 1, 1) := by decide +kernel
theorem dX7_takeToken_293 : decode cX7_takeToken 293 = .ok (.invokevirtual 68, 3) := by decide +kernel
theorem dX7_takeToken_296 : decode cX7_takeToken 296 = .ok (.pop, 1) := by decide +kernel
theorem dX7_takeToken_297 : decode cX7_takeToken 297 = .ok (.return_, 1) := by decide +kernel
def rd_takeToken_0 (F : Nat) (x : Nat) : Nat → (Nat → Nat → Int32) → Option ((Nat → Nat → Int32))
  | 0, _ => none
  | k + 1, I => if (I (x + 2) 3) ≤ (I (x + 2) 5) then (some I) else (chk (I (x + 2) 5) 900 (if (I (x + 1) (Int32.toNatClampNeg (I (x + 2) 5))) = 10 then (let I4 := uI I (x + 2) 5 ((I (x + 2) 5) + 1); rd_takeToken_0 F x k I4) else (if (I (x + 1) (Int32.toNatClampNeg (I (x + 2) 5))) = 32 then (let I7 := uI I (x + 2) 5 ((I (x + 2) 5) + 1); rd_takeToken_0 F x k I7) else (some I))))
def rd_takeToken_168 (F : Nat) (x : Nat) : Nat → (Nat → Nat → Int32) → Option ((Nat → Nat → Int32))
  | 0, _ => none
  | k + 1, I => if (I (x + 2) 3) ≤ (I (x + 2) 5) then (some I) else (chk (I (x + 2) 5) 900 (if (rd_isDigit (I (x + 1) (Int32.toNatClampNeg (I (x + 2) 5)))) = 0 then (some I) else (let I44 := uI I (x + 2) 5 ((I (x + 2) 5) + 1); rd_takeToken_168 F x k I44)))
def rd_takeToken_94 (F : Nat) (x : Nat) : Nat → (Nat → Nat → Int32) → Option ((Nat → Nat → Int32))
  | 0, _ => none
  | k + 1, I => if (I (x + 2) 3) ≤ (I (x + 2) 5) then (some I) else (chk (I (x + 2) 5) 900 (if (rd_isLetter (I (x + 1) (Int32.toNatClampNeg (I (x + 2) 5)))) = 0 then (some I) else (let I77 := uI I (x + 2) 5 ((I (x + 2) 5) + 1); rd_takeToken_94 F x k I77)))
def rd_takeToken (F : Nat) (I : Nat → Nat → Int32) (x : Nat) : Option ((Nat → Nat → Int32)) := (rd_takeToken_0 F x F I).bind (fun q9 => let I11 := q9; let I12 := uI I11 (x + 2) 4 (I11 (x + 2) 5); if (I12 (x + 2) 4) < (I12 (x + 2) 3) then (chk (I12 (x + 2) 4) 900 (if (rd_isLetter (I12 (x + 1) (Int32.toNatClampNeg (I12 (x + 2) 4)))) = 0 then (if (rd_isDigit (I12 (x + 1) (Int32.toNatClampNeg (I12 (x + 2) 4)))) = 0 then (let I18 := uI I12 (x + 2) 5 ((I12 (x + 2) 5) + 1); chk (I18 (x + 2) 4) 900 (let x21 := ((Int32.toUInt32 ((I18 (x + 1) (Int32.toNatClampNeg (I18 (x + 2) 4))) &&& 255) % 65536).toInt32); (js_indexOf F (sbs 1) x21).bind (fun q23 => let u25 := q23; if u25 < 0 then (let I27 := uI I18 (x + 2) 6 (-1); if (I27 (x + 2) 6) = (-1) then ((rd_refuse I27 x 1).bind (fun q30 => let u32 := q30.1; let I33 := q30.2; some I33)) else (some I27)) else (let I34 := uI I18 (x + 2) 6 x21; if (I34 (x + 2) 6) = (-1) then ((rd_refuse I34 x 1).bind (fun q37 => let u39 := q37.1; let I40 := q37.2; some I40)) else (some I34))))) else ((rd_takeToken_168 F x F I12).bind (fun q46 => let I48 := q46; if ((I48 (x + 2) 5) - (I48 (x + 2) 4)) ≤ 3 then (let I50 := uI I48 (x + 2) 6 1; (rd_numberTold F I50 x).bind (fun q52 => let u54 := q52; let I55 := uI I50 (x + 2) 7 u54; if (I55 (x + 2) 6) = (-1) then ((rd_refuse I55 x 1).bind (fun q58 => let u60 := q58.1; let I61 := q58.2; some I61)) else (some I55))) else (let I62 := uI I48 (x + 2) 6 (-1); (rd_numberTold F I62 x).bind (fun q64 => let u66 := q64; let I67 := uI I62 (x + 2) 7 u66; if (I67 (x + 2) 6) = (-1) then ((rd_refuse I67 x 1).bind (fun q70 => let u72 := q70.1; let I73 := q70.2; some I73)) else (some I67)))))) else ((rd_takeToken_94 F x F I12).bind (fun q79 => let I81 := q79; (rd_kindOfWord F I81 x ((I81 (x + 2) 5) - (I81 (x + 2) 4))).bind (fun q82 => let u84 := q82; let I85 := uI I81 (x + 2) 6 u84; if (I85 (x + 2) 6) = (-1) then ((rd_refuse I85 x 1).bind (fun q88 => let u90 := q88.1; let I91 := q88.2; some I91)) else (some I85)))))) else (let I92 := uI I12 (x + 2) 6 0; if (I92 (x + 2) 6) = (-1) then ((rd_refuse I92 x 1).bind (fun q95 => let u97 := q95.1; let I98 := q95.2; some I98)) else (some I92)))
theorem l_rd_takeToken_0 {l : Launch} {D : va_G} {E : Nat → ClassId} {B : Nat → Prop} {n F : Nat} {Q : Option Value → HT → Prop} {T : Nat → Option (Nat × Nat)} {J : Nat → Nat → Int64} {P : Nat → Nat → Option Nat} {x : Nat}  (hx : isSR T P x) (ht : P (x + 2) 2 = some (x + 1))  (r : (Nat → Nat → Int32)) : ∀ (k : Nat) (I : (Nat → Nat → Int32)), rd_takeToken_0 F x k I = some r → V l D E B yX7_takeToken cX7_takeToken 2 none 5 0 0 Q 0 0 (n, T, r, J, P) 52 [(0, some (.ref (x + 2)))] [] → V l D E B yX7_takeToken cX7_takeToken 2 none 5 0 0 Q 0 0 (n, T, I, J, P) 0 [(0, some (.ref (x + 2)))] [] := by
  intro k
  induction k with
  | zero =>
    intro I hf hk
    cases hf
  | succ k ih =>
    intro I hf hk
    unfold rd_takeToken_0 at hf
    refine V.aload_n dX7_takeToken_0 rfl ?_
    refine V.getf fl_X7_32 dX7_takeToken_1 (hx.1 2 (7, 0) rfl) (by decide) rfl ?_
    refine V.aload_n dX7_takeToken_4 rfl ?_
    refine V.getf fl_X7_29 dX7_takeToken_5 (hx.1 2 (7, 0) rfl) (by decide) rfl ?_
    refine V.icmp_ge 52 dX7_takeToken_8 (by decide) (fun c1 => ?_) (fun c1 => ?_)
    · rw [if_pos c1] at hf
      obtain rfl := Option.some.inj hf
      exact V.lo [(0, some (.ref (x + 2)))] (by simp only [Subs]; repeat' first | exact trivial | constructor | rfl) hk
    · rw [if_neg c1] at hf
      refine V.aload_n dX7_takeToken_11 rfl ?_
      refine V.getr fl_X7_19 dX7_takeToken_12 (hx.1 2 (7, 0) rfl) ht (by decide) rfl ?_
      refine V.aload_n dX7_takeToken_15 rfl ?_
      refine V.getf fl_X7_32 dX7_takeToken_16 (hx.1 2 (7, 0) rfl) (by decide) rfl ?_
      obtain ⟨hb2, hf⟩ := chk_some hf
      refine V.bald dX7_takeToken_19 (hx.1 1 (21, 900) rfl) hb2 ?_
      refine V.bipush (v := 10) dX7_takeToken_20 (by decide) ?_
      refine V.icmp_eq 39 dX7_takeToken_22 (by decide) (fun c3 => ?_) (fun c3 => ?_)
      · rw [if_pos c3] at hf
        refine V.aload_n dX7_takeToken_39 rfl ?_
        refine V.dup dX7_takeToken_40 rfl ?_
        refine V.getf fl_X7_32 dX7_takeToken_41 (hx.1 2 (7, 0) rfl) (by decide) rfl ?_
        refine V.iconst (v := 1) dX7_takeToken_44 (by decide) ?_
        refine V.iadd dX7_takeToken_45 ?_
        refine V.putiE fl_X7_32 dX7_takeToken_46 (hx.1 2 (7, 0) rfl) (by decide) (fun h => by cases h) rfl rfl rfl (Nat.le_of_ble_eq_true rfl) (fun I4 e5 => ?_)
        rw [← e5] at hf
        try dsimp only at hf
        clear e5
        refine V.goto 0 dX7_takeToken_49 (by decide) ?_
        exact V.lo [(0, some (.ref (x + 2)))] (by simp only [Subs]; repeat' first | exact trivial | constructor | rfl) (ih _ hf hk)
      · rw [if_neg c3] at hf
        refine V.aload_n dX7_takeToken_25 rfl ?_
        refine V.getr fl_X7_19 dX7_takeToken_26 (hx.1 2 (7, 0) rfl) ht (by decide) rfl ?_
        refine V.aload_n dX7_takeToken_29 rfl ?_
        refine V.getf fl_X7_32 dX7_takeToken_30 (hx.1 2 (7, 0) rfl) (by decide) rfl ?_
        refine V.bald dX7_takeToken_33 (hx.1 1 (21, 900) rfl) hb2 ?_
        refine V.bipush (v := 32) dX7_takeToken_34 (by decide) ?_
        refine V.icmp_ne 52 dX7_takeToken_36 (by decide) (fun c6 => ?_) (fun c6 => ?_)
        · rw [if_neg c6] at hf
          obtain rfl := Option.some.inj hf
          exact V.lo [(0, some (.ref (x + 2)))] (by simp only [Subs]; repeat' first | exact trivial | constructor | rfl) hk
        · rw [if_pos c6] at hf
          refine V.aload_n dX7_takeToken_39 rfl ?_
          refine V.dup dX7_takeToken_40 rfl ?_
          refine V.getf fl_X7_32 dX7_takeToken_41 (hx.1 2 (7, 0) rfl) (by decide) rfl ?_
          refine V.iconst (v := 1) dX7_takeToken_44 (by decide) ?_
          refine V.iadd dX7_takeToken_45 ?_
          refine V.putiE fl_X7_32 dX7_takeToken_46 (hx.1 2 (7, 0) rfl) (by decide) (fun h => by cases h) rfl rfl rfl (Nat.le_of_ble_eq_true rfl) (fun I7 e8 => ?_)
          rw [← e8] at hf
          try dsimp only at hf
          clear e8
          refine V.goto 0 dX7_takeToken_49 (by decide) ?_
          exact V.lo [(0, some (.ref (x + 2)))] (by simp only [Subs]; repeat' first | exact trivial | constructor | rfl) (ih _ hf hk)
theorem l_rd_takeToken_168 {l : Launch} {D : va_G} {E : Nat → ClassId} {B : Nat → Prop} {n F : Nat} {Q : Option Value → HT → Prop} {T : Nat → Option (Nat × Nat)} {J : Nat → Nat → Int64} {P : Nat → Nat → Option Nat} {x : Nat}  (hx : isSR T P x) (ht : P (x + 2) 2 = some (x + 1))  (r : (Nat → Nat → Int32)) : ∀ (k : Nat) (I : (Nat → Nat → Int32)), rd_takeToken_168 F x k I = some r → V l D E B yX7_takeToken cX7_takeToken 2 none 5 0 0 Q 0 0 (n, T, r, J, P) 207 [(0, some (.ref (x + 2)))] [] → V l D E B yX7_takeToken cX7_takeToken 2 none 5 0 0 Q 0 0 (n, T, I, J, P) 168 [(0, some (.ref (x + 2)))] [] := by
  intro k
  induction k with
  | zero =>
    intro I hf hk
    cases hf
  | succ k ih =>
    intro I hf hk
    unfold rd_takeToken_168 at hf
    refine V.aload_n dX7_takeToken_168 rfl ?_
    refine V.getf fl_X7_32 dX7_takeToken_169 (hx.1 2 (7, 0) rfl) (by decide) rfl ?_
    refine V.aload_n dX7_takeToken_172 rfl ?_
    refine V.getf fl_X7_29 dX7_takeToken_173 (hx.1 2 (7, 0) rfl) (by decide) rfl ?_
    refine V.icmp_ge 207 dX7_takeToken_176 (by decide) (fun c41 => ?_) (fun c41 => ?_)
    · rw [if_pos c41] at hf
      obtain rfl := Option.some.inj hf
      exact V.lo [(0, some (.ref (x + 2)))] (by simp only [Subs]; repeat' first | exact trivial | constructor | rfl) hk
    · rw [if_neg c41] at hf
      refine V.aload_n dX7_takeToken_179 rfl ?_
      refine V.getr fl_X7_19 dX7_takeToken_180 (hx.1 2 (7, 0) rfl) ht (by decide) rfl ?_
      refine V.aload_n dX7_takeToken_183 rfl ?_
      refine V.getf fl_X7_32 dX7_takeToken_184 (hx.1 2 (7, 0) rfl) (by decide) rfl ?_
      obtain ⟨hb42, hf⟩ := chk_some hf
      refine V.bald dX7_takeToken_187 (hx.1 1 (21, 900) rfl) hb42 ?_
      refine V.ins cs_X7_78 (c_rd_isDigit) dX7_takeToken_188 rfl rfl (Nat.le_of_ble_eq_true rfl) (by decide) (by decide) (Nat.le_refl _) (Nat.le_refl _) (fun _ _ hq => ?_)
      obtain ⟨rfl, rfl⟩ := hq
      refine V.if_eq 207 dX7_takeToken_191 (by decide) (fun c43 => ?_) (fun c43 => ?_)
      · rw [if_pos c43] at hf
        obtain rfl := Option.some.inj hf
        exact V.lo [(0, some (.ref (x + 2)))] (by simp only [Subs]; repeat' first | exact trivial | constructor | rfl) hk
      · rw [if_neg c43] at hf
        refine V.aload_n dX7_takeToken_194 rfl ?_
        refine V.dup dX7_takeToken_195 rfl ?_
        refine V.getf fl_X7_32 dX7_takeToken_196 (hx.1 2 (7, 0) rfl) (by decide) rfl ?_
        refine V.iconst (v := 1) dX7_takeToken_199 (by decide) ?_
        refine V.iadd dX7_takeToken_200 ?_
        refine V.putiE fl_X7_32 dX7_takeToken_201 (hx.1 2 (7, 0) rfl) (by decide) (fun h => by cases h) rfl rfl rfl (Nat.le_of_ble_eq_true rfl) (fun I44 e45 => ?_)
        rw [← e45] at hf
        try dsimp only at hf
        clear e45
        refine V.goto 168 dX7_takeToken_204 (by decide) ?_
        exact V.lo [(0, some (.ref (x + 2)))] (by simp only [Subs]; repeat' first | exact trivial | constructor | rfl) (ih _ hf hk)
theorem l_rd_takeToken_94 {l : Launch} {D : va_G} {E : Nat → ClassId} {B : Nat → Prop} {n F : Nat} {Q : Option Value → HT → Prop} {T : Nat → Option (Nat × Nat)} {J : Nat → Nat → Int64} {P : Nat → Nat → Option Nat} {x : Nat}  (hx : isSR T P x) (ht : P (x + 2) 2 = some (x + 1))  (r : (Nat → Nat → Int32)) : ∀ (k : Nat) (I : (Nat → Nat → Int32)), rd_takeToken_94 F x k I = some r → V l D E B yX7_takeToken cX7_takeToken 2 none 5 0 0 Q 0 0 (n, T, r, J, P) 133 [(0, some (.ref (x + 2)))] [] → V l D E B yX7_takeToken cX7_takeToken 2 none 5 0 0 Q 0 0 (n, T, I, J, P) 94 [(0, some (.ref (x + 2)))] [] := by
  intro k
  induction k with
  | zero =>
    intro I hf hk
    cases hf
  | succ k ih =>
    intro I hf hk
    unfold rd_takeToken_94 at hf
    refine V.aload_n dX7_takeToken_94 rfl ?_
    refine V.getf fl_X7_32 dX7_takeToken_95 (hx.1 2 (7, 0) rfl) (by decide) rfl ?_
    refine V.aload_n dX7_takeToken_98 rfl ?_
    refine V.getf fl_X7_29 dX7_takeToken_99 (hx.1 2 (7, 0) rfl) (by decide) rfl ?_
    refine V.icmp_ge 133 dX7_takeToken_102 (by decide) (fun c74 => ?_) (fun c74 => ?_)
    · rw [if_pos c74] at hf
      obtain rfl := Option.some.inj hf
      exact V.lo [(0, some (.ref (x + 2)))] (by simp only [Subs]; repeat' first | exact trivial | constructor | rfl) hk
    · rw [if_neg c74] at hf
      refine V.aload_n dX7_takeToken_105 rfl ?_
      refine V.getr fl_X7_19 dX7_takeToken_106 (hx.1 2 (7, 0) rfl) ht (by decide) rfl ?_
      refine V.aload_n dX7_takeToken_109 rfl ?_
      refine V.getf fl_X7_32 dX7_takeToken_110 (hx.1 2 (7, 0) rfl) (by decide) rfl ?_
      obtain ⟨hb75, hf⟩ := chk_some hf
      refine V.bald dX7_takeToken_113 (hx.1 1 (21, 900) rfl) hb75 ?_
      refine V.ins cs_X7_71 (c_rd_isLetter) dX7_takeToken_114 rfl rfl (Nat.le_of_ble_eq_true rfl) (by decide) (by decide) (Nat.le_refl _) (Nat.le_refl _) (fun _ _ hq => ?_)
      obtain ⟨rfl, rfl⟩ := hq
      refine V.if_eq 133 dX7_takeToken_117 (by decide) (fun c76 => ?_) (fun c76 => ?_)
      · rw [if_pos c76] at hf
        obtain rfl := Option.some.inj hf
        exact V.lo [(0, some (.ref (x + 2)))] (by simp only [Subs]; repeat' first | exact trivial | constructor | rfl) hk
      · rw [if_neg c76] at hf
        refine V.aload_n dX7_takeToken_120 rfl ?_
        refine V.dup dX7_takeToken_121 rfl ?_
        refine V.getf fl_X7_32 dX7_takeToken_122 (hx.1 2 (7, 0) rfl) (by decide) rfl ?_
        refine V.iconst (v := 1) dX7_takeToken_125 (by decide) ?_
        refine V.iadd dX7_takeToken_126 ?_
        refine V.putiE fl_X7_32 dX7_takeToken_127 (hx.1 2 (7, 0) rfl) (by decide) (fun h => by cases h) rfl rfl rfl (Nat.le_of_ble_eq_true rfl) (fun I77 e78 => ?_)
        rw [← e78] at hf
        try dsimp only at hf
        clear e78
        refine V.goto 94 dX7_takeToken_130 (by decide) ?_
        exact V.lo [(0, some (.ref (x + 2)))] (by simp only [Subs]; repeat' first | exact trivial | constructor | rfl) (ih _ hf hk)
theorem c_rd_takeToken {l : Launch} {D : va_G} {E : Nat → ClassId} {B : Nat → Prop} {n F : Nat} {T : Nat → Option (Nat × Nat)} {I : Nat → Nat → Int32} {J : Nat → Nat → Int64} {P : Nat → Nat → Option Nat} {x : Nat}  {r : (Nat → Nat → Int32)} (hx : isSR T P x) (ht : P (x + 2) 2 = some (x + 1)) (hf : rd_takeToken F I x = some r) : Ct l D E B yX7_takeToken cX7_takeToken 2 none 5 0 0 [.ref (x + 2)] (n, T, I, J, P) (Ret (none) (n, T, r, J, P)) := by
  unfold rd_takeToken at hf
  refine Ct.ofV (by decide) (Nat.le_of_ble_eq_true rfl) ?_
  obtain ⟨I11, hk10, hf⟩ := bnd_some hf
  try dsimp only at hf
  refine V.lo [(0, some (.ref (x + 2)))] (by simp only [Subs]; repeat' first | exact trivial | constructor | rfl) (l_rd_takeToken_0 hx ht _ F _ hk10 ?_)
  try dsimp only
  refine V.aload_n dX7_takeToken_52 rfl ?_
  refine V.aload_n dX7_takeToken_53 rfl ?_
  refine V.getf fl_X7_32 dX7_takeToken_54 (hx.1 2 (7, 0) rfl) (by decide) rfl ?_
  refine V.putiE fl_X7_65 dX7_takeToken_57 (hx.1 2 (7, 0) rfl) (by decide) (fun h => by cases h) rfl rfl rfl (Nat.le_of_ble_eq_true rfl) (fun I12 e13 => ?_)
  rw [← e13] at hf
  try dsimp only at hf
  clear e13
  refine V.aload_n dX7_takeToken_60 rfl ?_
  refine V.getf fl_X7_65 dX7_takeToken_61 (hx.1 2 (7, 0) rfl) (by decide) rfl ?_
  refine V.aload_n dX7_takeToken_64 rfl ?_
  refine V.getf fl_X7_29 dX7_takeToken_65 (hx.1 2 (7, 0) rfl) (by decide) rfl ?_
  refine V.icmp_lt 79 dX7_takeToken_68 (by decide) (fun c14 => ?_) (fun c14 => ?_)
  · rw [if_pos c14] at hf
    refine V.aload_n dX7_takeToken_79 rfl ?_
    refine V.getr fl_X7_19 dX7_takeToken_80 (hx.1 2 (7, 0) rfl) ht (by decide) rfl ?_
    refine V.aload_n dX7_takeToken_83 rfl ?_
    refine V.getf fl_X7_65 dX7_takeToken_84 (hx.1 2 (7, 0) rfl) (by decide) rfl ?_
    obtain ⟨hb15, hf⟩ := chk_some hf
    refine V.bald dX7_takeToken_87 (hx.1 1 (21, 900) rfl) hb15 ?_
    refine V.ins cs_X7_71 (c_rd_isLetter) dX7_takeToken_88 rfl rfl (Nat.le_of_ble_eq_true rfl) (by decide) (by decide) (Nat.le_refl _) (Nat.le_refl _) (fun _ _ hq => ?_)
    obtain ⟨rfl, rfl⟩ := hq
    refine V.if_eq 153 dX7_takeToken_91 (by decide) (fun c16 => ?_) (fun c16 => ?_)
    · rw [if_pos c16] at hf
      refine V.aload_n dX7_takeToken_153 rfl ?_
      refine V.getr fl_X7_19 dX7_takeToken_154 (hx.1 2 (7, 0) rfl) ht (by decide) rfl ?_
      refine V.aload_n dX7_takeToken_157 rfl ?_
      refine V.getf fl_X7_65 dX7_takeToken_158 (hx.1 2 (7, 0) rfl) (by decide) rfl ?_
      refine V.bald dX7_takeToken_161 (hx.1 1 (21, 900) rfl) hb15 ?_
      refine V.ins cs_X7_78 (c_rd_isDigit) dX7_takeToken_162 rfl rfl (Nat.le_of_ble_eq_true rfl) (by decide) (by decide) (Nat.le_refl _) (Nat.le_refl _) (fun _ _ hq => ?_)
      obtain ⟨rfl, rfl⟩ := hq
      refine V.if_eq 240 dX7_takeToken_165 (by decide) (fun c17 => ?_) (fun c17 => ?_)
      · rw [if_pos c17] at hf
        refine V.aload_n dX7_takeToken_240 rfl ?_
        refine V.dup dX7_takeToken_241 rfl ?_
        refine V.getf fl_X7_32 dX7_takeToken_242 (hx.1 2 (7, 0) rfl) (by decide) rfl ?_
        refine V.iconst (v := 1) dX7_takeToken_245 (by decide) ?_
        refine V.iadd dX7_takeToken_246 ?_
        refine V.putiE fl_X7_32 dX7_takeToken_247 (hx.1 2 (7, 0) rfl) (by decide) (fun h => by cases h) rfl rfl rfl (Nat.le_of_ble_eq_true rfl) (fun I18 e19 => ?_)
        rw [← e19] at hf
        try dsimp only at hf
        clear e19
        refine V.aload_n dX7_takeToken_250 rfl ?_
        refine V.getr fl_X7_19 dX7_takeToken_251 (hx.1 2 (7, 0) rfl) ht (by decide) rfl ?_
        refine V.aload_n dX7_takeToken_254 rfl ?_
        refine V.getf fl_X7_65 dX7_takeToken_255 (hx.1 2 (7, 0) rfl) (by decide) rfl ?_
        obtain ⟨hb20, hf⟩ := chk_some hf
        refine V.bald dX7_takeToken_258 (hx.1 1 (21, 900) rfl) hb20 ?_
        refine V.sipush (v := 255) dX7_takeToken_259 (by decide) ?_
        refine V.iand dX7_takeToken_262 ?_
        refine V.i2c dX7_takeToken_263 ?_
        refine V.istore_n dX7_takeToken_264 rfl (by decide) (by first | exact rfl | exact trivial) ?_
        obtain ⟨x21, e22⟩ : ∃ zz_, zz_ = ((Int32.toUInt32 ((I18 (x + 1) (Int32.toNatClampNeg (I18 (x + 2) 4))) &&& 255) % 65536).toInt32) := ⟨_, rfl⟩
        rw [← e22] at hf ⊢
        try dsimp only at hf
        refine V.aload_n dX7_takeToken_265 rfl ?_
        refine V.ldcS (sk := 1) ss1 dX7_takeToken_266 ?_
        refine V.iload_n dX7_takeToken_268 rfl ?_
        obtain ⟨u25, hk24, hf⟩ := bnd_some hf
        try dsimp only at hf
        refine V.invS ss1 cv_X7_90 (c_js_indexOf ss1 hk24) dX7_takeToken_269 rfl rfl rfl (Nat.le_of_ble_eq_true rfl) (by decide) (by decide) (Nat.le_refl _) (Nat.le_refl _) (fun _ _ hq => ?_)
        obtain ⟨rfl, rfl⟩ := hq
        refine V.if_lt 279 dX7_takeToken_272 (by decide) (fun c26 => ?_) (fun c26 => ?_)
        · rw [if_pos c26] at hf
          refine V.iconst (v := -1) dX7_takeToken_279 (by decide) ?_
          refine V.putiE fl_X7_56 dX7_takeToken_280 (hx.1 2 (7, 0) rfl) (by decide) (fun h => by cases h) rfl rfl rfl (Nat.le_of_ble_eq_true rfl) (fun I27 e28 => ?_)
          rw [← e28] at hf
          try dsimp only at hf
          clear e28
          refine V.aload_n dX7_takeToken_283 rfl ?_
          refine V.getf fl_X7_56 dX7_takeToken_284 (hx.1 2 (7, 0) rfl) (by decide) rfl ?_
          refine V.iconst (v := -1) dX7_takeToken_287 (by decide) ?_
          refine V.icmp_ne 297 dX7_takeToken_288 (by decide) (fun c29 => ?_) (fun c29 => ?_)
          · rw [if_neg c29] at hf
            obtain rfl := Option.some.inj hf
            exact V.vret dX7_takeToken_297 rfl (Nat.le_refl _) (Nat.le_refl _) ⟨rfl, rfl⟩
          · rw [if_pos c29] at hf
            refine V.aload_n dX7_takeToken_291 rfl ?_
            refine V.iconst (v := 1) dX7_takeToken_292 (by decide) ?_
            obtain ⟨⟨u32, I33⟩, hk31, hf⟩ := bnd_some hf
            try dsimp only at hf
            refine V.inv cv_X7_68 (c_rd_refuse hx hk31) dX7_takeToken_293 (hx.1 2 (7, 0) rfl) (by decide) rfl rfl rfl (Nat.le_of_ble_eq_true rfl) (by decide) (by decide) (Nat.le_refl _) (Nat.le_refl _) (fun _ _ hq => ?_)
            obtain ⟨rfl, rfl⟩ := hq
            try dsimp only
            refine V.pop dX7_takeToken_296 rfl ?_
            obtain rfl := Option.some.inj hf
            exact V.vret dX7_takeToken_297 rfl (Nat.le_refl _) (Nat.le_refl _) ⟨rfl, rfl⟩
        · rw [if_neg c26] at hf
          refine V.iload_n dX7_takeToken_275 rfl ?_
          refine V.goto 280 dX7_takeToken_276 (by decide) ?_
          refine V.putiE fl_X7_56 dX7_takeToken_280 (hx.1 2 (7, 0) rfl) (by decide) (fun h => by cases h) rfl rfl rfl (Nat.le_of_ble_eq_true rfl) (fun I34 e35 => ?_)
          rw [← e35] at hf
          try dsimp only at hf
          clear e35
          refine V.aload_n dX7_takeToken_283 rfl ?_
          refine V.getf fl_X7_56 dX7_takeToken_284 (hx.1 2 (7, 0) rfl) (by decide) rfl ?_
          refine V.iconst (v := -1) dX7_takeToken_287 (by decide) ?_
          refine V.icmp_ne 297 dX7_takeToken_288 (by decide) (fun c36 => ?_) (fun c36 => ?_)
          · rw [if_neg c36] at hf
            obtain rfl := Option.some.inj hf
            exact V.vret dX7_takeToken_297 rfl (Nat.le_refl _) (Nat.le_refl _) ⟨rfl, rfl⟩
          · rw [if_pos c36] at hf
            refine V.aload_n dX7_takeToken_291 rfl ?_
            refine V.iconst (v := 1) dX7_takeToken_292 (by decide) ?_
            obtain ⟨⟨u39, I40⟩, hk38, hf⟩ := bnd_some hf
            try dsimp only at hf
            refine V.inv cv_X7_68 (c_rd_refuse hx hk38) dX7_takeToken_293 (hx.1 2 (7, 0) rfl) (by decide) rfl rfl rfl (Nat.le_of_ble_eq_true rfl) (by decide) (by decide) (Nat.le_refl _) (Nat.le_refl _) (fun _ _ hq => ?_)
            obtain ⟨rfl, rfl⟩ := hq
            try dsimp only
            refine V.pop dX7_takeToken_296 rfl ?_
            obtain rfl := Option.some.inj hf
            exact V.vret dX7_takeToken_297 rfl (Nat.le_refl _) (Nat.le_refl _) ⟨rfl, rfl⟩
      · rw [if_neg c17] at hf
        obtain ⟨I48, hk47, hf⟩ := bnd_some hf
        try dsimp only at hf
        refine V.lo [(0, some (.ref (x + 2)))] (by simp only [Subs]; repeat' first | exact trivial | constructor | rfl) (l_rd_takeToken_168 hx ht _ F _ hk47 ?_)
        try dsimp only
        refine V.aload_n dX7_takeToken_207 rfl ?_
        refine V.aload_n dX7_takeToken_208 rfl ?_
        refine V.getf fl_X7_32 dX7_takeToken_209 (hx.1 2 (7, 0) rfl) (by decide) rfl ?_
        refine V.aload_n dX7_takeToken_212 rfl ?_
        refine V.getf fl_X7_65 dX7_takeToken_213 (hx.1 2 (7, 0) rfl) (by decide) rfl ?_
        refine V.isub dX7_takeToken_216 ?_
        refine V.iconst (v := 3) dX7_takeToken_217 (by decide) ?_
        refine V.icmp_le 225 dX7_takeToken_218 (by decide) (fun c49 => ?_) (fun c49 => ?_)
        · rw [if_pos c49] at hf
          refine V.iconst (v := 1) dX7_takeToken_225 (by decide) ?_
          refine V.putiE fl_X7_56 dX7_takeToken_226 (hx.1 2 (7, 0) rfl) (by decide) (fun h => by cases h) rfl rfl rfl (Nat.le_of_ble_eq_true rfl) (fun I50 e51 => ?_)
          rw [← e51] at hf
          try dsimp only at hf
          clear e51
          refine V.aload_n dX7_takeToken_229 rfl ?_
          refine V.aload_n dX7_takeToken_230 rfl ?_
          obtain ⟨u54, hk53, hf⟩ := bnd_some hf
          try dsimp only at hf
          refine V.inv cv_X7_81 (c_rd_numberTold hx ht hk53) dX7_takeToken_231 (hx.1 2 (7, 0) rfl) (by decide) rfl rfl rfl (Nat.le_of_ble_eq_true rfl) (by decide) (by decide) (Nat.le_refl _) (Nat.le_refl _) (fun _ _ hq => ?_)
          obtain ⟨rfl, rfl⟩ := hq
          refine V.putiE fl_X7_85 dX7_takeToken_234 (hx.1 2 (7, 0) rfl) (by decide) (fun h => by cases h) rfl rfl rfl (Nat.le_of_ble_eq_true rfl) (fun I55 e56 => ?_)
          rw [← e56] at hf
          try dsimp only at hf
          clear e56
          refine V.goto 283 dX7_takeToken_237 (by decide) ?_
          refine V.aload_n dX7_takeToken_283 rfl ?_
          refine V.getf fl_X7_56 dX7_takeToken_284 (hx.1 2 (7, 0) rfl) (by decide) rfl ?_
          refine V.iconst (v := -1) dX7_takeToken_287 (by decide) ?_
          refine V.icmp_ne 297 dX7_takeToken_288 (by decide) (fun c57 => ?_) (fun c57 => ?_)
          · rw [if_neg c57] at hf
            obtain rfl := Option.some.inj hf
            exact V.vret dX7_takeToken_297 rfl (Nat.le_refl _) (Nat.le_refl _) ⟨rfl, rfl⟩
          · rw [if_pos c57] at hf
            refine V.aload_n dX7_takeToken_291 rfl ?_
            refine V.iconst (v := 1) dX7_takeToken_292 (by decide) ?_
            obtain ⟨⟨u60, I61⟩, hk59, hf⟩ := bnd_some hf
            try dsimp only at hf
            refine V.inv cv_X7_68 (c_rd_refuse hx hk59) dX7_takeToken_293 (hx.1 2 (7, 0) rfl) (by decide) rfl rfl rfl (Nat.le_of_ble_eq_true rfl) (by decide) (by decide) (Nat.le_refl _) (Nat.le_refl _) (fun _ _ hq => ?_)
            obtain ⟨rfl, rfl⟩ := hq
            try dsimp only
            refine V.pop dX7_takeToken_296 rfl ?_
            obtain rfl := Option.some.inj hf
            exact V.vret dX7_takeToken_297 rfl (Nat.le_refl _) (Nat.le_refl _) ⟨rfl, rfl⟩
        · rw [if_neg c49] at hf
          refine V.iconst (v := -1) dX7_takeToken_221 (by decide) ?_
          refine V.goto 226 dX7_takeToken_222 (by decide) ?_
          refine V.putiE fl_X7_56 dX7_takeToken_226 (hx.1 2 (7, 0) rfl) (by decide) (fun h => by cases h) rfl rfl rfl (Nat.le_of_ble_eq_true rfl) (fun I62 e63 => ?_)
          rw [← e63] at hf
          try dsimp only at hf
          clear e63
          refine V.aload_n dX7_takeToken_229 rfl ?_
          refine V.aload_n dX7_takeToken_230 rfl ?_
          obtain ⟨u66, hk65, hf⟩ := bnd_some hf
          try dsimp only at hf
          refine V.inv cv_X7_81 (c_rd_numberTold hx ht hk65) dX7_takeToken_231 (hx.1 2 (7, 0) rfl) (by decide) rfl rfl rfl (Nat.le_of_ble_eq_true rfl) (by decide) (by decide) (Nat.le_refl _) (Nat.le_refl _) (fun _ _ hq => ?_)
          obtain ⟨rfl, rfl⟩ := hq
          refine V.putiE fl_X7_85 dX7_takeToken_234 (hx.1 2 (7, 0) rfl) (by decide) (fun h => by cases h) rfl rfl rfl (Nat.le_of_ble_eq_true rfl) (fun I67 e68 => ?_)
          rw [← e68] at hf
          try dsimp only at hf
          clear e68
          refine V.goto 283 dX7_takeToken_237 (by decide) ?_
          refine V.aload_n dX7_takeToken_283 rfl ?_
          refine V.getf fl_X7_56 dX7_takeToken_284 (hx.1 2 (7, 0) rfl) (by decide) rfl ?_
          refine V.iconst (v := -1) dX7_takeToken_287 (by decide) ?_
          refine V.icmp_ne 297 dX7_takeToken_288 (by decide) (fun c69 => ?_) (fun c69 => ?_)
          · rw [if_neg c69] at hf
            obtain rfl := Option.some.inj hf
            exact V.vret dX7_takeToken_297 rfl (Nat.le_refl _) (Nat.le_refl _) ⟨rfl, rfl⟩
          · rw [if_pos c69] at hf
            refine V.aload_n dX7_takeToken_291 rfl ?_
            refine V.iconst (v := 1) dX7_takeToken_292 (by decide) ?_
            obtain ⟨⟨u72, I73⟩, hk71, hf⟩ := bnd_some hf
            try dsimp only at hf
            refine V.inv cv_X7_68 (c_rd_refuse hx hk71) dX7_takeToken_293 (hx.1 2 (7, 0) rfl) (by decide) rfl rfl rfl (Nat.le_of_ble_eq_true rfl) (by decide) (by decide) (Nat.le_refl _) (Nat.le_refl _) (fun _ _ hq => ?_)
            obtain ⟨rfl, rfl⟩ := hq
            try dsimp only
            refine V.pop dX7_takeToken_296 rfl ?_
            obtain rfl := Option.some.inj hf
            exact V.vret dX7_takeToken_297 rfl (Nat.le_refl _) (Nat.le_refl _) ⟨rfl, rfl⟩
    · rw [if_neg c16] at hf
      obtain ⟨I81, hk80, hf⟩ := bnd_some hf
      try dsimp only at hf
      refine V.lo [(0, some (.ref (x + 2)))] (by simp only [Subs]; repeat' first | exact trivial | constructor | rfl) (l_rd_takeToken_94 hx ht _ F _ hk80 ?_)
      try dsimp only
      refine V.aload_n dX7_takeToken_133 rfl ?_
      refine V.aload_n dX7_takeToken_134 rfl ?_
      refine V.aload_n dX7_takeToken_135 rfl ?_
      refine V.getf fl_X7_32 dX7_takeToken_136 (hx.1 2 (7, 0) rfl) (by decide) rfl ?_
      refine V.aload_n dX7_takeToken_139 rfl ?_
      refine V.getf fl_X7_65 dX7_takeToken_140 (hx.1 2 (7, 0) rfl) (by decide) rfl ?_
      refine V.isub dX7_takeToken_143 ?_
      obtain ⟨u84, hk83, hf⟩ := bnd_some hf
      try dsimp only at hf
      refine V.inv cv_X7_74 (c_rd_kindOfWord hx ht hk83) dX7_takeToken_144 (hx.1 2 (7, 0) rfl) (by decide) rfl rfl rfl (Nat.le_of_ble_eq_true rfl) (by decide) (by decide) (Nat.le_refl _) (Nat.le_refl _) (fun _ _ hq => ?_)
      obtain ⟨rfl, rfl⟩ := hq
      refine V.putiE fl_X7_56 dX7_takeToken_147 (hx.1 2 (7, 0) rfl) (by decide) (fun h => by cases h) rfl rfl rfl (Nat.le_of_ble_eq_true rfl) (fun I85 e86 => ?_)
      rw [← e86] at hf
      try dsimp only at hf
      clear e86
      refine V.goto 283 dX7_takeToken_150 (by decide) ?_
      refine V.aload_n dX7_takeToken_283 rfl ?_
      refine V.getf fl_X7_56 dX7_takeToken_284 (hx.1 2 (7, 0) rfl) (by decide) rfl ?_
      refine V.iconst (v := -1) dX7_takeToken_287 (by decide) ?_
      refine V.icmp_ne 297 dX7_takeToken_288 (by decide) (fun c87 => ?_) (fun c87 => ?_)
      · rw [if_neg c87] at hf
        obtain rfl := Option.some.inj hf
        exact V.vret dX7_takeToken_297 rfl (Nat.le_refl _) (Nat.le_refl _) ⟨rfl, rfl⟩
      · rw [if_pos c87] at hf
        refine V.aload_n dX7_takeToken_291 rfl ?_
        refine V.iconst (v := 1) dX7_takeToken_292 (by decide) ?_
        obtain ⟨⟨u90, I91⟩, hk89, hf⟩ := bnd_some hf
        try dsimp only at hf
        refine V.inv cv_X7_68 (c_rd_refuse hx hk89) dX7_takeToken_293 (hx.1 2 (7, 0) rfl) (by decide) rfl rfl rfl (Nat.le_of_ble_eq_true rfl) (by decide) (by decide) (Nat.le_refl _) (Nat.le_refl _) (fun _ _ hq => ?_)
        obtain ⟨rfl, rfl⟩ := hq
        try dsimp only
        refine V.pop dX7_takeToken_296 rfl ?_
        obtain rfl := Option.some.inj hf
        exact V.vret dX7_takeToken_297 rfl (Nat.le_refl _) (Nat.le_refl _) ⟨rfl, rfl⟩
  · rw [if_neg c14] at hf
    refine V.aload_n dX7_takeToken_71 rfl ?_
    refine V.iconst (v := 0) dX7_takeToken_72 (by decide) ?_
    refine V.putiE fl_X7_56 dX7_takeToken_73 (hx.1 2 (7, 0) rfl) (by decide) (fun h => by cases h) rfl rfl rfl (Nat.le_of_ble_eq_true rfl) (fun I92 e93 => ?_)
    rw [← e93] at hf
    try dsimp only at hf
    clear e93
    refine V.goto 283 dX7_takeToken_76 (by decide) ?_
    refine V.aload_n dX7_takeToken_283 rfl ?_
    refine V.getf fl_X7_56 dX7_takeToken_284 (hx.1 2 (7, 0) rfl) (by decide) rfl ?_
    refine V.iconst (v := -1) dX7_takeToken_287 (by decide) ?_
    refine V.icmp_ne 297 dX7_takeToken_288 (by decide) (fun c94 => ?_) (fun c94 => ?_)
    · rw [if_neg c94] at hf
      obtain rfl := Option.some.inj hf
      exact V.vret dX7_takeToken_297 rfl (Nat.le_refl _) (Nat.le_refl _) ⟨rfl, rfl⟩
    · rw [if_pos c94] at hf
      refine V.aload_n dX7_takeToken_291 rfl ?_
      refine V.iconst (v := 1) dX7_takeToken_292 (by decide) ?_
      obtain ⟨⟨u97, I98⟩, hk96, hf⟩ := bnd_some hf
      try dsimp only at hf
      refine V.inv cv_X7_68 (c_rd_refuse hx hk96) dX7_takeToken_293 (hx.1 2 (7, 0) rfl) (by decide) rfl rfl rfl (Nat.le_of_ble_eq_true rfl) (by decide) (by decide) (Nat.le_refl _) (Nat.le_refl _) (fun _ _ hq => ?_)
      obtain ⟨rfl, rfl⟩ := hq
      try dsimp only
      refine V.pop dX7_takeToken_296 rfl ?_
      obtain rfl := Option.some.inj hf
      exact V.vret dX7_takeToken_297 rfl (Nat.le_refl _) (Nat.le_refl _) ⟨rfl, rfl⟩
theorem dX7_expect_0 : decode cX7_expect 0 = .ok (.aload_n 0, 1) := by decide +kernel
theorem dX7_expect_1 : decode cX7_expect 1 = .ok (.getfield 56, 3) := by decide +kernel
theorem dX7_expect_4 : decode cX7_expect 4 = .ok (.iload_n 1, 1) := by decide +kernel
theorem dX7_expect_5 : decode cX7_expect 5 = .ok (.if_icmp .eq 9, 3) := by decide +kernel
theorem dX7_expect_8 : decode cX7_expect 8 = .ok (.aload_n 0, 1) := by decide +kernel
theorem dX7_expect_9 : decode cX7_expect 9 = .ok (.iconst 2, 1) := by decide +kernel
theorem dX7_expect_10 : decode cX7_expect 10 = .ok (.invokevirtual 68, 3) := by decide +kernel
theorem dX7_expect_13 : decode cX7_expect 13 = .ok (.ireturn, 1) := by decide +kernel
theorem dX7_expect_14 : decode cX7_expect 14 = .ok (.aload_n 0, 1) := by decide +kernel
theorem dX7_expect_15 : decode cX7_expect 15 = .ok (.invokevirtual 45, 3) := by decide +kernel
theorem dX7_expect_18 : decode cX7_expect 18 = .ok (.iconst 1, 1) := by decide +kernel
theorem dX7_expect_19 : decode cX7_expect 19 = .ok (.ireturn, 1) := by decide +kernel
def rd_expect (F : Nat) (I : Nat → Nat → Int32) (x : Nat) (v1 : Int32) : Option (Int32 × (Nat → Nat → Int32)) := if (I (x + 2) 6) = v1 then ((rd_takeToken F I x).bind (fun q2 => let I4 := q2; some (1, I4))) else ((rd_refuse I x 2).bind (fun q5 => let u7 := q5.1; let I8 := q5.2; isb u7 (some (u7, I8))))
theorem c_rd_expect {l : Launch} {D : va_G} {E : Nat → ClassId} {B : Nat → Prop} {n F : Nat} {T : Nat → Option (Nat × Nat)} {I : Nat → Nat → Int32} {J : Nat → Nat → Int64} {P : Nat → Nat → Option Nat} {x : Nat} {v1 : Int32} {r : Int32 × (Nat → Nat → Int32)} (hx : isSR T P x) (ht : P (x + 2) 2 = some (x + 1)) (hf : rd_expect F I x v1 = some r) : Ct l D E B yX7_expect cX7_expect 2 (some .boolean) 6 0 0 [.ref (x + 2), .int v1] (n, T, I, J, P) (Ret (some (.int r.1)) (n, T, r.2, J, P)) := by
  unfold rd_expect at hf
  refine Ct.ofV (by decide) (Nat.le_of_ble_eq_true rfl) ?_
  refine V.aload_n dX7_expect_0 rfl ?_
  refine V.getf fl_X7_56 dX7_expect_1 (hx.1 2 (7, 0) rfl) (by decide) rfl ?_
  refine V.iload_n dX7_expect_4 rfl ?_
  refine V.icmp_eq 14 dX7_expect_5 (by decide) (fun c1 => ?_) (fun c1 => ?_)
  · rw [if_pos c1] at hf
    refine V.aload_n dX7_expect_14 rfl ?_
    obtain ⟨I4, hk3, hf⟩ := bnd_some hf
    try dsimp only at hf
    refine V.inv cv_X7_45 (c_rd_takeToken hx ht hk3) dX7_expect_15 (hx.1 2 (7, 0) rfl) (by decide) rfl rfl rfl (Nat.le_of_ble_eq_true rfl) (by decide) (by decide) (Nat.le_refl _) (Nat.le_refl _) (fun _ _ hq => ?_)
    obtain ⟨rfl, rfl⟩ := hq
    refine V.iconst (v := 1) dX7_expect_18 (by decide) ?_
    obtain rfl := Option.some.inj hf
    exact V.zret dX7_expect_19 rfl rfl (Nat.le_refl _) (Nat.le_refl _) ⟨rfl, rfl⟩
  · rw [if_neg c1] at hf
    refine V.aload_n dX7_expect_8 rfl ?_
    refine V.iconst (v := 2) dX7_expect_9 (by decide) ?_
    obtain ⟨⟨u7, I8⟩, hk6, hf⟩ := bnd_some hf
    try dsimp only at hf
    refine V.inv cv_X7_68 (c_rd_refuse hx hk6) dX7_expect_10 (hx.1 2 (7, 0) rfl) (by decide) rfl rfl rfl (Nat.le_of_ble_eq_true rfl) (by decide) (by decide) (Nat.le_refl _) (Nat.le_refl _) (fun _ _ hq => ?_)
    obtain ⟨rfl, rfl⟩ := hq
    try dsimp only
    obtain ⟨hn9, hf⟩ := isb_some hf
    obtain rfl := Option.some.inj hf
    exact V.zret dX7_expect_13 rfl hn9 (Nat.le_refl _) (Nat.le_refl _) ⟨rfl, rfl⟩
theorem dX7_endOfLine_0 : decode cX7_endOfLine 0 = .ok (.aload_n 0, 1) := by decide +kernel
theorem dX7_endOfLine_1 : decode cX7_endOfLine 1 = .ok (.getfield 41, 3) := by decide +kernel
theorem dX7_endOfLine_4 : decode cX7_endOfLine 4 = .ok (.dup, 1) := by decide +kernel
theorem dX7_endOfLine_5 : decode cX7_endOfLine 5 = .ok (.getfield 62, 3) := by decide +kernel
theorem dX7_endOfLine_8 : decode cX7_endOfLine 8 = .ok (.iconst 1, 1) := by decide +kernel
theorem dX7_endOfLine_9 : decode cX7_endOfLine 9 = .ok (.iadd, 1) := by decide +kernel
theorem dX7_endOfLine_10 : decode cX7_endOfLine 10 = .ok (.putfield 62, 3) := by decide +kernel
theorem dX7_endOfLine_13 : decode cX7_endOfLine 13 = .ok (.aload_n 0, 1) := by decide +kernel
theorem dX7_endOfLine_14 : decode cX7_endOfLine 14 = .ok (.bipush 59, 2) := by decide +kernel
theorem dX7_endOfLine_16 : decode cX7_endOfLine 16 = .ok (.invokevirtual 48, 3) := by decide +kernel
theorem dX7_endOfLine_19 : decode cX7_endOfLine 19 = .ok (.ireturn, 1) := by decide +kernel
def rd_endOfLine (F : Nat) (I : Nat → Nat → Int32) (x : Nat) (c : Nat) : Option (Int32 × (Nat → Nat → Int32)) := let I1 := uI I c 3 ((I c 3) + 1); (rd_expect F I1 x 59).bind (fun q3 => let u5 := q3.1; let I6 := q3.2; isb u5 (some (u5, I6)))
theorem c_rd_endOfLine {l : Launch} {D : va_G} {E : Nat → ClassId} {B : Nat → Prop} {n F : Nat} {T : Nat → Option (Nat × Nat)} {I : Nat → Nat → Int32} {J : Nat → Nat → Int64} {P : Nat → Nat → Option Nat} {x : Nat} {c : Nat}  {r : Int32 × (Nat → Nat → Int32)} (hx : isSR T P x) (hs_c : isCt T P c) (hdr : P (x + 2) 8 = some c) (ht : P (x + 2) 2 = some (x + 1)) (hf : rd_endOfLine F I x c = some r) : Ct l D E B yX7_endOfLine cX7_endOfLine 1 (some .boolean) 7 0 0 [.ref (x + 2)] (n, T, I, J, P) (Ret (some (.int r.1)) (n, T, r.2, J, P)) := by
  unfold rd_endOfLine at hf
  refine Ct.ofV (by decide) (Nat.le_of_ble_eq_true rfl) ?_
  refine V.aload_n dX7_endOfLine_0 rfl ?_
  refine V.getr fl_X7_41 dX7_endOfLine_1 (hx.1 2 (7, 0) rfl) hdr (by decide) rfl ?_
  refine V.dup dX7_endOfLine_4 rfl ?_
  refine V.getf fl_X7_62 dX7_endOfLine_5 (hs_c.1.1 0 (1, 0) rfl) (by decide) rfl ?_
  refine V.iconst (v := 1) dX7_endOfLine_8 (by decide) ?_
  refine V.iadd dX7_endOfLine_9 ?_
  refine V.putiE fl_X7_62 dX7_endOfLine_10 (hs_c.1.1 0 (1, 0) rfl) (by decide) (fun h => by cases h) rfl rfl rfl (Nat.le_of_ble_eq_true rfl) (fun I1 e2 => ?_)
  rw [← e2] at hf
  try dsimp only at hf
  clear e2
  refine V.aload_n dX7_endOfLine_13 rfl ?_
  refine V.bipush (v := 59) dX7_endOfLine_14 (by decide) ?_
  obtain ⟨⟨u5, I6⟩, hk4, hf⟩ := bnd_some hf
  try dsimp only at hf
  refine V.inv cv_X7_48 (c_rd_expect hx ht hk4) dX7_endOfLine_16 (hx.1 2 (7, 0) rfl) (by decide) rfl rfl rfl (Nat.le_of_ble_eq_true rfl) (by decide) (by decide) (Nat.le_refl _) (Nat.le_refl _) (fun _ _ hq => ?_)
  obtain ⟨rfl, rfl⟩ := hq
  try dsimp only
  obtain ⟨hn7, hf⟩ := isb_some hf
  obtain rfl := Option.some.inj hf
  exact V.zret dX7_endOfLine_19 rfl hn7 (Nat.le_refl _) (Nat.le_refl _) ⟨rfl, rfl⟩
theorem dX7_isNUpTo_0 : decode cX7_isNUpTo 0 = .ok (.aload_n 0, 1) := by decide +kernel
theorem dX7_isNUpTo_1 : decode cX7_isNUpTo 1 = .ok (.getfield 56, 3) := by decide +kernel
theorem dX7_isNUpTo_4 : decode cX7_isNUpTo 4 = .ok (.iconst 1, 1) := by decide +kernel
theorem dX7_isNUpTo_5 : decode cX7_isNUpTo 5 = .ok (.if_icmp .eq 9, 3) := by decide +kernel
theorem dX7_isNUpTo_8 : decode cX7_isNUpTo 8 = .ok (.aload_n 0, 1) := by decide +kernel
theorem dX7_isNUpTo_9 : decode cX7_isNUpTo 9 = .ok (.iconst 2, 1) := by decide +kernel
theorem dX7_isNUpTo_10 : decode cX7_isNUpTo 10 = .ok (.invokevirtual 68, 3) := by decide +kernel
theorem dX7_isNUpTo_13 : decode cX7_isNUpTo 13 = .ok (.ireturn, 1) := by decide +kernel
theorem dX7_isNUpTo_14 : decode cX7_isNUpTo 14 = .ok (.aload_n 0, 1) := by decide +kernel
theorem dX7_isNUpTo_15 : decode cX7_isNUpTo 15 = .ok (.getfield 85, 3) := by decide +kernel
theorem dX7_isNUpTo_18 : decode cX7_isNUpTo 18 = .ok (.iload_n 1, 1) := by decide +kernel
theorem dX7_isNUpTo_19 : decode cX7_isNUpTo 19 = .ok (.if_icmp .le 11, 3) := by decide +kernel
theorem dX7_isNUpTo_22 : decode cX7_isNUpTo 22 = .ok (.aload_n 0, 1) := by decide +kernel
theorem dX7_isNUpTo_23 : decode cX7_isNUpTo 23 = .ok (.iconst 3, 1) := by decide +kernel
theorem dX7_isNUpTo_24 : decode cX7_isNUpTo 24 = .ok (.invokevirtual 68, 3) := by decide +kernel
theorem dX7_isNUpTo_27 : decode cX7_isNUpTo 27 = .ok (.ifCond .eq 7, 3) := by decide +kernel
theorem dX7_isNUpTo_30 : decode cX7_isNUpTo 30 = .ok (.iconst 1, 1) := by decide +kernel
theorem dX7_isNUpTo_31 : decode cX7_isNUpTo 31 = .ok (.goto 4, 3) := by decide +kernel
theorem dX7_isNUpTo_34 : decode cX7_isNUpTo 34 = .ok (.iconst 0, 1) := by decide +kernel
theorem dX7_isNUpTo_35 : decode cX7_isNUpTo 35 = .ok (.ireturn, 1) := by decide +kernel
def rd_isNUpTo (I : Nat → Nat → Int32) (x : Nat) (v1 : Int32) : Option (Int32 × (Nat → Nat → Int32)) := if (I (x + 2) 6) = 1 then (if (I (x + 2) 7) ≤ v1 then (some (1, I)) else ((rd_refuse I x 3).bind (fun q3 => let u5 := q3.1; let I6 := q3.2; if u5 = 0 then (some (0, I6)) else (some (1, I6))))) else ((rd_refuse I x 2).bind (fun q8 => let u10 := q8.1; let I11 := q8.2; isb u10 (some (u10, I11))))
theorem c_rd_isNUpTo {l : Launch} {D : va_G} {E : Nat → ClassId} {B : Nat → Prop} {n : Nat} {T : Nat → Option (Nat × Nat)} {I : Nat → Nat → Int32} {J : Nat → Nat → Int64} {P : Nat → Nat → Option Nat} {x : Nat} {v1 : Int32} {r : Int32 × (Nat → Nat → Int32)} (hx : isSR T P x) (hf : rd_isNUpTo I x v1 = some r) : Ct l D E B yX7_isNUpTo cX7_isNUpTo 2 (some .boolean) 1 0 0 [.ref (x + 2), .int v1] (n, T, I, J, P) (Ret (some (.int r.1)) (n, T, r.2, J, P)) := by
  unfold rd_isNUpTo at hf
  refine Ct.ofV (by decide) (Nat.le_of_ble_eq_true rfl) ?_
  refine V.aload_n dX7_isNUpTo_0 rfl ?_
  refine V.getf fl_X7_56 dX7_isNUpTo_1 (hx.1 2 (7, 0) rfl) (by decide) rfl ?_
  refine V.iconst (v := 1) dX7_isNUpTo_4 (by decide) ?_
  refine V.icmp_eq 14 dX7_isNUpTo_5 (by decide) (fun c1 => ?_) (fun c1 => ?_)
  · rw [if_pos c1] at hf
    refine V.aload_n dX7_isNUpTo_14 rfl ?_
    refine V.getf fl_X7_85 dX7_isNUpTo_15 (hx.1 2 (7, 0) rfl) (by decide) rfl ?_
    refine V.iload_n dX7_isNUpTo_18 rfl ?_
    refine V.icmp_le 30 dX7_isNUpTo_19 (by decide) (fun c2 => ?_) (fun c2 => ?_)
    · rw [if_pos c2] at hf
      refine V.iconst (v := 1) dX7_isNUpTo_30 (by decide) ?_
      refine V.goto 35 dX7_isNUpTo_31 (by decide) ?_
      obtain rfl := Option.some.inj hf
      exact V.zret dX7_isNUpTo_35 rfl rfl (Nat.le_refl _) (Nat.le_refl _) ⟨rfl, rfl⟩
    · rw [if_neg c2] at hf
      refine V.aload_n dX7_isNUpTo_22 rfl ?_
      refine V.iconst (v := 3) dX7_isNUpTo_23 (by decide) ?_
      obtain ⟨⟨u5, I6⟩, hk4, hf⟩ := bnd_some hf
      try dsimp only at hf
      refine V.inv cv_X7_68 (c_rd_refuse hx hk4) dX7_isNUpTo_24 (hx.1 2 (7, 0) rfl) (by decide) rfl rfl rfl (Nat.le_of_ble_eq_true rfl) (by decide) (by decide) (Nat.le_refl _) (Nat.le_refl _) (fun _ _ hq => ?_)
      obtain ⟨rfl, rfl⟩ := hq
      try dsimp only
      refine V.if_eq 34 dX7_isNUpTo_27 (by decide) (fun c7 => ?_) (fun c7 => ?_)
      · rw [if_pos c7] at hf
        refine V.iconst (v := 0) dX7_isNUpTo_34 (by decide) ?_
        obtain rfl := Option.some.inj hf
        exact V.zret dX7_isNUpTo_35 rfl rfl (Nat.le_refl _) (Nat.le_refl _) ⟨rfl, rfl⟩
      · rw [if_neg c7] at hf
        refine V.iconst (v := 1) dX7_isNUpTo_30 (by decide) ?_
        refine V.goto 35 dX7_isNUpTo_31 (by decide) ?_
        obtain rfl := Option.some.inj hf
        exact V.zret dX7_isNUpTo_35 rfl rfl (Nat.le_refl _) (Nat.le_refl _) ⟨rfl, rfl⟩
  · rw [if_neg c1] at hf
    refine V.aload_n dX7_isNUpTo_8 rfl ?_
    refine V.iconst (v := 2) dX7_isNUpTo_9 (by decide) ?_
    obtain ⟨⟨u10, I11⟩, hk9, hf⟩ := bnd_some hf
    try dsimp only at hf
    refine V.inv cv_X7_68 (c_rd_refuse hx hk9) dX7_isNUpTo_10 (hx.1 2 (7, 0) rfl) (by decide) rfl rfl rfl (Nat.le_of_ble_eq_true rfl) (by decide) (by decide) (Nat.le_refl _) (Nat.le_refl _) (fun _ _ hq => ?_)
    obtain ⟨rfl, rfl⟩ := hq
    try dsimp only
    obtain ⟨hn12, hf⟩ := isb_some hf
    obtain rfl := Option.some.inj hf
    exact V.zret dX7_isNUpTo_13 rfl hn12 (Nat.le_refl _) (Nat.le_refl _) ⟨rfl, rfl⟩
theorem dX7_emit_0 : decode cX7_emit 0 = .ok (.aload_n 0, 1) := by decide +kernel
theorem dX7_emit_1 : decode cX7_emit 1 = .ok (.getfield 118, 3) := by decide +kernel
theorem dX7_emit_4 : decode cX7_emit 4 = .ok (.istore_n 3, 1) := by decide +kernel
theorem dX7_emit_5 : decode cX7_emit 5 = .ok (.aload_n 0, 1) := by decide +kernel
theorem dX7_emit_6 : decode cX7_emit 6 = .ok (.getfield 118, 3) := by decide +kernel
theorem dX7_emit_9 : decode cX7_emit 9 = .ok (.aload_n 0, 1) := by decide +kernel
theorem dX7_emit_10 : decode cX7_emit 10 = .ok (.getfield 15, 3) := by decide +kernel
theorem dX7_emit_13 : decode cX7_emit 13 = .ok (.arraylength, 1) := by decide +kernel
theorem dX7_emit_14 : decode cX7_emit 14 = .ok (.if_icmp .ge 27, 3) := by decide +kernel
theorem dX7_emit_17 : decode cX7_emit 17 = .ok (.aload_n 0, 1) := by decide +kernel
theorem dX7_emit_18 : decode cX7_emit 18 = .ok (.getfield 15, 3) := by decide +kernel
theorem dX7_emit_21 : decode cX7_emit 21 = .ok (.aload_n 0, 1) := by decide +kernel
theorem dX7_emit_22 : decode cX7_emit 22 = .ok (.getfield 118, 3) := by decide +kernel
theorem dX7_emit_25 : decode cX7_emit 25 = .ok (.iload_n 1, 1) := by decide +kernel
theorem dX7_emit_26 : decode cX7_emit 26 = .ok (.iload_n 2, 1) := by decide +kernel
theorem dX7_emit_27 : decode cX7_emit 27 = .ok (.invokestatic 164, 3) := by decide +kernel
theorem dX7_emit_30 : decode cX7_emit 30 = .ok (.iastore, 1) := by decide +kernel
theorem dX7_emit_31 : decode cX7_emit 31 = .ok (.aload_n 0, 1) := by decide +kernel
theorem dX7_emit_32 : decode cX7_emit 32 = .ok (.dup, 1) := by decide +kernel
theorem dX7_emit_33 : decode cX7_emit 33 = .ok (.getfield 118, 3) := by decide +kernel
theorem dX7_emit_36 : decode cX7_emit 36 = .ok (.iconst 1, 1) := by decide +kernel
theorem dX7_emit_37 : decode cX7_emit 37 = .ok (.iadd, 1) := by decide +kernel
theorem dX7_emit_38 : decode cX7_emit 38 = .ok (.putfield 118, 3) := by decide +kernel
theorem dX7_emit_41 : decode cX7_emit 41 = .ok (.iload_n 3, 1) := by decide +kernel
theorem dX7_emit_42 : decode cX7_emit 42 = .ok (.ireturn, 1) := by decide +kernel
def rd_emit (I : Nat → Nat → Int32) (x : Nat) (v1 : Int32) (v2 : Int32) : Option (Int32 × (Nat → Nat → Int32)) := let x1 := (I (x + 2) 10); if (nI 900) ≤ x1 then (some (x1, I)) else (chk x1 900 (let I5 := uI I (x + 3) (Int32.toNatClampNeg x1) (w_step v1 v2); let I7 := uI I5 (x + 2) 10 ((I5 (x + 2) 10) + 1); some (x1, I7)))
theorem c_rd_emit {l : Launch} {D : va_G} {E : Nat → ClassId} {B : Nat → Prop} {n : Nat} {T : Nat → Option (Nat × Nat)} {I : Nat → Nat → Int32} {J : Nat → Nat → Int64} {P : Nat → Nat → Option Nat} {x : Nat} {v1 : Int32} {v2 : Int32} {r : Int32 × (Nat → Nat → Int32)} (hx : isSR T P x) (hf : rd_emit I x v1 v2 = some r) : Ct l D E B yX7_emit cX7_emit 4 (some .int) 1 0 0 [.ref (x + 2), .int v1, .int v2] (n, T, I, J, P) (Ret (some (.int r.1)) (n, T, r.2, J, P)) := by
  unfold rd_emit at hf
  refine Ct.ofV (by decide) (Nat.le_of_ble_eq_true rfl) ?_
  refine V.aload_n dX7_emit_0 rfl ?_
  refine V.getf fl_X7_118 dX7_emit_1 (hx.1 2 (7, 0) rfl) (by decide) rfl ?_
  refine V.istore_n dX7_emit_4 rfl (by decide) (by first | exact rfl | exact trivial) ?_
  obtain ⟨x1, e2⟩ : ∃ zz_, zz_ = (I (x + 2) 10) := ⟨_, rfl⟩
  rw [← e2] at hf ⊢
  try dsimp only at hf
  refine V.aload_n dX7_emit_5 rfl ?_
  refine V.getf fl_X7_118 dX7_emit_6 (hx.1 2 (7, 0) rfl) (by decide) rfl ?_
  rw [← e2]
  refine V.aload_n dX7_emit_9 rfl ?_
  refine V.getr fl_X7_15 dX7_emit_10 (hx.1 2 (7, 0) rfl) (hx.2.1 2 9 3 rfl) (by decide) rfl ?_
  refine V.alen dX7_emit_13 (hx.1 3 (20, 900) rfl) (by decide) ?_
  refine V.icmp_ge 41 dX7_emit_14 (by decide) (fun c3 => ?_) (fun c3 => ?_)
  · rw [if_pos c3] at hf
    refine V.iload_n dX7_emit_41 rfl ?_
    obtain rfl := Option.some.inj hf
    exact V.iret dX7_emit_42 rfl (Nat.le_refl _) (Nat.le_refl _) ⟨rfl, rfl⟩
  · rw [if_neg c3] at hf
    refine V.aload_n dX7_emit_17 rfl ?_
    refine V.getr fl_X7_15 dX7_emit_18 (hx.1 2 (7, 0) rfl) (hx.2.1 2 9 3 rfl) (by decide) rfl ?_
    refine V.aload_n dX7_emit_21 rfl ?_
    refine V.getf fl_X7_118 dX7_emit_22 (hx.1 2 (7, 0) rfl) (by decide) rfl ?_
    rw [← e2]
    refine V.iload_n dX7_emit_25 rfl ?_
    refine V.iload_n dX7_emit_26 rfl ?_
    refine V.ins cs_X7_164 (c_w_step) dX7_emit_27 rfl rfl (Nat.le_of_ble_eq_true rfl) (by decide) (by decide) (Nat.le_refl _) (Nat.le_refl _) (fun _ _ hq => ?_)
    obtain ⟨rfl, rfl⟩ := hq
    obtain ⟨hb4, hf⟩ := chk_some hf
    refine V.iastE dX7_emit_30 (hx.1 3 (20, 900) rfl) hb4 (fun I5 e6 => ?_)
    rw [← e6] at hf
    try dsimp only at hf
    clear e6
    refine V.aload_n dX7_emit_31 rfl ?_
    refine V.dup dX7_emit_32 rfl ?_
    refine V.getf fl_X7_118 dX7_emit_33 (hx.1 2 (7, 0) rfl) (by decide) rfl ?_
    refine V.iconst (v := 1) dX7_emit_36 (by decide) ?_
    refine V.iadd dX7_emit_37 ?_
    refine V.putiE fl_X7_118 dX7_emit_38 (hx.1 2 (7, 0) rfl) (by decide) (fun h => by cases h) rfl rfl rfl (Nat.le_of_ble_eq_true rfl) (fun I7 e8 => ?_)
    rw [← e8] at hf
    try dsimp only at hf
    clear e8
    refine V.iload_n dX7_emit_41 rfl ?_
    obtain rfl := Option.some.inj hf
    exact V.iret dX7_emit_42 rfl (Nat.le_refl _) (Nat.le_refl _) ⟨rfl, rfl⟩
theorem dX7_aimHere_0 : decode cX7_aimHere 0 = .ok (.iload_n 1, 1) := by decide +kernel
theorem dX7_aimHere_1 : decode cX7_aimHere 1 = .ok (.aload_n 0, 1) := by decide +kernel
theorem dX7_aimHere_2 : decode cX7_aimHere 2 = .ok (.getfield 15, 3) := by decide +kernel
theorem dX7_aimHere_5 : decode cX7_aimHere 5 = .ok (.arraylength, 1) := by decide +kernel
theorem dX7_aimHere_6 : decode cX7_aimHere 6 = .ok (.if_icmp .ge 17, 3) := by decide +kernel
theorem dX7_aimHere_9 : decode cX7_aimHere 9 = .ok (.aload_n 0, 1) := by decide +kernel
theorem dX7_aimHere_10 : decode cX7_aimHere 10 = .ok (.getfield 15, 3) := by decide +kernel
theorem dX7_aimHere_13 : decode cX7_aimHere 13 = .ok (.iload_n 1, 1) := by decide +kernel
theorem dX7_aimHere_14 : decode cX7_aimHere 14 = .ok (.iload_n 2, 1) := by decide +kernel
theorem dX7_aimHere_15 : decode cX7_aimHere 15 = .ok (.aload_n 0, 1) := by decide +kernel
theorem dX7_aimHere_16 : decode cX7_aimHere 16 = .ok (.getfield 118, 3) := by decide +kernel
theorem dX7_aimHere_19 : decode cX7_aimHere 19 = .ok (.invokestatic 164, 3) := by decide +kernel
theorem dX7_aimHere_22 : decode cX7_aimHere 22 = .ok (.iastore, 1) := by decide +kernel
theorem dX7_aimHere_23 : decode cX7_aimHere 23 = .ok (.return_, 1) := by decide +kernel
def rd_aimHere (I : Nat → Nat → Int32) (x : Nat) (v1 : Int32) (v2 : Int32) : Option ((Nat → Nat → Int32)) := if (nI 900) ≤ v1 then (some I) else (chk v1 900 (let I3 := uI I (x + 3) (Int32.toNatClampNeg v1) (w_step v2 (I (x + 2) 10)); some I3))
theorem c_rd_aimHere {l : Launch} {D : va_G} {E : Nat → ClassId} {B : Nat → Prop} {n : Nat} {T : Nat → Option (Nat × Nat)} {I : Nat → Nat → Int32} {J : Nat → Nat → Int64} {P : Nat → Nat → Option Nat} {x : Nat} {v1 : Int32} {v2 : Int32} {r : (Nat → Nat → Int32)} (hx : isSR T P x) (hf : rd_aimHere I x v1 v2 = some r) : Ct l D E B yX7_aimHere cX7_aimHere 3 none 1 0 0 [.ref (x + 2), .int v1, .int v2] (n, T, I, J, P) (Ret (none) (n, T, r, J, P)) := by
  unfold rd_aimHere at hf
  refine Ct.ofV (by decide) (Nat.le_of_ble_eq_true rfl) ?_
  refine V.iload_n dX7_aimHere_0 rfl ?_
  refine V.aload_n dX7_aimHere_1 rfl ?_
  refine V.getr fl_X7_15 dX7_aimHere_2 (hx.1 2 (7, 0) rfl) (hx.2.1 2 9 3 rfl) (by decide) rfl ?_
  refine V.alen dX7_aimHere_5 (hx.1 3 (20, 900) rfl) (by decide) ?_
  refine V.icmp_ge 23 dX7_aimHere_6 (by decide) (fun c1 => ?_) (fun c1 => ?_)
  · rw [if_pos c1] at hf
    obtain rfl := Option.some.inj hf
    exact V.vret dX7_aimHere_23 rfl (Nat.le_refl _) (Nat.le_refl _) ⟨rfl, rfl⟩
  · rw [if_neg c1] at hf
    refine V.aload_n dX7_aimHere_9 rfl ?_
    refine V.getr fl_X7_15 dX7_aimHere_10 (hx.1 2 (7, 0) rfl) (hx.2.1 2 9 3 rfl) (by decide) rfl ?_
    refine V.iload_n dX7_aimHere_13 rfl ?_
    refine V.iload_n dX7_aimHere_14 rfl ?_
    refine V.aload_n dX7_aimHere_15 rfl ?_
    refine V.getf fl_X7_118 dX7_aimHere_16 (hx.1 2 (7, 0) rfl) (by decide) rfl ?_
    refine V.ins cs_X7_164 (c_w_step) dX7_aimHere_19 rfl rfl (Nat.le_of_ble_eq_true rfl) (by decide) (by decide) (Nat.le_refl _) (Nat.le_refl _) (fun _ _ hq => ?_)
    obtain ⟨rfl, rfl⟩ := hq
    obtain ⟨hb2, hf⟩ := chk_some hf
    refine V.iastE dX7_aimHere_22 (hx.1 3 (20, 900) rfl) hb2 (fun I3 e4 => ?_)
    rw [← e4] at hf
    try dsimp only at hf
    clear e4
    obtain rfl := Option.some.inj hf
    exact V.vret dX7_aimHere_23 rfl (Nat.le_refl _) (Nat.le_refl _) ⟨rfl, rfl⟩
theorem dX7_goWithin_0 : decode cX7_goWithin 0 = .ok (.iload_n 1, 1) := by decide +kernel
theorem dX7_goWithin_1 : decode cX7_goWithin 1 = .ok (.bipush 6, 2) := by decide +kernel
theorem dX7_goWithin_3 : decode cX7_goWithin 3 = .ok (.if_icmp .lt 9, 3) := by decide +kernel
theorem dX7_goWithin_6 : decode cX7_goWithin 6 = .ok (.aload_n 0, 1) := by decide +kernel
theorem dX7_goWithin_7 : decode cX7_goWithin 7 = .ok (.iconst 4, 1) := by decide +kernel
theorem dX7_goWithin_8 : decode cX7_goWithin 8 = .ok (.invokevirtual 68, 3) := by decide +kernel
theorem dX7_goWithin_11 : decode cX7_goWithin 11 = .ok (.ireturn, 1) := by decide +kernel
theorem dX7_goWithin_12 : decode cX7_goWithin 12 = .ok (.aload_n 0, 1) := by decide +kernel
theorem dX7_goWithin_13 : decode cX7_goWithin 13 = .ok (.invokevirtual 45, 3) := by decide +kernel
theorem dX7_goWithin_16 : decode cX7_goWithin 16 = .ok (.iconst 1, 1) := by decide +kernel
theorem dX7_goWithin_17 : decode cX7_goWithin 17 = .ok (.ireturn, 1) := by decide +kernel
def rd_goWithin (F : Nat) (I : Nat → Nat → Int32) (x : Nat) (v1 : Int32) : Option (Int32 × (Nat → Nat → Int32)) := if v1 < 6 then ((rd_takeToken F I x).bind (fun q2 => let I4 := q2; some (1, I4))) else ((rd_refuse I x 4).bind (fun q5 => let u7 := q5.1; let I8 := q5.2; isb u7 (some (u7, I8))))
theorem c_rd_goWithin {l : Launch} {D : va_G} {E : Nat → ClassId} {B : Nat → Prop} {n F : Nat} {T : Nat → Option (Nat × Nat)} {I : Nat → Nat → Int32} {J : Nat → Nat → Int64} {P : Nat → Nat → Option Nat} {x : Nat} {v1 : Int32} {r : Int32 × (Nat → Nat → Int32)} (hx : isSR T P x) (ht : P (x + 2) 2 = some (x + 1)) (hf : rd_goWithin F I x v1 = some r) : Ct l D E B yX7_goWithin cX7_goWithin 2 (some .boolean) 6 0 0 [.ref (x + 2), .int v1] (n, T, I, J, P) (Ret (some (.int r.1)) (n, T, r.2, J, P)) := by
  unfold rd_goWithin at hf
  refine Ct.ofV (by decide) (Nat.le_of_ble_eq_true rfl) ?_
  refine V.iload_n dX7_goWithin_0 rfl ?_
  refine V.bipush (v := 6) dX7_goWithin_1 (by decide) ?_
  refine V.icmp_lt 12 dX7_goWithin_3 (by decide) (fun c1 => ?_) (fun c1 => ?_)
  · rw [if_pos c1] at hf
    refine V.aload_n dX7_goWithin_12 rfl ?_
    obtain ⟨I4, hk3, hf⟩ := bnd_some hf
    try dsimp only at hf
    refine V.inv cv_X7_45 (c_rd_takeToken hx ht hk3) dX7_goWithin_13 (hx.1 2 (7, 0) rfl) (by decide) rfl rfl rfl (Nat.le_of_ble_eq_true rfl) (by decide) (by decide) (Nat.le_refl _) (Nat.le_refl _) (fun _ _ hq => ?_)
    obtain ⟨rfl, rfl⟩ := hq
    refine V.iconst (v := 1) dX7_goWithin_16 (by decide) ?_
    obtain rfl := Option.some.inj hf
    exact V.zret dX7_goWithin_17 rfl rfl (Nat.le_refl _) (Nat.le_refl _) ⟨rfl, rfl⟩
  · rw [if_neg c1] at hf
    refine V.aload_n dX7_goWithin_6 rfl ?_
    refine V.iconst (v := 4) dX7_goWithin_7 (by decide) ?_
    obtain ⟨⟨u7, I8⟩, hk6, hf⟩ := bnd_some hf
    try dsimp only at hf
    refine V.inv cv_X7_68 (c_rd_refuse hx hk6) dX7_goWithin_8 (hx.1 2 (7, 0) rfl) (by decide) rfl rfl rfl (Nat.le_of_ble_eq_true rfl) (by decide) (by decide) (Nat.le_refl _) (Nat.le_refl _) (fun _ _ hq => ?_)
    obtain ⟨rfl, rfl⟩ := hq
    try dsimp only
    obtain ⟨hn9, hf⟩ := isb_some hf
    obtain rfl := Option.some.inj hf
    exact V.zret dX7_goWithin_11 rfl hn9 (Nat.le_refl _) (Nat.le_refl _) ⟨rfl, rfl⟩
