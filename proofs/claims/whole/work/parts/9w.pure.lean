/-! the law: its own words (the skeleton's head), and what holds at its start: classes, arrays, Strings -/
def R_law : String := "StandRankLaw"
def lw_P (b : Addr) (xs : List Int32) (args : Array Value) (s : State) : Prop := args = #[.ref b] ∧ s.IntsAt b xs ∧ xs.length ≤ 3072 ∧ (Jvm.Cond.and given_1 narrow_1).before args s = true
def lw_Q (_ : Array Value) (s : State) (o : Outcome) (t : State) : Prop := o = .returned (some (.int 1)) ∧ Framed s o t [] 600000 7302250
def lw_Z (below : List Frame) (a : Array Value) (s : State) : State → Prop := fun t => ∃ o, t.status = .running ∧ Ended t below o ∧ lw_Q a s o t
/-- the law's own end, with 1 on the stack, nothing written that was there before, its room as the claim has it -/
theorem lw_ret {p : Program} {l : Launch} {e : Env} {s : State} {m : MethodId} {below : List Frame} {meth : Method} {c : Code} {b : Nat} (hx : p.tables.exec = Jvm.exec) (hb : c.code = code) (hr : meth.sig.returnType = ret) (hlocks : meth.locks = false) {pc : Nat} {H : Heap} {ls : Array Slot} (hdg : decode code pc = .ok (.ireturn, 1)) : W p l e room_1 s m #[Value.ref b] below meth c H [] 600000 7302250 (lw_Z below #[Value.ref b] s) (F0 m pc ls [.int 1]) := by
  intro T hT X
  obtain ⟨fs, hret, hrun, hended, hW, hframe⟩ := X.leave (v := some (.int 1)) (hlocks := hlocks) (fun h => by rw [hr] at h; cases h)
  have hmeth' : T.vm.method? m = some meth := X.method'
  refine ⟨T.setFrames fs, ?_, .returned (some (.int 1)), hrun, hended, rfl, ⟨_, rfl⟩, hW, hframe⟩
  jvm_step X.here [X.here.top, hx, hb, hdg, hmeth', hr, ret, narrow_b1]
  (try refine ⟨rfl, ?_⟩); (try refine ⟨rfl, ?_⟩)
  first | (intro acts; rw [hret _ acts rfl rfl rfl]) | rw [hret _ _ rfl rfl rfl]
  exact Steps.refl _
/-- what holds at the law's entry: the machine, the code, the tables' words (any of lw_tbl by 'hts w (by decide +kernel)'), the script of L ints xs at the cell b, what the Statement gives of the start (any of its parts by flat_of_before) -/
def lw_At (p : Program) (s : State) (m : MethodId) (meth : Method) (c : Code) (b L : Nat) (xs : Nat → Int32) : Prop :=
  p.tables.exec = Jvm.exec ∧ c.code = code ∧ meth.sig.returnType = ret ∧ c.maxLocals = 4 ∧ s.vm.findClass R_law = some m.cls ∧ (∀ w ∈ lw_tbl, w.before #[Value.ref b] s = true) ∧ va_X b L xs s s.heap ∧ b < s.heap.size ∧ meth.locks = false ∧ (Jvm.Cond.and given_1 narrow_1).before #[Value.ref b] s = true

def NF : List Cond := flatC (Jvm.Cond.and given_1 narrow_1)
def stO (k : Nat) : String × Nat × String × List Int32 := strs.getD k ("", 0, "", [])
def stB (k : Nat) : Nat := [48, 157, 174, 286].getD k 0
def stW (k : Nat) : Nat := [610, 666, 1513, 1519].getD k 0
def tmS (k : Nat) : Term := .string (stO k).1 (stO k).2.1
theorem str_ex : ∀ k, k < 4 → NF[stB k]? = some (.exactly (tmS k) "java/lang/String") := by decide +kernel
theorem str_co : ∀ k, k < 4 → NF[stB k + 1]? = some (.eq (.field (tmS k) "java/lang/String" "coder" "B") (.int 0)) := by decide +kernel
theorem str_ar : ∀ k, k < 4 → NF[stB k + 2]? = some (.arrayOf (.field (tmS k) "java/lang/String" "value" "[B") .byte) := by decide +kernel
theorem str_le : ∀ k, k < 4 → NF[stB k + 3]? = some (.eq (.length (.field (tmS k) "java/lang/String" "value" "[B")) (.int (Int32.ofNat (stO k).2.2.2.length))) := by decide +kernel
theorem str_el : ∀ k, k < 4 → ∀ j, j < (stO k).2.2.2.length → NF[stB k + 4 + j]? = some (.eq (.elem (.field (tmS k) "java/lang/String" "value" "[B") (.int (Int32.ofNat j))) (.int ((stO k).2.2.2.getD j 0))) := by decide +kernel
theorem str_rf : ∀ k, k < 4 → lw_tbl[stW k]? = some (.stringRef (stO k).1 (stO k).2.1 (stO k).2.2.1) := by decide +kernel
theorem str_len : ∀ k, k < 4 → (stO k).2.2.2.length < 2 ^ 31 := by decide +kernel
theorem nf_2 : NF[4]? = some (.eq (.static "java/lang/String" "COMPACT_STRINGS" "Z") (.int 1)) := by decide +kernel
theorem nf_3 : NF[5]? = some (.isRef (.static "jdk/internal/util/Preconditions" "SIOOBE_FORMATTER" "Ljava/util/function/BiFunction;")) := by decide +kernel
theorem tb_155 : lw_tbl[154]? = some (.initialized "java/lang/String") := by decide +kernel
theorem tb_157 : lw_tbl[156]? = some (.initialized "jdk/internal/util/Preconditions") := by decide +kernel
theorem tb_621 : lw_tbl[620]? = some (.laysStatic "java/lang/String" "COMPACT_STRINGS" "Z") := by decide +kernel
theorem tb_637 : lw_tbl[636]? = some (.laysStatic "jdk/internal/util/Preconditions" "SIOOBE_FORMATTER" "Ljava/util/function/BiFunction;") := by decide +kernel
theorem tb_340 : lw_tbl[339]? = some (.arrayOver (.object RX8)) := by decide +kernel
theorem tb_354 : lw_tbl[353]? = some (.arrayOver (.object RX9)) := by decide +kernel
theorem tb_355 : lw_tbl[354]? = some (.arrayOver (.object RX1)) := by decide +kernel
section
variable {args : Array Value} {s : State}
theorem kn_of {own : String} {idx c N : Nat} (F : NL own idx c N) (hts : ∀ w ∈ TBL, w.before args s = true) : ∀ q, classes[c]? = some q → ∃ d : ClassId × (Nat → Nat), u_Kn s q.1 q.2.1 q.2.2 d.1 d.2 := by
  obtain ⟨C, Tt, ty0, ⟨f1, f2, f3, f4⟩, w1, w2, w3, hdf⟩ := F
  intro q hq
  rw [f1] at hq
  cases hq
  obtain ⟨a, i, h⟩ := u_known hts f2 (hts _ w2)
  exact ⟨(a, i), h⟩
theorem kn_all (hts : ∀ w ∈ TBL, w.before args s = true) : ∀ c : Nat, ∃ d : ClassId × (Nat → Nat), ∀ q, classes[c]? = some q → u_Kn s q.1 q.2.1 q.2.2 d.1 d.2 := by
  intro c
  have g : ∀ (c : Nat) (q : vw_C), classes[c]? = some q → ∃ d : ClassId × (Nat → Nat), u_Kn s q.1 q.2.1 q.2.2 d.1 d.2 := by
    intro c q hq
    match c, hq with
    | 0, hq => exact kn_of nl_X11_93 hts q hq
    | 1, hq => exact kn_of nl_X11_20 hts q hq
    | 2, hq => exact kn_of nl_X7_116 hts q hq
    | 3, hq => exact kn_of nl_X0_9 hts q hq
    | 4, hq => exact kn_of nl_X11_84 hts q hq
    | 5, hq => exact kn_of nl_X11_65 hts q hq
    | 6, hq => exact kn_of nl_X11_34 hts q hq
    | 7, hq => exact kn_of nl_X11_13 hts q hq
    | 8, hq => exact kn_of nl_X11_27 hts q hq
    | 9, hq => exact kn_of nl_X11_41 hts q hq
    | 10, hq => exact kn_of nl_X11_72 hts q hq
    | 11, hq => exact kn_of nl_L_7 hts q hq
    | 12, hq => exact kn_of nl_L_10 hts q hq
    | c + 13, hq => simp [classes] at hq
  cases hq : classes[c]? with
  | none => exact ⟨(0, fun _ => 0), fun q h => by cases h⟩
  | some q =>
    obtain ⟨d, hd⟩ := g c q hq
    exact ⟨d, fun q' h => by cases h; exact hd⟩
theorem ar_prim {ty : FieldType} (h : (Cond.arrayClass ty).before args s = true) : ∃ cA : ClassId, ArrOfT s cA ty ∧ s.vm.findClass ("[" ++ ty.toString) = some cA := by
  obtain ⟨cA, kA, comp, h1, h2, h3⟩ := Cond.arrayClass_spec h
  exact ⟨cA, fun n z => ⟨fun k h => (by cases h), kA, h2, comp, h3⟩, h1⟩
theorem ar_obj {C : String} (h : (Cond.arrayOver (.object C)).before args s = true) : ∃ cA : ClassId, ArrOfT s cA (.object C) ∧ va_RA s cA (.object C) := by
  obtain ⟨comp, cA, kA, h1, h2, h3, h4, h5⟩ := Cond.arrayOver_spec h
  exact ⟨cA, fun n z => ⟨fun k h => (by cases h), kA, h3, comp, h4⟩, kA, comp, h3, h4, h1, h5⟩
theorem st_at (hnf : ∀ w ∈ NF, w.before args s = true) (hts : ∀ w ∈ lw_tbl, w.before args s = true) : ∀ k : Nat, ∃ q : Nat × Nat, k < 4 → vk_R (stO k).1 (stO k).2.1 (stO k).2.2.1 q.1 s ∧ va_O "java/lang/String" q.1 (fun q => s.heap.size ≤ q) s s.heap ∧ va_OF "java/lang/String" "coder" "B" (.int 0) q.1 (fun q => s.heap.size ≤ q) s s.heap ∧ va_OF "java/lang/String" "value" "[B" (.ref q.2) q.1 (fun q => s.heap.size ≤ q) s s.heap ∧ va_T .byte q.2 (stO k).2.2.2.length (fun j => .int ((stO k).2.2.2.getD j 0)) (fun q => s.heap.size ≤ q) s s.heap := by
  intro k
  by_cases hk : k < 4
  · have at' : ∀ {i : Nat} {w : Cond}, NF[i]? = some w → w.before args s = true := fun h => hnf _ (List.mem_of_getElem? h)
    obtain ⟨adK, adV, ⟨h1, -⟩, h2⟩ := vk_Sof (args := args) (s := s) (N := 1) (tm := fun _ => tmS k) (len := [(stO k).2.2.2.length]) (byt := [(stO k).2.2.2]) (A := fun q => s.heap.size ≤ q)
      (fun i hi => by obtain rfl : i = 0 := by omega
                      exact str_len k hk)
      (fun i hi => at' (str_ex k hk)) (fun i hi => at' (str_co k hk)) (fun i hi => at' (str_ar k hk))
      (fun i hi => by obtain rfl : i = 0 := by omega
                      exact at' (str_le k hk))
      (fun i hi j hj => by obtain rfl : i = 0 := by omega
                           exact at' (str_el k hk j hj))
      (fun i j hi hj hij => absurd (show i = j by omega) hij) (fun a ha hc => absurd ha (Nat.not_lt.mpr hc))
    refine ⟨(adK 0, adV 0), fun _ => ⟨vk_R.of (A := args) (hts _ (List.mem_of_getElem? (str_rf k hk))) (h2 0 (by omega)), ?_⟩⟩
    exact h1 0 (by omega)
  · exact ⟨(0, 0), fun h => absurd h hk⟩
end
/-- the classes, the arrays' classes, the Strings, as the law finds them -/
theorem start_env {p : Program} {s : State} {m : MethodId} {meth : Method} {c : Code} {b L : Nat} {xs : Nat → Int32} (C0 : lw_At p s m meth c b L xs) : ∃ (D : va_G) (E : Nat → ClassId), va_K D classes (tys E) s ∧ ∀ B : Nat → Prop, (∀ q, B q → s.heap.size ≤ q) → NW E B s := by
  obtain ⟨hx, hb, hr, hml, hown, hts, hX, hbl, hlocks, hgv⟩ := C0
  have hnf : ∀ w ∈ NF, w.before #[Value.ref b] s = true := flat_of_before _ hgv
  have htb : ∀ w ∈ TBL, w.before #[Value.ref b] s = true := fun w hw => hts w (List.mem_filter.mp hw).1
  obtain ⟨d, hd⟩ := Classical.axiomOfChoice (kn_all htb)
  obtain ⟨ad, had⟩ := Classical.axiomOfChoice (st_at hnf hts)
  obtain ⟨c0, a0, f0⟩ := ar_prim (htb _ ka_int)
  obtain ⟨c1, a1, f1⟩ := ar_prim (htb _ ka_byte)
  obtain ⟨c2, a2, f2⟩ := ar_prim (htb _ ka_long)
  obtain ⟨c3, a3, f3⟩ := ar_prim (htb _ ka_boolean)
  obtain ⟨c4, a4, f4⟩ := ar_obj (hts _ (List.mem_of_getElem? tb_355))
  obtain ⟨c5, a5, f5⟩ := ar_obj (hts _ (List.mem_of_getElem? tb_340))
  obtain ⟨c6, a6, f6⟩ := ar_obj (hts _ (List.mem_of_getElem? tb_354))
  obtain ⟨v, hv, hvr⟩ := Cond.isRef_spec (show (Cond.isRef (.static "jdk/internal/util/Preconditions" "SIOOBE_FORMATTER" "Ljava/util/function/BiFunction;")).before #[Value.ref b] s = true from hnf _ (List.mem_of_getElem? nf_3))
  refine ⟨(fun c => (d c).1, fun c => (d c).2), fun n => if n < 100 then [c0, c1, c2, c3, c4, c5, c6].getD n 0 else if (n - 100) % 2 = 0 then (ad ((n - 100) / 2)).1 else (ad ((n - 100) / 2)).2, ⟨fun c q hq => hd c q hq, fun k q hq => ?_⟩, fun B hB => ⟨fun w hw hn => ?_, ⟨?_, fun C hC => ?_⟩, ⟨v, ?_, ?_⟩, fun k o i t bs hk => ?_⟩⟩
  · match k, hq with
    | 0, hq => cases hq; exact ⟨a0, f0⟩
    | 1, hq => cases hq; exact ⟨a1, f1⟩
    | 2, hq => cases hq; exact ⟨a2, f2⟩
    | 3, hq => cases hq; exact ⟨a3, f3⟩
    | 4, hq => cases hq; exact ⟨a4, f4⟩
    | 5, hq => cases hq; exact ⟨a5, f5⟩
    | 6, hq => cases hq; exact ⟨a6, f6⟩
    | k + 7, hq => simp [tys] at hq
  · exact va_Nw.of (by cases w <;> first | rfl | cases hn) (hts w hw)
  · exact (va_Zof (A := fun q => s.heap.size ≤ q) (hts _ (List.mem_of_getElem? tb_621)) (hts _ (List.mem_of_getElem? tb_155)) (va_eqi (hnf _ (List.mem_of_getElem? nf_2))) (fun a ha hc => absurd ha (Nat.not_lt.mpr hc))).narrow hB
  · simp only [List.mem_cons, List.not_mem_nil, or_false] at hC
    rcases hC with rfl | rfl | rfl
    · exact va_AO.of (hts _ (List.mem_of_getElem? tb_355))
    · exact va_AO.of (hts _ (List.mem_of_getElem? tb_340))
    · exact va_AO.of (hts _ (List.mem_of_getElem? tb_354))
  · cases v <;> first | exact Or.inl rfl | exact Or.inr ⟨_, rfl⟩ | cases hvr
  · exact (va_Zof (A := fun q => s.heap.size ≤ q) (hts _ (List.mem_of_getElem? tb_637)) (hts _ (List.mem_of_getElem? tb_157)) hv (fun a ha hc => absurd ha (Nat.not_lt.mpr hc))).narrow hB
  · have hk4 : k < 4 := (List.getElem?_eq_some_iff.mp hk).1
    have e : stO k = (o, i, t, bs) := by
      unfold stO
      rw [List.getD_eq_getElem?_getD, hk]
      rfl
    have e1 : (if 100 + 2 * k < 100 then [c0, c1, c2, c3, c4, c5, c6].getD (100 + 2 * k) 0 else if (100 + 2 * k - 100) % 2 = 0 then (ad ((100 + 2 * k - 100) / 2)).1 else (ad ((100 + 2 * k - 100) / 2)).2) = (ad k).1 := by
      rw [if_neg (by omega), if_pos (by omega), show (100 + 2 * k - 100) / 2 = k by omega]
    have e2 : (if 101 + 2 * k < 100 then [c0, c1, c2, c3, c4, c5, c6].getD (101 + 2 * k) 0 else if (101 + 2 * k - 100) % 2 = 0 then (ad ((101 + 2 * k - 100) / 2)).1 else (ad ((101 + 2 * k - 100) / 2)).2) = (ad k).2 := by
      rw [if_neg (by omega), if_neg (by omega), show (101 + 2 * k - 100) / 2 = k by omega]
    obtain ⟨g1, g2, g3, g4, g5⟩ := had k hk4
    rw [e] at g1 g5
    dsimp only at g1 g5 ⊢
    rw [e1, e2]
    exact ⟨g1, g2.narrow hB, g3.narrow hB, g4.narrow hB, g5.narrow hB⟩
