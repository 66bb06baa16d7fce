section VN
variable {l : Launch} {D : va_G} {E : Nat → ClassId} {B : Nat → Prop} {y : MethodName} {cc : ByteArray} {nL : Nat} {ret : Option FieldType} {d mc ms : Nat} {Q : Option Value → HT → Prop} {cells slots : Nat} {pc : Nat} {vs : List (Nat × Option Value)} {st : List Value}
variable {n : Nat} {T : Nat → Option (Nat × Nat)} {I I' : Nat → Nat → Int32} {J J' : Nat → Nat → Int64} {P P' : Nat → Nat → Option Nat}
/-! references into arrays of references; new objects, new arrays -/
theorem V.aast {a len t ci z v : Nat} {i : Int32} (hd : decode cc pc = .ok (.aastore, 1)) (hT : T a = some (t, len)) (hv : T v = some (ci, z)) (ht : t = 24 ∧ ci = 1 ∨ t = 25 ∧ ci = 8 ∨ t = 26 ∧ ci = 9) (hin : vp_in i len) (kk : V l D E B y cc nL ret d mc ms Q cells slots (n, T, I, J, uP P a i.toNatClampNeg (some v)) (pc + 1) vs st) : V l D E B y cc nL ret d mc ms Q cells slots (n, T, I, J, P) pc vs (.ref v :: .int i :: .ref a :: st) := by
  intro p e s m args below meth c H locs ls X hS hB hP hL
  have hK := X.2.2.2.2.2.2.1
  have hlt : i.toNatClampNeg < len := Nat.not_le.mp fun q => hin (Or.inr q)
  have h0 : ¬ i < 0 := fun q => hin (Or.inl q)
  have key : ∀ (t0 : Nat) (r : vw_C), cel E (t, len) (I a) (J a) (P a) = .inl (E t0, len, .inr (.inr (.inr (.inr (P a))))) → cel E (t, len) (I a) (J a) (uP P a i.toNatClampNeg (some v) a) = .inl (E t0, len, .inr (.inr (.inr (.inr (uP P a i.toNatClampNeg (some v) a))))) → (tys E)[t0]? = some (E t0, .object r.1) → classes[ci]? = some r → ci < 20 → W p l e (rm d mc ms) s m args below meth c H locs cells slots (MQ below (QQ D E B Q) args s mc ms B) (F0 m pc ls (.ref v :: .int i :: .ref a :: st)) := by
    intro t0 r he he2 hty hcl hci
    have hPa := (hP.one hT) 0 _ rfl
    rw [he] at hPa
    obtain ⟨r', hr', cellV, g1, g2, g3, -⟩ := (hP.obj hv hci) 0 _ rfl
    have hcls := (hK.1 ci r hcl).2
    obtain ⟨kA, comp, k1, k2, k3, -⟩ := (hK.2 t0 _ hty).2
    have hcomp : comp = D.1 ci := Option.some.inj (k3.symm.trans hcls.1)
    subst hcomp
    obtain ⟨kC, hkC, -⟩ := hcls.2
    refine W.aast X.1 X.2.1 hPa (fun q h => by cases h) (fun h => by cases h) k1 k2 rfl hkC ⟨h0, by show _ < (arrV _ _ _).slots.size; rw [arrV_size]; exact hlt⟩ g1 (fun q h => by rw [g3] at h; cases h) (by rw [g2]; exact hkC) (by rw [g2]; exact va_assign hcls) rfl rfl hd fun H1 e1 z1 oq => ?_
    refine kk p e s m args below meth c H1 _ ls X (hS.put z1 oq (hP.2 a _ hT).1) hB (hP.upd hT z1 oq (fun _ _ => rfl) (fun _ _ => rfl) (fun q h => uP_n P _ _ h) ?_) hL
    rw [he2]
    show H1[a]? = some (vp_cell (E t0) (len, .inr (.inr (.inr (.inr (uP P a i.toNatClampNeg (some v) a))))))
    rw [e1, uP_s]
    show some ((vp_cell (E t0) (len, .inr (.inr (.inr (.inr (P a)))))).setSlot i.toNatClampNeg (.ref v)) = _
    rw [vp_cell_q, vp_cell_q, arrV_store]
    congr 2
    funext q
    by_cases hq : q = i.toNatClampNeg
    · subst hq
      simp [updV, va_up, va_rf]
    · simp [updV, va_up, hq]
  rcases ht with ⟨rfl, rfl⟩ | ⟨rfl, rfl⟩ | ⟨rfl, rfl⟩
  · exact key 4 (RX1, TX1, 13) rfl rfl rfl rfl (by decide)
  · exact key 5 (RX8, TX8, 10) rfl rfl rfl rfl (by decide)
  · exact key 6 (RX9, TX9, 3) rfl rfl rfl rfl (by decide)
def zI (I : Nat → Nat → Int32) (a : Nat) : Nat → Nat → Int32 := va_up I a (fun _ => 0)
def zJ (J : Nat → Nat → Int64) (a : Nat) : Nat → Nat → Int64 := va_up J a (fun _ => 0)
def zP (P : Nat → Nat → Option Nat) (a : Nat) : Nat → Nat → Option Nat := va_up P a (fun _ => none)
theorem V.new {idx c N : Nat} (F : NL y.cls idx c N) (hd : decode cc pc = .ok (.new idx, 3)) (hc : c < 20) (hcells : cells + 1 ≤ mc) (hslots : slots + N ≤ ms) (kk : V l D E B y cc nL ret d mc ms Q (cells + 1) (slots + N) (n + 1, va_up T n (some (c, 0)), zI I n, zJ J n, zP P n) (pc + 3) vs (.ref n :: st)) : V l D E B y cc nL ret d mc ms Q cells slots (n, T, I, J, P) pc vs st := by
  intro p e s m args below meth c0 H locs ls X hS hB hP hL
  obtain ⟨C, Tt, ty0, ⟨f1, f2, f3, f4⟩, w1, w2, w3, hdf⟩ := F
  have hts := X.2.2.2.2.2.1
  have hK := X.2.2.2.2.2.2.1
  have hKn := hK.1 c _ f1
  have hsz : H.size = n := hP.1
  refine W.newcK X.1 X.2.1 X.2.2.2.2.1 (hts _ w1) (hts _ w2) (hts _ w3) rfl hd hcells hslots hKn.2.1 hsz fun H1 kC hkC e1 z1 o1 => ?_
  refine kk p e s m args below meth c0 H1 locs ls X (hS.new hsz z1 o1) hB (hP.push (hB _ (by have := hS.1; omega)) z1 o1 (fun q h => va_up_ne _ _ h) (fun q h => va_up_ne _ _ h) (fun q h => va_up_ne _ _ h) ?_) hL
  rw [cel_obj hc]
  refine ⟨_, f1, (u_born ty0 hts f2 hKn hkC e1 f3).to ?_⟩
  intro j hj
  rw [hdf j hj]
  unfold zI zJ zP
  rw [va_up_self, va_up_self, va_up_self]
theorem V.newa {at_ : ArrayType} {ty : FieldType} {x : Int32} {t len t0 : Nat} (hd : decode cc pc = .ok (.newarray at_, 2)) (hw : Cond.arrayClass (newarray.typeOf at_) ∈ TBL) (hty : newarray.typeOf at_ = ty) (ht0 : (tys E)[t0]? = some (E t0, ty)) (hra : ∀ s : State, va_RA s (E t0) ty → s.vm.findClass ("[" ++ ty.toString) = some (E t0)) (hx : ¬ x < 0) (hN : x.toNatClampNeg = len) (hby : len * componentBytes ty ≤ 536870912) (hcells : cells + 1 ≤ mc) (hslots : slots + len ≤ ms)
    (hcel : ∀ cA : ClassId, cA = E t0 → va_at D classes (n, cel E (t, len) (fun _ => 0) (fun _ => 0) (fun _ => none)) = fun H1 => H1[n]? = some (arrV cA len (fun _ => defaultValue ty)))
    (kk : V l D E B y cc nL ret d mc ms Q (cells + 1) (slots + len) (n + 1, va_up T n (some (t, len)), zI I n, zJ J n, zP P n) (pc + 2) vs (.ref n :: st)) : V l D E B y cc nL ret d mc ms Q cells slots (n, T, I, J, P) pc vs (.int x :: st) := by
  intro p e s m args below meth c0 H locs ls X hS hB hP hL
  subst hty
  have hsz : H.size = n := hP.1
  have hK := X.2.2.2.2.2.2.1
  refine va_newaK X.1 X.2.1 (X.2.2.2.2.2.1 _ hw) rfl hd rfl hx hN hby hcells hslots hsz fun H1 cA e1 z1 o1 hAr hNm => ?_
  have hE : cA = E t0 := Option.some.inj (hNm.symm.trans (hra s (hK.2 t0 _ ht0).2))
  refine kk p e s m args below meth c0 H1 locs ls X (hS.new hsz z1 o1) hB (hP.push (hB _ (by have := hS.1; omega)) z1 o1 (fun q h => va_up_ne _ _ h) (fun q h => va_up_ne _ _ h) (fun q h => va_up_ne _ _ h) ?_) hL
  unfold zI zJ zP
  rw [va_up_self, va_up_self, va_up_self, hcel cA hE]
  exact e1
theorem V.newI {x : Int32} {len : Nat} (hd : decode cc pc = .ok (.newarray .int, 2)) (hw : Cond.arrayClass .int ∈ TBL) (hx : ¬ x < 0) (hN : x.toNatClampNeg = len) (hby : len ≤ 100000000) (hcells : cells + 1 ≤ mc) (hslots : slots + len ≤ ms)
    (kk : V l D E B y cc nL ret d mc ms Q (cells + 1) (slots + len) (n + 1, va_up T n (some (20, len)), zI I n, zJ J n, zP P n) (pc + 2) vs (.ref n :: st)) : V l D E B y cc nL ret d mc ms Q cells slots (n, T, I, J, P) pc vs (.int x :: st) :=
  V.newa (t0 := 0) (t := 20) hd hw rfl rfl (fun s h => h) hx hN (by show len * 4 ≤ _; omega) hcells hslots (fun cA e => by subst e; rfl) kk
theorem V.newB {x : Int32} {len : Nat} (hd : decode cc pc = .ok (.newarray .byte, 2)) (hw : Cond.arrayClass .byte ∈ TBL) (hx : ¬ x < 0) (hN : x.toNatClampNeg = len) (hby : len ≤ 100000000) (hcells : cells + 1 ≤ mc) (hslots : slots + len ≤ ms)
    (kk : V l D E B y cc nL ret d mc ms Q (cells + 1) (slots + len) (n + 1, va_up T n (some (21, len)), zI I n, zJ J n, zP P n) (pc + 2) vs (.ref n :: st)) : V l D E B y cc nL ret d mc ms Q cells slots (n, T, I, J, P) pc vs (.int x :: st) :=
  V.newa (t0 := 1) (t := 21) hd hw rfl rfl (fun s h => h) hx hN (by show len * 1 ≤ _; omega) hcells hslots (fun cA e => by subst e; rfl) kk
theorem V.newJ {x : Int32} {len : Nat} (hd : decode cc pc = .ok (.newarray .long, 2)) (hw : Cond.arrayClass .long ∈ TBL) (hx : ¬ x < 0) (hN : x.toNatClampNeg = len) (hby : len ≤ 10000000) (hcells : cells + 1 ≤ mc) (hslots : slots + len ≤ ms)
    (kk : V l D E B y cc nL ret d mc ms Q (cells + 1) (slots + len) (n + 1, va_up T n (some (22, len)), zI I n, zJ J n, zP P n) (pc + 2) vs (.ref n :: st)) : V l D E B y cc nL ret d mc ms Q cells slots (n, T, I, J, P) pc vs (.int x :: st) :=
  V.newa (t0 := 2) (t := 22) hd hw rfl rfl (fun s h => h) hx hN (by show len * 8 ≤ _; omega) hcells hslots (fun cA e => by subst e; rfl) kk
theorem V.newZ {x : Int32} {len : Nat} (hd : decode cc pc = .ok (.newarray .boolean, 2)) (hw : Cond.arrayClass .boolean ∈ TBL) (hx : ¬ x < 0) (hN : x.toNatClampNeg = len) (hby : len ≤ 100000000) (hcells : cells + 1 ≤ mc) (hslots : slots + len ≤ ms)
    (kk : V l D E B y cc nL ret d mc ms Q (cells + 1) (slots + len) (n + 1, va_up T n (some (23, len)), zI I n, zJ J n, zP P n) (pc + 2) vs (.ref n :: st)) : V l D E B y cc nL ret d mc ms Q cells slots (n, T, I, J, P) pc vs (.int x :: st) :=
  V.newa (t0 := 3) (t := 23) hd hw rfl rfl (fun s h => h) hx hN (by show len * 1 ≤ _; omega) hcells hslots (fun cA e => by subst e; rfl) kk
/-! calls -/
theorem good_code {y2 : MethodName} {cc2 : ByteArray} {nL2 : Nat} {ret2 : Option FieldType} (h : Cond.code y2 cc2 nL2 ret2 ∈ TBL) : GoodIn TBL (Cond.code y2 cc2 nL2 ret2 :: TBL) := fun w hw => (List.mem_cons.mp hw).elim (fun e => by subst e; exact tbl_good _ h) (tbl_good w)
theorem good_app {a b : List Cond} (ha : ∀ w ∈ a, w ∈ TBL) (hb : GoodIn TBL b) : GoodIn TBL (a ++ b) := fun w h => (List.mem_append.mp h).elim (fun h => tbl_good w (ha w h)) (hb w)
theorem run_go {p : Program} {e : Env} {s : State} {m : MethodId} {args : Array Value} {below : List Frame} {meth : Method} {c : Code} {H : Heap} {locs : List Loc} {ls : Array Slot} {mc2 ms2 : Nat} {st0 rest : List Value} {Q2 : Option Value → HT → Prop} {a2 : Array Value} {R : Room} {Qs : State → Prop}
    (hr : va_Run p l e R s m args below meth c H locs cells slots mc2 ms2 (F0 m pc ls st0) rest (QQ D E B Q2 a2) B) (hS : va_S B s.heap H locs)
    (kk : ∀ (v : Option Value) (h' : HT) (H1 : Heap) (locs1 : List Loc), Q2 v h' → PIC D E B h' H1 → va_S B s.heap H1 locs1 → W p l e R s m args below meth c H1 locs1 (cells + mc2) (slots + ms2) Qs (F0 m (pc + 3) ls (v.toList ++ rest))) : W p l e R s m args below meth c H locs cells slots Qs (F0 m pc ls st0) := by
  intro T0 hT X
  obtain ⟨v, st₀, t, T', L, h0, X', hL, e1, e2, ⟨⟨v', h', hv, hq, hpic⟩, hz, hk⟩, stp⟩ := hr T0 hT X
  cases hv
  rw [h0] at hz hk
  obtain ⟨t2, a1, b1⟩ := kk v h' T'.heap (locs ++ L) hq (by rw [e1]; exact hpic)
    ⟨Nat.le_trans hS.1 (by rw [e1]; exact hz), fun q h1 h2 => by rw [e1, hk q (Nat.lt_of_lt_of_le h1 hS.1) h2]; exact hS.2.1 q h1 h2, fun q hq => by
      rcases List.mem_append.mp hq with h | h
      · exact hS.2.2 q h
      · exact hL q h⟩ T' rfl X'
  exact ⟨t2, stp t2 a1, b1⟩
theorem blind {av : List Value} {h : HT} : FrameBlind (va_Pc av (fun U => PIC D E B h U.heap ∧ va_K D classes (tys E) U ∧ NW E B U ∧ ∀ q, U.heap.size ≤ q → B q)) := fun a U g mk q => by
  obtain ⟨q0, q1, q2, q3, q4⟩ := q
  refine ⟨q0, q1, va_K.moved (u := U) (U := U.calling g mk a) (Vm.Alike.refl U.vm) q2, ⟨fun w hw hn => va_Nw.same (by cases w <;> first | rfl | cases hn) (rfl : U.vm = (U.calling g mk a).vm) (q3.1 w hw hn), ?_⟩, q4⟩
  exact SX.go (u := U) (U := U.calling g mk a) (Vm.Alike.refl U.vm) (fun o i t q hr => vk_R.same (u := U) (U := U.calling g mk a) rfl hr) (fun _ _ _ => rfl) q3.2
theorem pre_at {s : State} {H : Heap} {locs : List Loc} {av : List Value} {h : HT} (hP : PIC D E B h H) (hK : va_K D classes (tys E) s) (hN : NW E B s) (hB : ∀ q, s.heap.size ≤ q → B q) (hS : va_S B s.heap H locs) : ∀ U : State, U.heap = H → s.WarmedH U.vm → va_Pc av (fun U => PIC D E B h U.heap ∧ va_K D classes (tys E) U ∧ NW E B U ∧ ∀ q, U.heap.size ≤ q → B q) av.toArray U := by
  intro U hU hW
  refine ⟨rfl, by rw [hU]; exact hP, va_K.moved hW.alike hK, ⟨fun w hw hn => ?_, ?_⟩, fun q hq => hB q (Nat.le_trans hS.1 (by rw [hU] at hq; exact hq))⟩
  · cases w <;> first | (cases hn; done) | skip
    exact va_Nw.warmM hW (hN.1 _ hw hn)
  · exact SX.go hW.alike (fun o i t q hr => vk_R.warm hW hr) (fun a h1 h2 => by rw [hU]; exact hS.2.1 a h1 h2) hN.2
theorem rm_ok {d d2 mc ms mc2 ms2 nL2 : Nat} (hd : d2 + 1 ≤ d) (hn : nL2 ≤ 40) : (rm d2 mc2 ms2).frames + 1 ≤ (rm d mc ms).frames ∧ 8 + (nL2 + 11) + (rm d2 mc2 ms2).locals ≤ (rm d mc ms).locals := ⟨hd, by show 8 + (nL2 + 11) + 64 * d2 ≤ 64 * d; omega⟩
theorem V.inv {idx b ci z nL2 d2 mc2 ms2 k : Nat} {y2 : MethodName} {cc2 : ByteArray} {ret2 : Option FieldType} {As rest : List Value} {Q2 : Option Value → HT → Prop} (F : CV y.cls idx y2 cc2 nL2 ret2 k) (hM : Ct l D E B y2 cc2 nL2 ret2 d2 mc2 ms2 (.ref b :: As) (n, T, I, J, P) Q2) (hd : decode cc pc = .ok (.invokevirtual idx, 3)) (hT : T b = some (ci, z)) (hci : ci < 20) (hcl : (classes[ci]?).map (fun q => q.1) = some y2.cls) (hk : As.length = k) (hst : st = As.reverse ++ .ref b :: rest) (hW : (rest.map fun v => v.category).sum ≤ 8) (hdd : d2 + 1 ≤ d) (hn : nL2 ≤ 40) (hc : cells + mc2 ≤ mc) (hs : slots + ms2 ≤ ms)
    (kk : ∀ (v : Option Value) (h' : HT), Q2 v h' → V l D E B y cc nL ret d mc ms Q (cells + mc2) (slots + ms2) h' (pc + 3) vs (v.toList ++ rest)) : V l D E B y cc nL ret d mc ms Q cells slots (n, T, I, J, P) pc vs st := by
  intro p e s m args below meth c H locs ls X hS hB hP hL
  subst hst
  obtain ⟨w1, w2, w3, w4, w5, n1, n2, n3⟩ := F
  obtain ⟨hx, hb, hr, hml, hown, hts, hK, hlk, hnm, hNW⟩ := id X
  have hG : GoodIn TBL (wsV y.cls idx y2.cls y2 (Cond.code y2 cc2 nL2 ret2 :: TBL)) := good_app (fun w hw => by
    simp only [List.mem_cons, List.not_mem_nil, or_false] at hw
    rcases hw with rfl | rfl | rfl | rfl <;> assumption) (good_code w5)
  have cw : CallW (rm d mc ms) s args y.cls y2.cls idx y2 cc2 nL2 ret2 (Cond.code y2 cc2 nL2 ret2 :: TBL) (rm d2 mc2 ms2) mc2 ms2 k := cwV k hts hG rfl rfl rfl ⟨rfl, n1, n2, n3⟩ (rm_ok hdd hn)
  obtain ⟨q, hq⟩ : ∃ q, classes[ci]? = some q := by
    cases hh : classes[ci]? with
    | none => rw [hh] at hcl; cases hcl
    | some q => exact ⟨q, rfl⟩
  have hq1 : q.1 = y2.cls := by rw [hq] at hcl; exact Option.some.inj hcl
  have hrec := va_recv hK (hP.obj hT hci) hq (q0 := 0) rfl
  rw [hq1] at hrec
  refine run_go (va_runV (As := As) (rest := rest) ⟨hx, hb, hml, hown, hts⟩ hM cw ⟨blind, hrec, pre_at hP hK hNW hB hS⟩ rfl hk hL.1 rfl (by show 2 * 0 + _ ≤ 8; omega) hd ⟨hc, hs⟩) hS ?_
  intro v h' H1 locs1 hq2 hP1 hS1
  exact kk v h' hq2 p e s m args below meth c H1 locs1 ls X hS1 hB hP1 hL
theorem V.ins {idx nL2 d2 mc2 ms2 k : Nat} {y2 : MethodName} {cc2 : ByteArray} {ret2 : Option FieldType} {As rest : List Value} {Q2 : Option Value → HT → Prop} (F : CS y.cls idx y2 cc2 nL2 ret2 k) (hM : Ct l D E B y2 cc2 nL2 ret2 d2 mc2 ms2 As (n, T, I, J, P) Q2) (hd : decode cc pc = .ok (.invokestatic idx, 3)) (hk : As.length = k) (hst : st = As.reverse ++ rest) (hW : (rest.map fun v => v.category).sum ≤ 8) (hdd : d2 + 1 ≤ d) (hn : nL2 ≤ 40) (hc : cells + mc2 ≤ mc) (hs : slots + ms2 ≤ ms)
    (kk : ∀ (v : Option Value) (h' : HT), Q2 v h' → V l D E B y cc nL ret d mc ms Q (cells + mc2) (slots + ms2) h' (pc + 3) vs (v.toList ++ rest)) : V l D E B y cc nL ret d mc ms Q cells slots (n, T, I, J, P) pc vs st := by
  intro p e s m args below meth c H locs ls X hS hB hP hL
  subst hst
  obtain ⟨w1, w2, w4, w5, n1, n2, n3⟩ := F
  obtain ⟨hx, hb, hr, hml, hown, hts, hK, hlk, hnm, hNW⟩ := id X
  have hG : GoodIn TBL (va_wsS y.cls idx y2 (Cond.code y2 cc2 nL2 ret2 :: TBL)) := good_app (fun w hw => by
    simp only [List.mem_cons, List.not_mem_nil, or_false] at hw
    rcases hw with rfl | rfl | rfl <;> assumption) (good_code w5)
  have cw := va_cwS (R := rm d mc ms) (s := s) (args := args) (own := y.cls) (index := idx) (y := y2) (bytes := cc2) (maxL := nL2) (mc := mc2) (ms := ms2) (ret := ret2) (ws := Cond.code y2 cc2 nL2 ret2 :: TBL) (rm := rm d2 mc2 ms2) k hts hG rfl rfl rfl ⟨n1, n2, n3⟩ (rm_ok hdd hn)
  refine run_go (va_runS (As := As) (rest := rest) ⟨hx, hb, hml, hown, hts⟩ hM cw ⟨blind, pre_at hP hK hNW hB hS⟩ rfl hk hL.1 rfl (by show 2 * 0 + _ ≤ 8; omega) hd ⟨hc, hs⟩) hS ?_
  intro v h' H1 locs1 hq2 hP1 hS1
  exact kk v h' hq2 p e s m args below meth c H1 locs1 ls X hS1 hB hP1 hL
theorem V.ini {idx b nL2 d2 mc2 ms2 k : Nat} {y2 : MethodName} {cc2 : ByteArray} {As rest : List Value} {Q2 : Option Value → HT → Prop} (F : CN y.cls idx y2 cc2 nL2 k) (hM : Ct l D E B y2 cc2 nL2 none d2 mc2 ms2 (.ref b :: As) (n, T, I, J, P) Q2) (hd : decode cc pc = .ok (.invokespecial idx, 3)) (hk : As.length = k) (hst : st = As.reverse ++ .ref b :: rest) (hW : (rest.map fun v => v.category).sum ≤ 8) (hdd : d2 + 1 ≤ d) (hn : nL2 ≤ 40) (hc : cells + mc2 ≤ mc) (hs : slots + ms2 ≤ ms)
    (kk : ∀ (v : Option Value) (h' : HT), Q2 v h' → V l D E B y cc nL ret d mc ms Q (cells + mc2) (slots + ms2) h' (pc + 3) vs (v.toList ++ rest)) : V l D E B y cc nL ret d mc ms Q cells slots (n, T, I, J, P) pc vs st := by
  intro p e s m args below meth c H locs ls X hS hB hP hL
  subst hst
  obtain ⟨w1, w2, w4, w5, n1, n2, n3, n4⟩ := F
  obtain ⟨hx, hb, hr, hml, hown, hts, hK, hlk, hnm, hNW⟩ := id X
  have go : va_Run p l e (rm d mc ms) s m args below meth c H locs cells slots mc2 ms2 (F0 m pc ls (As.reverse ++ .ref b :: rest)) rest (QQ D E B Q2 (Value.ref b :: As).toArray) B := by
    rcases w1 with w1 | ⟨host, w1⟩
    · exact va_runI (As := As) (rest := rest) ⟨hx, hb, hml, hown, hts⟩ hM (cwI k hts (good_code w5) rfl rfl rfl (hts _ w4) (hts _ w1) (hts _ w2) n4 ⟨n1, n2, n3⟩ (rm_ok hdd hn)) ⟨blind, pre_at hP hK hNW hB hS⟩ rfl hk hL.1 rfl (by show 2 * 0 + _ ≤ 8; omega) hd ⟨hc, hs⟩
    · exact va_runIN (As := As) (rest := rest) ⟨hx, hb, hml, hown, hts⟩ hM ⟨va_cnB k hts (good_code w5) rfl rfl rfl (hNW.1 _ w1 rfl) (hts _ w4) ⟨n1, n2, n3⟩ (rm_ok hdd hn), n4, hts _ w2⟩ ⟨blind, pre_at hP hK hNW hB hS⟩ rfl hk hL.1 rfl (by show 2 * 0 + _ ≤ 8; omega) hd ⟨hc, hs⟩
  refine run_go go hS ?_
  intro v h' H1 locs1 hq2 hP1 hS1
  exact kk v h' hq2 p e s m args below meth c H1 locs1 ls X hS1 hB hP1 hL
end VN
