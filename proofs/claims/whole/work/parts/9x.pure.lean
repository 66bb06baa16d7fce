/-! the law at a place: two pictures of one heap, the class's and the reference's -/
def Bx (s : State) (z : Nat) : Nat → Prop := fun q => s.heap.size ≤ q ∧ ¬ (z ≤ q ∧ q < z + 21)
def Bm (z : Nat) : Nat → Prop := fun q => z ≤ q ∧ q < z + 21
def Bn (z n : Nat) : Nat → Prop := fun q => (z ≤ q ∧ q < z + 21) ∨ n ≤ q
def LE (p : Program) (s : State) (m : MethodId) (meth : Method) (c : Code) (b L : Nat) (xs : Nat → Int32) (D : va_G) (E : Nat → ClassId) : Prop := lw_At p s m meth c b L xs ∧ va_K D classes (tys E) s ∧ ∀ B : Nat → Prop, (∀ q, B q → s.heap.size ≤ q) → NW E B s
section LAW
variable {p : Program} {l : Launch} {e : Env} {s : State} {m : MethodId} {below : List Frame} {meth : Method} {c : Code} {b L : Nat} {xs : Nat → Int32} {D : va_G} {E : Nat → ClassId} {B : Nat → Prop} {H : Heap} {cells slots pc k x z : Nat} {ls : Array Slot} {st rest : List Value} {h hz : HT}
variable {n : Nat} {T : Nat → Option (Nat × Nat)} {I : Nat → Nat → Int32} {J : Nat → Nat → Int64} {P : Nat → Nat → Option Nat} {Tz : Nat → Option (Nat × Nat)} {Iz Iz2 : Nat → Nat → Int32} {Jz Jz2 : Nat → Nat → Int64} {Pz : Nat → Nat → Option Nat}
def LW (p : Program) (l : Launch) (e : Env) (s : State) (m : MethodId) (below : List Frame) (meth : Method) (c : Code) (b : Nat) (D : va_G) (E : Nat → ClassId) (x z cells slots : Nat) (h hz : HT) (k pc : Nat) (st : List Value) : Prop := ∀ (H : Heap) (ls : Array Slot), va_S (fun q => s.heap.size ≤ q) s.heap H [] → PIC D E (Bx s z) h H → PIC D E (Bm z) hz H → lv_has ls 4 [(0, .ref b), (1, .ref x), (2, .ref z), (3, .int (nI k))] → W p l e room_1 s m #[Value.ref b] below meth c H [] cells slots (lw_Z below #[Value.ref b] s) (F0 m pc ls st)
theorem law_run {args : Array Value} {mc2 ms2 : Nat} {st0 : List Value} {Q2 : Option Value → HT → Prop} {a2 : Array Value} {R : Room} {Qs : State → Prop}
    (hr : va_Run p l e R s m args below meth c H [] cells slots mc2 ms2 (F0 m pc ls st0) rest (QQ D E B Q2 a2) B) (hB : ∀ q, B q → s.heap.size ≤ q) (hS : va_S (fun q => s.heap.size ≤ q) s.heap H [])
    (kk : ∀ (v : Option Value) (h' : HT) (H1 : Heap), Q2 v h' → PIC D E B h' H1 → va_S (fun q => s.heap.size ≤ q) s.heap H1 [] → H.size ≤ H1.size → (∀ q, q < H.size → ¬ B q → H1[q]? = H[q]?) → W p l e R s m args below meth c H1 [] (cells + mc2) (slots + ms2) Qs (F0 m (pc + 3) ls (v.toList ++ rest))) : W p l e R s m args below meth c H [] cells slots Qs (F0 m pc ls st0) := by
  intro T0 hT X
  obtain ⟨v, st₀, t, T', L', h0, X', hL, e1, e2, ⟨⟨v', h', hv, hq, hpic⟩, hz, hk⟩, stp⟩ := hr T0 hT X
  cases hv
  rw [h0, ← e1] at hz
  rw [h0, ← e1] at hk
  rw [← e1] at hpic
  have hk : ∀ q, q < H.size → ¬ B q → T'.heap[q]? = H[q]? := hk
  obtain ⟨t2, a1, b1⟩ := va_forget (locs := [] ++ L') (fun q hq => hB _ (hL q (by simpa using hq))) (kk v h' T'.heap hq hpic ⟨Nat.le_trans hS.1 hz, fun q h1 h2 => (hk q (Nat.lt_of_lt_of_le h1 hS.1) (fun hb => h2 (hB q hb))).trans (hS.2.1 q h1 h2), fun _ h => by cases h⟩ hz hk) T' rfl X'
  exact ⟨t2, stp t2 a1, b1⟩
theorem law_pre {av : List Value} (hP : PIC D E B h H) (hK : va_K D classes (tys E) s) (hN : NW E B s) (hBn : ∀ q, H.size ≤ q → B q) (hS : va_S (fun q => s.heap.size ≤ q) s.heap H []) : ∀ U : State, U.heap = H → s.WarmedH U.vm → va_Pc av (fun U => PIC D E B h U.heap ∧ va_K D classes (tys E) U ∧ NW E B U ∧ ∀ q, U.heap.size ≤ q → B q) av.toArray U := by
  intro U hU hW
  refine ⟨rfl, by rw [hU]; exact hP, va_K.moved hW.alike hK, ⟨fun w hw hn => ?_, ?_⟩, fun q hq => hBn q (by rw [hU] at hq; exact hq)⟩
  · cases w <;> first | (cases hn; done) | skip
    exact va_Nw.warmM hW (hN.1 _ hw hn)
  · exact SX.go hW.alike (fun o i t q hr => vk_R.warm hW hr) (fun a h1 h2 => by rw [hU]; exact hS.2.1 a h1 (Nat.not_le.mpr h1)) hN.2
theorem law_tbl (X : LE p s m meth c b L xs D E) : ∀ w ∈ TBL, w.before #[Value.ref b] s = true := fun w hw => X.1.2.2.2.2.2.1 w (List.mem_filter.mp hw).1
theorem law_call {idx bb ci zz nL2 d2 mc2 ms2 ka : Nat} {y2 : MethodName} {cc2 : ByteArray} {ret2 : Option FieldType} {As : List Value} {Q2 : Option Value → HT → Prop} {Qs : State → Prop} (X : LE p s m meth c b L xs D E) (hB : ∀ q, B q → s.heap.size ≤ q) (hBn : ∀ q, H.size ≤ q → B q) (F : CV RL idx y2 cc2 nL2 ret2 ka) (hM : Ct l D E B y2 cc2 nL2 ret2 d2 mc2 ms2 (.ref bb :: As) (n, T, I, J, P) Q2) (hd : decode code pc = .ok (.invokevirtual idx, 3)) (hT : T bb = some (ci, zz)) (hci : ci < 20) (hcl : (classes[ci]?).map (fun q => q.1) = some y2.cls) (hk : As.length = ka) (hW : (rest.map fun v => v.category).sum ≤ 8) (hdd : d2 ≤ 300) (hn : nL2 ≤ 40) (hc : cells + mc2 ≤ 600000) (hs : slots + ms2 ≤ 7302250) (hl : ls.size = 4) (hP : PIC D E B (n, T, I, J, P) H) (hS : va_S (fun q => s.heap.size ≤ q) s.heap H [])
    (kk : ∀ (v : Option Value) (h' : HT) (H1 : Heap), Q2 v h' → PIC D E B h' H1 → va_S (fun q => s.heap.size ≤ q) s.heap H1 [] → H.size ≤ H1.size → (∀ q, q < H.size → ¬ B q → H1[q]? = H[q]?) → W p l e room_1 s m #[Value.ref b] below meth c H1 [] (cells + mc2) (slots + ms2) Qs (F0 m (pc + 3) ls (v.toList ++ rest))) : W p l e room_1 s m #[Value.ref b] below meth c H [] cells slots Qs (F0 m pc ls (As.reverse ++ .ref bb :: rest)) := by
  obtain ⟨w1, w2, w3, w4, w5, n1, n2, n3⟩ := F
  obtain ⟨hx, hb, hr, hml, hown, hts0, hX, hbl, hlocks, hgv⟩ := id X.1
  have hts := law_tbl X
  have hK := X.2.1
  have hNW := X.2.2 B hB
  have hG : GoodIn TBL (wsV RL idx y2.cls y2 (Cond.code y2 cc2 nL2 ret2 :: TBL)) := good_app (fun w hw => by
    simp only [List.mem_cons, List.not_mem_nil, or_false] at hw
    rcases hw with rfl | rfl | rfl | rfl <;> assumption) (good_code w5)
  have cw : CallW room_1 s #[Value.ref b] RL y2.cls idx y2 cc2 nL2 ret2 (Cond.code y2 cc2 nL2 ret2 :: TBL) (rm d2 mc2 ms2) mc2 ms2 ka := cwV ka hts hG rfl rfl rfl ⟨rfl, n1, n2, n3⟩ ⟨by show d2 + 1 ≤ 2048; omega, by show 8 + (nL2 + 11) + 64 * d2 ≤ 84000; omega⟩
  obtain ⟨q, hq⟩ : ∃ q, classes[ci]? = some q := by
    cases hh : classes[ci]? with
    | none => rw [hh] at hcl; cases hcl
    | some q => exact ⟨q, rfl⟩
  have hq1 : q.1 = y2.cls := by rw [hq] at hcl; exact Option.some.inj hcl
  have hrec := va_recv hK (hP.obj hT hci) hq (q0 := 0) rfl
  rw [hq1] at hrec
  exact law_run (va_runV (As := As) (rest := rest) ⟨hx, hb, hml, hown, hts⟩ hM cw ⟨blind, hrec, law_pre hP hK hNW hBn hS⟩ rfl hk hl rfl (by show 2 * 0 + _ ≤ 8; omega) hd ⟨hc, hs⟩) hB hS kk
theorem PIC.other {n' : Nat} {B' : Nat → Prop} {H1 : Heap} (h : PIC D E B' (n, T, I, J, P) H) (hz : H1.size = n') (hk : ∀ q, q < H.size → ¬ B q → H1[q]? = H[q]?) (hb : ∀ q, q < H.size → B' q → ¬ B q) : PIC D E B' (n', T, I, J, P) H1 := ⟨hz, fun a sh e => by
  obtain ⟨h1, h2⟩ := h.2 a sh e
  have hl := h2.lt
  exact ⟨h1, h2.kept (hk a hl (hb a hl h1))⟩⟩
/-- the class is called -/
theorem LW.cx {idx nL2 d2 mc2 ms2 ka : Nat} {y2 : MethodName} {cc2 : ByteArray} {ret2 : Option FieldType} {As : List Value} {Q2 : Option Value → HT → Prop} (X : LE p s m meth c b L xs D E) (F : CV RL idx y2 cc2 nL2 ret2 ka) (hM : Ct l D E (Bx s z) y2 cc2 nL2 ret2 d2 mc2 ms2 (.ref x :: As) (n, T, I, J, P) Q2) (hd : decode code pc = .ok (.invokevirtual idx, 3)) (hT : T x = some (11, 0)) (hcl : y2.cls = RX11) (hk : As.length = ka) (hW : (rest.map fun v => v.category).sum ≤ 8) (hdd : d2 ≤ 300) (hn : nL2 ≤ 40) (hc : cells + mc2 ≤ 600000) (hs : slots + ms2 ≤ 7302250) (hzn : z + 21 ≤ n)
    (kk : ∀ (v : Option Value) (h' : HT), Q2 v h' → n ≤ h'.1 → LW p l e s m below meth c b D E x z (cells + mc2) (slots + ms2) h' (h'.1, Tz, Iz, Jz, Pz) k (pc + 3) (v.toList ++ rest)) : LW p l e s m below meth c b D E x z cells slots (n, T, I, J, P) (n, Tz, Iz, Jz, Pz) k pc (As.reverse ++ .ref x :: rest) := by
  intro H ls hS hP hz hl
  have hsz : H.size = n := hP.1
  refine law_call X (fun q hq => hq.1) (fun q hq => ⟨Nat.le_trans hS.1 hq, fun hc => by omega⟩) F hM hd hT (by decide) (by rw [hcl]; rfl) hk hW hdd hn hc hs hl.1 hP hS fun v h' H1 hq hP1 hS1 hle hk1 => ?_
  have hs1 : H1.size = h'.1 := hP1.1
  exact kk v h' hq (by omega) H1 ls hS1 hP1 (hz.other (B := Bx s z) hs1 hk1 (fun q _ h1 h2 => h2.2 h1)) hl
/-- the reference is called -/
theorem LW.cz {idx nL2 d2 ka : Nat} {y2 : MethodName} {cc2 : ByteArray} {ret2 : Option FieldType} {As : List Value} {rv : Value} (X : LE p s m meth c b L xs D E) (hsz : s.heap.size ≤ z) (F : CV RL idx y2 cc2 nL2 ret2 ka) (hM : Ct l D E (Bn z n) y2 cc2 nL2 ret2 d2 0 0 (.ref z :: As) (n, Tz, Iz, Jz, Pz) (Ret (some rv) (n, Tz, Iz2, Jz2, Pz))) (hd : decode code pc = .ok (.invokevirtual idx, 3)) (hT : Tz z = some (12, 0)) (hcl : y2.cls = RX12) (hk : As.length = ka) (hW : (rest.map fun v => v.category).sum ≤ 8) (hdd : d2 ≤ 300) (hn : nL2 ≤ 40) (hc : cells ≤ 600000) (hs : slots ≤ 7302250) (hzn : z + 21 ≤ n)
    (kk : LW p l e s m below meth c b D E x z cells slots (n, T, I, J, P) (n, Tz, Iz2, Jz2, Pz) k (pc + 3) (rv :: rest)) : LW p l e s m below meth c b D E x z cells slots (n, T, I, J, P) (n, Tz, Iz, Jz, Pz) k pc (As.reverse ++ .ref z :: rest) := by
  intro H ls hS hP hz hl
  have hsn : H.size = n := hP.1
  have hw : PIC D E (Bn z n) (n, Tz, Iz, Jz, Pz) H := ⟨hz.1, fun a sh e => ⟨Or.inl (hz.2 a sh e).1, (hz.2 a sh e).2⟩⟩
  have h0 := hS.1
  refine law_call X (fun q hq => ?_) (fun q hq => Or.inr (by omega)) F hM hd hT (by decide) (by rw [hcl]; rfl) hk hW hdd hn hc hs hl.1 hw hS fun v h' H1 hq hP1 hS1 hle hk1 => ?_
  · rcases hq with hq | hq <;> omega
  · obtain ⟨rfl, rfl⟩ := hq
    have hs1 : H1.size = n := hP1.1
    exact kk H1 ls hS1 (hP.other (B := Bn z n) hs1 hk1 (fun q h1 h2 h3 => by
      rcases h3 with h3 | h3
      · exact h2.2 h3
      · omega)) ⟨hs1, fun a sh e => ⟨(hz.2 a sh e).1, (hP1.2 a sh e).2⟩⟩ hl
/-- a word of the script is laid on the stack -/
abbrev argAt (pc : Nat) (j : Int) : Prop := decode code pc = .ok (.aload_n 0, 1) ∧ decode code (pc + 1) = .ok (.iload_n 3, 1) ∧ decode code (pc + 1 + 1) = .ok (.iconst j, 1) ∧ decode code (pc + 1 + 1 + 1) = .ok (.iadd, 1) ∧ decode code (pc + 1 + 1 + 1 + 1) = .ok (.iaload, 1)
theorem LW.arg {j : Nat} {ji : Int} (X : LE p s m meth c b L xs D E) (hL : L ≤ 3072) (hk : k + j < L) (hj : Int32.ofInt ji = nI j) (hd : argAt pc ji) (kk : LW p l e s m below meth c b D E x z cells slots h hz k (pc + 5) (.int (xs (k + j)) :: st)) : LW p l e s m below meth c b D E x z cells slots h hz k pc st := by
  obtain ⟨hx, hb, hr, hml, hown, hts0, hX, hbl, hlocks, hgv⟩ := id X.1
  intro H ls hS hP hz hl
  obtain ⟨d1, d2, d3, d4, d5⟩ := hd
  refine lv_aload_n hx hb d1 rfl (lv_at hl 0 rfl) ?_
  refine lv_iload_n hx hb d2 rfl (lv_at hl 3 rfl) ?_
  refine lv_iconst hx hb d3 hj ?_
  refine lv_iadd hx hb d4 ?_
  rw [nI_add]
  refine va_sld (i := nI (k + j)) (A := fun q => s.heap.size ≤ q) hx hb hX hbl (Nat.not_le.mpr hbl) hS (vp_in_nI hk (by omega)) d5 ?_
  rw [nI_clamp (by omega)]
  exact kk H ls hS hP hz hl
theorem LW.ax (X : LE p s m meth c b L xs D E) (hd : decode code pc = .ok (.aload_n 1, 1)) (kk : LW p l e s m below meth c b D E x z cells slots h hz k (pc + 1) (.ref x :: st)) : LW p l e s m below meth c b D E x z cells slots h hz k pc st := by
  intro H ls hS hP hz hl
  refine lv_aload_n X.1.1 X.1.2.1 hd rfl (lv_at hl 1 rfl) ?_
  exact kk H ls hS hP hz hl
theorem LW.az (X : LE p s m meth c b L xs D E) (hd : decode code pc = .ok (.aload_n 2, 1)) (kk : LW p l e s m below meth c b D E x z cells slots h hz k (pc + 1) (.ref z :: st)) : LW p l e s m below meth c b D E x z cells slots h hz k pc st := by
  intro H ls hS hP hz hl
  refine lv_aload_n X.1.1 X.1.2.1 hd rfl (lv_at hl 2 rfl) ?_
  exact kk H ls hS hP hz hl
/-- what is laid on the stack between two places -/
def Psh (p : Program) (l : Launch) (e : Env) (s : State) (m : MethodId) (below : List Frame) (meth : Method) (c : Code) (b : Nat) (D : va_G) (E : Nat → ClassId) (x z k pc pc' : Nat) (vs : List Value) : Prop := ∀ (cells slots : Nat) (h hz : HT) (st : List Value), LW p l e s m below meth c b D E x z cells slots h hz k pc' (vs.reverse ++ st) → LW p l e s m below meth c b D E x z cells slots h hz k pc st
theorem Psh.nil : Psh p l e s m below meth c b D E x z k pc pc [] := fun _ _ _ _ _ h => h
theorem Psh.snoc {pc' : Nat} {vs : List Value} {j : Nat} {ji : Int} (h : Psh p l e s m below meth c b D E x z k pc pc' vs) (X : LE p s m meth c b L xs D E) (hL : L ≤ 3072) (hk : k + j < L) (hj : Int32.ofInt ji = nI j) (hd : argAt pc' ji) : Psh p l e s m below meth c b D E x z k pc (pc' + 5) (vs ++ [.int (xs (k + j))]) := fun cells slots h0 hz st kk => h cells slots h0 hz st (LW.arg X hL hk hj hd (by rw [List.reverse_append] at kk; exact kk))
/-- what goes on behind a call -/
def LNx (p : Program) (l : Launch) (e : Env) (s : State) (m : MethodId) (below : List Frame) (meth : Method) (c : Code) (b : Nat) (D : va_G) (E : Nat → ClassId) (x z : Nat) (Tz : Nat → Option (Nat × Nat)) (Pz : Nat → Nat → Option Nat) (k N : Nat) : Prop := ∀ (cells slots n c' : Nat) (T : Nat → Option (Nat × Nat)) (I : Nat → Nat → Int32) (J : Nat → Nat → Int64) (P : Nat → Nat → Option Nat) (Iz : Nat → Nat → Int32) (Jz : Nat → Nat → Int64), InvF T I J P x n c' Iz Jz z (N + 1) → z + 21 ≤ n → cells ≤ 245 + 908 * (N + 1) → slots ≤ 13400 + 1012 * (N + 1) → LW p l e s m below meth c b D E x z cells slots (n, T, I, J, P) (n, Tz, Iz, Jz, Pz) k 1671 []
section
variable {yx yz : MethodName} {cx cz : ByteArray} {nLx dx mc ms nLz dz ix iz ka N c0 q1 q2 : Nat} {off : Int} {As : List Value}
theorem LW.pairI (X : LE p s m meth c b L xs D E) (hsz : s.heap.size ≤ z) (hz : isMd Tz Pz z) (hF : InvF T I J P x n c0 Iz Jz z N) (hN : N < 512) (hn : z + 21 ≤ n) (hc : cells ≤ 245 + 908 * N) (hs : slots ≤ 13400 + 1012 * N) (pr : Pair l D E (Bx s z) (Bx s z) yx cx nLx dx mc ms yz cz nLz dz (some .int) As T I J P x n n Tz Iz Jz Pz z N) (Fx : CV RL ix yx cx nLx (some .int) ka) (Fz : CV RL iz yz cz nLz (some .int) ka) (hyx : yx.cls = RX11) (hyz : yz.cls = RX12) (hka : As.length = ka) (hm : dx ≤ 300 ∧ dz ≤ 300 ∧ nLx ≤ 40 ∧ nLz ≤ 40 ∧ mc ≤ 908 ∧ ms ≤ 1012) (d0 : decode code pc = .ok (.aload_n 1, 1)) (P1 : Psh p l e s m below meth c b D E x z k (pc + 1) q1 As) (d1 : decode code q1 = .ok (.invokevirtual ix, 3)) (d2 : decode code (q1 + 3) = .ok (.aload_n 2, 1)) (P2 : Psh p l e s m below meth c b D E x z k (q1 + 4) q2 As) (d3 : decode code q2 = .ok (.invokevirtual iz, 3)) (d4 : decode code (q2 + 3) = .ok (.if_icmp .eq off, 3)) (ht : ((q2 + 3 : Nat) : Int) + off = (1671 : Nat)) (nx : LNx p l e s m below meth c b D E x z Tz Pz k N) : LW p l e s m below meth c b D E x z cells slots (n, T, I, J, P) (n, Tz, Iz, Jz, Pz) k pc [] := by
  obtain ⟨rv, Iz2, Jz2, Q, hv, hr, hx, hQ⟩ := pr
  obtain ⟨m1, m2, m3, m4, m5, m6⟩ := hm
  obtain ⟨r, rfl⟩ : ∃ r, rv = .int r := by
    cases rv <;> first | exact ⟨_, rfl⟩ | cases hv
  have hTx : T x = some (11, 0) := hF.1.1.1 0 (11, 0) rfl
  refine LW.ax X d0 (P1 _ _ _ _ _ (LW.cx X Fx hx d1 hTx hyx hka (by decide) m1 m3 (by omega) (by omega) hn fun v h' hq hle => ?_))
  obtain ⟨rfl, c', hF'⟩ := hQ v h' hq
  obtain ⟨n', T', I', J', P'⟩ := h'
  have hle : n ≤ n' := hle
  refine LW.az X d2 (P2 _ _ _ _ _ (LW.cz X hsz Fz hr d3 (hz.1 0 (12, 0) rfl) hyz hka (by show (1 + 0 : Nat) ≤ 8; omega) m2 m4 (by omega) (by omega) (by omega) ?_))
  intro H ls hS hP hz' hl
  refine lv_icmp_eq (tgt := 1671) X.1.1 X.1.2.1 d4 ht (fun _ => ?_) (fun cc => absurd rfl cc)
  exact nx _ _ n' c' T' I' J' P' Iz2 Jz2 hF' (by omega) (by omega) (by omega) H ls hS hP hz' hl
theorem LW.pairJ (X : LE p s m meth c b L xs D E) (hsz : s.heap.size ≤ z) (hz : isMd Tz Pz z) (hF : InvF T I J P x n c0 Iz Jz z N) (hN : N < 512) (hn : z + 21 ≤ n) (hc : cells ≤ 245 + 908 * N) (hs : slots ≤ 13400 + 1012 * N) (pr : Pair l D E (Bx s z) (Bx s z) yx cx nLx dx mc ms yz cz nLz dz (some .long) As T I J P x n n Tz Iz Jz Pz z N) (Fx : CV RL ix yx cx nLx (some .long) ka) (Fz : CV RL iz yz cz nLz (some .long) ka) (hyx : yx.cls = RX11) (hyz : yz.cls = RX12) (hka : As.length = ka) (hm : dx ≤ 300 ∧ dz ≤ 300 ∧ nLx ≤ 40 ∧ nLz ≤ 40 ∧ mc ≤ 908 ∧ ms ≤ 1012) (d0 : decode code pc = .ok (.aload_n 1, 1)) (P1 : Psh p l e s m below meth c b D E x z k (pc + 1) q1 As) (d1 : decode code q1 = .ok (.invokevirtual ix, 3)) (d2 : decode code (q1 + 3) = .ok (.aload_n 2, 1)) (P2 : Psh p l e s m below meth c b D E x z k (q1 + 4) q2 As) (d3 : decode code q2 = .ok (.invokevirtual iz, 3)) (d4 : decode code (q2 + 3) = .ok (.lcmp, 1)) (d5 : decode code (q2 + 4) = .ok (.ifCond .eq off, 3)) (ht : ((q2 + 4 : Nat) : Int) + off = (1671 : Nat)) (nx : LNx p l e s m below meth c b D E x z Tz Pz k N) : LW p l e s m below meth c b D E x z cells slots (n, T, I, J, P) (n, Tz, Iz, Jz, Pz) k pc [] := by
  obtain ⟨rv, Iz2, Jz2, Q, hv, hr, hx, hQ⟩ := pr
  obtain ⟨m1, m2, m3, m4, m5, m6⟩ := hm
  obtain ⟨r, rfl⟩ : ∃ r, rv = .long r := by
    cases rv <;> first | exact ⟨_, rfl⟩ | cases hv
  have hTx : T x = some (11, 0) := hF.1.1.1 0 (11, 0) rfl
  refine LW.ax X d0 (P1 _ _ _ _ _ (LW.cx X Fx hx d1 hTx hyx hka (by decide) m1 m3 (by omega) (by omega) hn fun v h' hq hle => ?_))
  obtain ⟨rfl, c', hF'⟩ := hQ v h' hq
  obtain ⟨n', T', I', J', P'⟩ := h'
  have hle : n ≤ n' := hle
  refine LW.az X d2 (P2 _ _ _ _ _ (LW.cz X hsz Fz hr d3 (hz.1 0 (12, 0) rfl) hyz hka (by show (2 + 0 : Nat) ≤ 8; omega) m2 m4 (by omega) (by omega) (by omega) ?_))
  intro H ls hS hP hz' hl
  refine W.lcmp X.1.1 X.1.2.1 d4 ?_
  refine lv_if_eq (tgt := 1671) X.1.1 X.1.2.1 d5 ht (fun _ => ?_) (fun cc => absurd (by simp [lg_cmp] : lg_cmp r r = 0) cc)
  exact nx _ _ n' c' T' I' J' P' Iz2 Jz2 hF' (by omega) (by omega) (by omega) H ls hS hP hz' hl
end
end LAW
