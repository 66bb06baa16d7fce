def uI (I : Nat → Nat → Int32) (a k : Nat) (v : Int32) : Nat → Nat → Int32 := fun q => if q = a then upd (I q) k v else I q
def uJ (J : Nat → Nat → Int64) (a k : Nat) (v : Int64) : Nat → Nat → Int64 := fun q => if q = a then vp_updL (J q) k v else J q
def uP (P : Nat → Nat → Option Nat) (a k : Nat) (v : Option Nat) : Nat → Nat → Option Nat := fun q => if q = a then va_up (P q) k v else P q
theorem uI_s (I : Nat → Nat → Int32) (a k : Nat) (v : Int32) : uI I a k v a = upd (I a) k v := by simp [uI]
theorem uI_n (I : Nat → Nat → Int32) {a q : Nat} (k : Nat) (v : Int32) (h : q ≠ a) : uI I a k v q = I q := by simp [uI, h]
theorem uJ_s (J : Nat → Nat → Int64) (a k : Nat) (v : Int64) : uJ J a k v a = vp_updL (J a) k v := by simp [uJ]
theorem uJ_n (J : Nat → Nat → Int64) {a q : Nat} (k : Nat) (v : Int64) (h : q ≠ a) : uJ J a k v q = J q := by simp [uJ, h]
theorem uP_s (P : Nat → Nat → Option Nat) (a k : Nat) (v : Option Nat) : uP P a k v a = va_up (P a) k v := by simp [uP]
theorem uP_n (P : Nat → Nat → Option Nat) {a q : Nat} (k : Nat) (v : Option Nat) (h : q ≠ a) : uP P a k v q = P q := by simp [uP, h]
theorem cel_obj {E : Nat → ClassId} {c z : Nat} {i : Nat → Int32} {j : Nat → Int64} {r : Nat → Option Nat} (hc : c < 20) : cel E (c, z) i j r = .inr (c, flds c i j r) := by
  unfold cel
  rw [if_neg (by show ¬ c = 20; omega), if_neg (by show ¬ c = 21; omega), if_neg (by show ¬ c = 22; omega), if_neg (by show ¬ c = 23; omega), if_neg (by show ¬ c = 24; omega), if_neg (by show ¬ c = 25; omega), if_neg (by show ¬ c = 26; omega)]
theorem PIC.one {D : va_G} {E : Nat → ClassId} {B : Nat → Prop} {n : Nat} {T : Nat → Option (Nat × Nat)} {I : Nat → Nat → Int32} {J : Nat → Nat → Int64} {P : Nat → Nat → Option Nat} {H : Heap} {a : Nat} {sh : Nat × Nat} (h : PIC D E B (n, T, I, J, P) H) (hT : T a = some sh) : va_P D classes [(a, cel E sh (I a) (J a) (P a))] H := fun k q hk => by
  have hz : k < 1 := (List.getElem?_eq_some_iff.mp hk).1
  rw [show k = 0 by omega] at hk
  cases hk
  exact (h.2 a sh hT).2
theorem PIC.obj {D : va_G} {E : Nat → ClassId} {B : Nat → Prop} {n c z : Nat} {T : Nat → Option (Nat × Nat)} {I : Nat → Nat → Int32} {J : Nat → Nat → Int64} {P : Nat → Nat → Option Nat} {H : Heap} {a : Nat} (h : PIC D E B (n, T, I, J, P) H) (hT : T a = some (c, z)) (hc : c < 20) : va_P D classes [(a, .inr (c, flds c (I a) (J a) (P a)))] H := by
  have h1 := h.one hT
  rw [cel_obj hc] at h1
  exact h1
theorem PIC.upd {D : va_G} {E : Nat → ClassId} {B : Nat → Prop} {n : Nat} {T : Nat → Option (Nat × Nat)} {I I' : Nat → Nat → Int32} {J J' : Nat → Nat → Int64} {P P' : Nat → Nat → Option Nat} {H H1 : Heap} {a : Nat} {sh : Nat × Nat} (h : PIC D E B (n, T, I, J, P) H) (hT : T a = some sh) (hz : H1.size = H.size) (oq : ∀ q : Nat, q ≠ a → H1[q]? = H[q]?) (hI : ∀ q, q ≠ a → I' q = I q) (hJ : ∀ q, q ≠ a → J' q = J q) (hP : ∀ q, q ≠ a → P' q = P q) (hc : va_at D classes (a, cel E sh (I' a) (J' a) (P' a)) H1) : PIC D E B (n, T, I', J', P') H1 := by
  refine ⟨hz.trans h.1, fun q sq hq => ?_⟩
  obtain ⟨h1, h2⟩ := h.2 q sq hq
  refine ⟨h1, ?_⟩
  by_cases e : q = a
  · subst e
    have e2 : sq = sh := Option.some.inj (hq.symm.trans hT)
    subst e2
    exact hc
  · show va_at D classes (q, cel E sq (I' q) (J' q) (P' q)) H1
    rw [hI q e, hJ q e, hP q e]
    exact va_at.kept h2 (oq q e)
theorem PIC.push {D : va_G} {E : Nat → ClassId} {B : Nat → Prop} {n : Nat} {T : Nat → Option (Nat × Nat)} {I I' : Nat → Nat → Int32} {J J' : Nat → Nat → Int64} {P P' : Nat → Nat → Option Nat} {H H1 : Heap} {sh : Nat × Nat} (h : PIC D E B (n, T, I, J, P) H) (hB : B n) (hz : H1.size = n + 1) (oq : ∀ q : Nat, q < n → H1[q]? = H[q]?) (hI : ∀ q, q ≠ n → I' q = I q) (hJ : ∀ q, q ≠ n → J' q = J q) (hP : ∀ q, q ≠ n → P' q = P q) (hc : va_at D classes (n, cel E sh (I' n) (J' n) (P' n)) H1) : PIC D E B (n + 1, va_up T n (some sh), I', J', P') H1 := by
  refine ⟨hz, fun q sq hq => ?_⟩
  by_cases e : q = n
  · subst e
    have hq : va_up T q (some sh) q = some sq := hq
    rw [va_up_self] at hq
    cases hq
    exact ⟨hB, hc⟩
  · have hq : va_up T n (some sh) q = some sq := hq
    rw [va_up_ne _ _ e] at hq
    obtain ⟨h1, h2⟩ := h.2 q sq hq
    refine ⟨h1, ?_⟩
    show va_at D classes (q, cel E sq (I' q) (J' q) (P' q)) H1
    rw [hI q e, hJ q e, hP q e]
    have hlt : q < n := by
      have := va_at.lt h2
      rw [h.1] at this
      exact this
    exact va_at.kept h2 (oq q hlt)
theorem va_S.new {A : Nat → Prop} {H0 H H1 : Heap} {locs : List Loc} {n : Nat} (h : va_S A H0 H locs) (hn : H.size = n) (hz : H1.size = n + 1) (oq : ∀ q : Nat, q < n → H1[q]? = H[q]?) : va_S A H0 H1 locs := by
  refine ⟨by rw [hz]; have := h.1; omega, fun q h1 h2 => ?_, h.2.2⟩
  rw [oq q (by have := h.1; omega)]
  exact h.2.1 q h1 h2
section VH
variable {l : Launch} {D : va_G} {E : Nat → ClassId} {B : Nat → Prop} {y : MethodName} {cc : ByteArray} {nL : Nat} {ret : Option FieldType} {d mc ms : Nat} {Q : Option Value → HT → Prop} {cells slots : Nat} {pc : Nat} {vs : List (Nat × Option Value)} {st : List Value}
variable {n : Nat} {T : Nat → Option (Nat × Nat)} {I I' : Nat → Nat → Int32} {J J' : Nat → Nat → Int64} {P P' : Nat → Nat → Option Nat}
theorem V.getf {a idx c k z : Nat} {ty : FieldType} {fin : Bool} {v : Value} (F : FL y.cls idx c k ty fin) (hd : decode cc pc = .ok (.getfield idx, 3)) (hT : T a = some (c, z)) (hc : c < 20) (hv : (flds c (I a) (J a) (P a))[k]? = some v) (kk : V l D E B y cc nL ret d mc ms Q cells slots (n, T, I, J, P) (pc + 3) vs (v :: st)) : V l D E B y cc nL ret d mc ms Q cells slots (n, T, I, J, P) pc vs (.ref a :: st) := by
  intro p e s m args below meth c0 H locs ls X hS hB hP hL
  obtain ⟨C, Tt, N, ty0, ⟨f1, f2, f3, f4⟩, hk, hw, hC, -, -⟩ := F
  refine va_get X.1 X.2.1 (own := y.cls) (ref := C) (C := C) (T := Tt) (N := N) (ci := c) (index := idx) X.2.2.2.2.2.1 f2 X.2.2.2.2.1 X.2.2.2.2.2.2.1 (hP.obj hT hc) 0 rfl f1 k hk (X.2.2.2.2.2.1 _ hw) (fun x hx => ?_) hv hd (kk p e s m args below meth c0 H locs ls X hS hB hP hL)
  rw [hC] at hx
  exact hx
theorem V.getr {a idx c k z r : Nat} {ty : FieldType} {fin : Bool} (F : FL y.cls idx c k ty fin) (hd : decode cc pc = .ok (.getfield idx, 3)) (hT : T a = some (c, z)) (hr : P a k = some r) (hc : c < 20) (hv : (flds c (I a) (J a) (P a))[k]? = some (va_rf (P a k))) (kk : V l D E B y cc nL ret d mc ms Q cells slots (n, T, I, J, P) (pc + 3) vs (.ref r :: st)) : V l D E B y cc nL ret d mc ms Q cells slots (n, T, I, J, P) pc vs (.ref a :: st) := by
  rw [hr] at hv
  exact V.getf F hd hT hc hv kk
theorem V.getrN {a idx c k z : Nat} {ty : FieldType} {fin : Bool} (F : FL y.cls idx c k ty fin) (hd : decode cc pc = .ok (.getfield idx, 3)) (hT : T a = some (c, z)) (hr : P a k = none) (hc : c < 20) (hv : (flds c (I a) (J a) (P a))[k]? = some (va_rf (P a k))) (kk : V l D E B y cc nL ret d mc ms Q cells slots (n, T, I, J, P) (pc + 3) vs (.null :: st)) : V l D E B y cc nL ret d mc ms Q cells slots (n, T, I, J, P) pc vs (.ref a :: st) := by
  rw [hr] at hv
  exact V.getf F hd hT hc hv kk
/-- a field is written: fin tells whether it is a final one, in its class's constructor -/
theorem V.putg {a idx c k z : Nat} {ty : FieldType} {fin : Bool} {v : Value} (F : FL y.cls idx c k ty fin) (hd : decode cc pc = .ok (.putfield idx, 3)) (hT : T a = some (c, z)) (hc : c < 20) (hfi : fin = true → y.name = "<init>" ∧ ∃ q, classes[c]? = some (y.cls, q)) (hn : narrow ty v = v) (hf : fits ty v = true) (hset : (flds c (I a) (J a) (P a)).set k v = flds c (I' a) (J' a) (P' a)) (hlen : k < (flds c (I a) (J a) (P a)).length) (hI : ∀ q, q ≠ a → I' q = I q) (hJ : ∀ q, q ≠ a → J' q = J q) (hP' : ∀ q, q ≠ a → P' q = P q)
    (kk : V l D E B y cc nL ret d mc ms Q cells slots (n, T, I', J', P') (pc + 3) vs st) : V l D E B y cc nL ret d mc ms Q cells slots (n, T, I, J, P) pc vs (v :: .ref a :: st) := by
  intro p e s m args below meth c0 H locs ls X hS hB hP hL
  obtain ⟨C, Tt, N, ty0, ⟨f1, f2, f3, f4⟩, hk, hw, hC, hty, hfin⟩ := F
  have hts := X.2.2.2.2.2.1
  have hK := X.2.2.2.2.2.2.1
  have hown := X.2.2.2.2.1
  have hap := va_apart (own := y.cls) hts f2 ty0 f3 f4 hK f1
  obtain ⟨r, h1, cell, q1, q2, q3, q4⟩ := (hP.obj hT hc) 0 _ rfl
  have hr : r = (C, Tt, N) := Option.some.inj (h1.symm.trans f1)
  subst hr
  obtain ⟨hSl, hfc, kC, hkC, hkind⟩ := hK.1 c _ f1
  obtain ⟨cf, kf, fi, f, hi, hsl⟩ := hSl k hk
  have hlay := hts _ (f2 _ (u_in_lay hk))
  have hst := (u_facts hfc hkC (u_lays hts f2 hk) hi).1
  have hdsc : parseFieldDescriptor (Tt k).2.2.1 = some ty := (f3 k hk).trans (by rw [hty])
  have hi2 : s.fieldFound? C (Tt k).2.1 (Tt k).2.2.1 = some (cf, kf, fi, f) := by rw [← hC]; exact hi
  have fin_ : ∀ (H' : Heap) (locs' : List Loc), H'[a]? = some (cell.setSlot f.slot v) → H'.size = H.size → (∀ q, q ≠ a → H'[q]? = H[q]?) → W p l e (rm d mc ms) s m args below meth c0 H' (locs ++ [⟨a, f.slot⟩]) cells slots (MQ below (QQ D E B Q) args s mc ms B) (F0 m (pc + 3) ls st) := by
    intro H' _ e1 e2 e3
    rw [hsl] at e1
    refine kk p e s m args below meth c0 H' _ ls X (hS.put e2 e3 (hP.2 a _ hT).1) hB (hP.upd hT e2 e3 hI hJ hP' ?_) hL
    rw [cel_obj hc, ← hset]
    exact ⟨_, f1, t_OB.to (V := updV (vp_V (flds c (I a) (J a) (P a))) k v) ⟨_, e1, q2, q3, t_set q4 hap hk v⟩ (fun j _ => vp_updV_set hlen v j)⟩
  cases fin with
  | false =>
    unfold u_lay at hlay
    rw [if_neg (by rw [hfin]; decide)] at hlay
    have h6 := u_store hfc hkC hkind hlay hi hdsc hn hf
    exact W.putK X.1 X.2.1 (f := f) ⟨hown, hts _ hw, ⟨_, _, _, hi2⟩, hst⟩ (by rw [q2]; exact h6) q1 q3 (by rw [hsl]; exact k2_hasslot (q4 k hk)) rfl rfl hd fun H' e1 e2 e3 => fin_ H' locs e1 e2 e3
  | true =>
    unfold u_lay at hlay
    rw [if_pos hfin] at hlay
    obtain ⟨hnm, q, hq⟩ := hfi rfl
    have hCy : C = y.cls := by
      have := Option.some.inj (f1.symm.trans hq)
      exact congrArg Prod.fst this
    have hcf : m.cls = cf := by
      obtain ⟨_, _, c', _, _, _, -, -, hf', -, -, -, hown2, -⟩ := Cond.laysFinal_spec hlay
      have e1 : c' = cf := by have := hi.symm.trans hf'; simp at this; exact this.1.symm
      rw [hC, hCy] at hown2
      rw [← e1]; exact Option.some.inj (hown.symm.trans hown2)
    have h6 := u_fits hfc hkC hkind (Or.inr hlay) hi hdsc hn hf
    exact W.putFinK X.1 X.2.1 hown (hts _ hw) hi2 hst hcf (X.2.2.2.2.2.2.2.2.1.trans hnm) (by rw [q2]; exact h6) q1 q3 (by rw [hsl]; exact k2_hasslot (q4 k hk)) rfl rfl hd fun H' e1 e2 e3 => fin_ H' locs e1 e2 e3
theorem V.puti {a idx c k z : Nat} {ty : FieldType} {fin : Bool} {x : Int32} (F : FL y.cls idx c k ty fin) (hd : decode cc pc = .ok (.putfield idx, 3)) (hT : T a = some (c, z)) (hc : c < 20) (hfi : fin = true → y.name = "<init>" ∧ ∃ q, classes[c]? = some (y.cls, q)) (hn : narrow ty (.int x) = .int x) (hf : fits ty (.int x) = true) (hset : (flds c (I a) (J a) (P a)).set k (.int x) = flds c (upd (I a) k x) (J a) (P a)) (hlen : k < (flds c (I a) (J a) (P a)).length)
    (kk : V l D E B y cc nL ret d mc ms Q cells slots (n, T, uI I a k x, J, P) (pc + 3) vs st) : V l D E B y cc nL ret d mc ms Q cells slots (n, T, I, J, P) pc vs (.int x :: .ref a :: st) :=
  V.putg (I' := uI I a k x) F hd hT hc hfi hn hf (by rw [uI_s]; exact hset) hlen (fun q h => uI_n I k x h) (fun _ _ => rfl) (fun _ _ => rfl) kk
theorem V.putl {a idx c k z : Nat} {ty : FieldType} {fin : Bool} {x : Int64} (F : FL y.cls idx c k ty fin) (hd : decode cc pc = .ok (.putfield idx, 3)) (hT : T a = some (c, z)) (hc : c < 20) (hfi : fin = true → y.name = "<init>" ∧ ∃ q, classes[c]? = some (y.cls, q)) (hn : narrow ty (.long x) = .long x) (hf : fits ty (.long x) = true) (hset : (flds c (I a) (J a) (P a)).set k (.long x) = flds c (I a) (vp_updL (J a) k x) (P a)) (hlen : k < (flds c (I a) (J a) (P a)).length)
    (kk : V l D E B y cc nL ret d mc ms Q cells slots (n, T, I, uJ J a k x, P) (pc + 3) vs st) : V l D E B y cc nL ret d mc ms Q cells slots (n, T, I, J, P) pc vs (.long x :: .ref a :: st) :=
  V.putg (J' := uJ J a k x) F hd hT hc hfi hn hf (by rw [uJ_s]; exact hset) hlen (fun _ _ => rfl) (fun q h => uJ_n J k x h) (fun _ _ => rfl) kk
theorem V.putr {a idx c k z x : Nat} {ty : FieldType} {fin : Bool} (F : FL y.cls idx c k ty fin) (hd : decode cc pc = .ok (.putfield idx, 3)) (hT : T a = some (c, z)) (hc : c < 20) (hfi : fin = true → y.name = "<init>" ∧ ∃ q, classes[c]? = some (y.cls, q)) (hn : narrow ty (.ref x) = .ref x) (hf : fits ty (.ref x) = true) (hset : (flds c (I a) (J a) (P a)).set k (.ref x) = flds c (I a) (J a) (va_up (P a) k (some x))) (hlen : k < (flds c (I a) (J a) (P a)).length)
    (kk : V l D E B y cc nL ret d mc ms Q cells slots (n, T, I, J, uP P a k (some x)) (pc + 3) vs st) : V l D E B y cc nL ret d mc ms Q cells slots (n, T, I, J, P) pc vs (.ref x :: .ref a :: st) :=
  V.putg (P' := uP P a k (some x)) F hd hT hc hfi hn hf (by rw [uP_s]; exact hset) hlen (fun _ _ => rfl) (fun _ _ => rfl) (fun q h => uP_n P k _ h) kk
/-! arrays -/
theorem V.iald {a len : Nat} {i : Int32} (hd : decode cc pc = .ok (.iaload, 1)) (hT : T a = some (20, len)) (hin : vp_in i len) (kk : V l D E B y cc nL ret d mc ms Q cells slots (n, T, I, J, P) (pc + 1) vs (.int (I a i.toNatClampNeg) :: st)) : V l D E B y cc nL ret d mc ms Q cells slots (n, T, I, J, P) pc vs (.int i :: .ref a :: st) :=
  fun p e s m args below meth c H locs ls X hS hB hP hL => va_iald X.1 X.2.1 X.2.2.2.2.2.2.1 (hP.one hT) 0 0 rfl rfl hin hd (kk p e s m args below meth c H locs ls X hS hB hP hL)
theorem V.bald {a len : Nat} {i : Int32} (hd : decode cc pc = .ok (.baload, 1)) (hT : T a = some (21, len)) (hin : vp_in i len) (kk : V l D E B y cc nL ret d mc ms Q cells slots (n, T, I, J, P) (pc + 1) vs (.int (I a i.toNatClampNeg) :: st)) : V l D E B y cc nL ret d mc ms Q cells slots (n, T, I, J, P) pc vs (.int i :: .ref a :: st) :=
  fun p e s m args below meth c H locs ls X hS hB hP hL => va_bald X.1 X.2.1 X.2.2.2.2.2.2.1 (hP.one hT) 0 1 rfl rfl hin hd (kk p e s m args below meth c H locs ls X hS hB hP hL)
theorem V.zald {a len : Nat} {i : Int32} (hd : decode cc pc = .ok (.baload, 1)) (hT : T a = some (23, len)) (hin : vp_in i len) (kk : V l D E B y cc nL ret d mc ms Q cells slots (n, T, I, J, P) (pc + 1) vs (.int (I a i.toNatClampNeg) :: st)) : V l D E B y cc nL ret d mc ms Q cells slots (n, T, I, J, P) pc vs (.int i :: .ref a :: st) :=
  fun p e s m args below meth c H locs ls X hS hB hP hL => va_zald X.1 X.2.1 X.2.2.2.2.2.2.1 (hP.one hT) 0 3 rfl rfl hin hd (kk p e s m args below meth c H locs ls X hS hB hP hL)
theorem V.lald {a len : Nat} {i : Int32} (hd : decode cc pc = .ok (.laload, 1)) (hT : T a = some (22, len)) (hin : vp_in i len) (kk : V l D E B y cc nL ret d mc ms Q cells slots (n, T, I, J, P) (pc + 1) vs (.long (J a i.toNatClampNeg) :: st)) : V l D E B y cc nL ret d mc ms Q cells slots (n, T, I, J, P) pc vs (.int i :: .ref a :: st) :=
  fun p e s m args below meth c H locs ls X hS hB hP hL => va_lald X.1 X.2.1 X.2.2.2.2.2.2.1 (hP.one hT) 0 2 rfl rfl hin hd (kk p e s m args below meth c H locs ls X hS hB hP hL)
theorem V.aald {a len t r : Nat} {i : Int32} (hd : decode cc pc = .ok (.aaload, 1)) (hT : T a = some (t, len)) (ht : t = 24 ∨ t = 25 ∨ t = 26) (hin : vp_in i len) (hr : P a i.toNatClampNeg = some r) (kk : V l D E B y cc nL ret d mc ms Q cells slots (n, T, I, J, P) (pc + 1) vs (.ref r :: st)) : V l D E B y cc nL ret d mc ms Q cells slots (n, T, I, J, P) pc vs (.int i :: .ref a :: st) := by
  intro p e s m args below meth c H locs ls X hS hB hP hL
  have kk := kk p e s m args below meth c H locs ls X hS hB hP hL
  have e1 : va_rf (P a i.toNatClampNeg) = .ref r := by rw [hr]; rfl
  rw [← e1] at kk
  rcases ht with rfl | rfl | rfl
  · exact va_aldq X.1 X.2.1 X.2.2.2.2.2.2.1 (hP.one hT) 0 4 rfl rfl hin hd kk
  · exact va_aldq X.1 X.2.1 X.2.2.2.2.2.2.1 (hP.one hT) 0 5 rfl rfl hin hd kk
  · exact va_aldq X.1 X.2.1 X.2.2.2.2.2.2.1 (hP.one hT) 0 6 rfl rfl hin hd kk
theorem V.aaldN {a len t : Nat} {i : Int32} (hd : decode cc pc = .ok (.aaload, 1)) (hT : T a = some (t, len)) (ht : t = 24 ∨ t = 25 ∨ t = 26) (hin : vp_in i len) (hr : P a i.toNatClampNeg = none) (kk : V l D E B y cc nL ret d mc ms Q cells slots (n, T, I, J, P) (pc + 1) vs (.null :: st)) : V l D E B y cc nL ret d mc ms Q cells slots (n, T, I, J, P) pc vs (.int i :: .ref a :: st) := by
  intro p e s m args below meth c H locs ls X hS hB hP hL
  have kk := kk p e s m args below meth c H locs ls X hS hB hP hL
  have e1 : va_rf (P a i.toNatClampNeg) = .null := by rw [hr]; rfl
  rw [← e1] at kk
  rcases ht with rfl | rfl | rfl
  · exact va_aldq X.1 X.2.1 X.2.2.2.2.2.2.1 (hP.one hT) 0 4 rfl rfl hin hd kk
  · exact va_aldq X.1 X.2.1 X.2.2.2.2.2.2.1 (hP.one hT) 0 5 rfl rfl hin hd kk
  · exact va_aldq X.1 X.2.1 X.2.2.2.2.2.2.1 (hP.one hT) 0 6 rfl rfl hin hd kk
theorem V.alen {a len t : Nat} (hd : decode cc pc = .ok (.arraylength, 1)) (hT : T a = some (t, len)) (ht : t = 20 ∨ t = 21 ∨ t = 22 ∨ t = 23 ∨ t = 24 ∨ t = 25 ∨ t = 26) (kk : V l D E B y cc nL ret d mc ms Q cells slots (n, T, I, J, P) (pc + 1) vs (.int (nI len) :: st)) : V l D E B y cc nL ret d mc ms Q cells slots (n, T, I, J, P) pc vs (.ref a :: st) := by
  intro p e s m args below meth c H locs ls X hS hB hP hL
  have kk := kk p e s m args below meth c H locs ls X hS hB hP hL
  rcases ht with rfl | rfl | rfl | rfl | rfl | rfl | rfl
  · exact va_alen X.1 X.2.1 X.2.2.2.2.2.2.1 (hP.one hT) 0 0 rfl rfl rfl hd kk
  · exact va_alen X.1 X.2.1 X.2.2.2.2.2.2.1 (hP.one hT) 0 1 rfl rfl rfl hd kk
  · exact va_alen X.1 X.2.1 X.2.2.2.2.2.2.1 (hP.one hT) 0 2 rfl rfl rfl hd kk
  · exact va_alen X.1 X.2.1 X.2.2.2.2.2.2.1 (hP.one hT) 0 3 rfl rfl rfl hd kk
  · exact va_alen X.1 X.2.1 X.2.2.2.2.2.2.1 (hP.one hT) 0 4 rfl rfl rfl hd kk
  · exact va_alen X.1 X.2.1 X.2.2.2.2.2.2.1 (hP.one hT) 0 5 rfl rfl rfl hd kk
  · exact va_alen X.1 X.2.1 X.2.2.2.2.2.2.1 (hP.one hT) 0 6 rfl rfl rfl hd kk
theorem updV_upd (f : Nat → Int32) (k : Nat) (x : Int32) : updV (fun j => Value.int (f j)) k (.int x) = fun j => Value.int (upd f k x j) := by
  funext q
  by_cases hq : q = k
  · subst hq
    simp [updV, upd]
  · simp [updV, upd, hq]
theorem V.iast {a len : Nat} {i x : Int32} (hd : decode cc pc = .ok (.iastore, 1)) (hT : T a = some (20, len)) (hin : vp_in i len) (kk : V l D E B y cc nL ret d mc ms Q cells slots (n, T, uI I a i.toNatClampNeg x, J, P) (pc + 1) vs st) : V l D E B y cc nL ret d mc ms Q cells slots (n, T, I, J, P) pc vs (.int x :: .int i :: .ref a :: st) := by
  intro p e s m args below meth c H locs ls X hS hB hP hL
  refine W.iast X.1 X.2.1 ((hP.one hT) 0 _ rfl) ((X.2.2.2.2.2.2.1.2 0 _ rfl).1 len (fun j => .int (I a j))) (fun q => by cases q) (by show ¬ (i < 0 ∨ (arrV _ _ _).slots.size ≤ _); rw [arrV_size]; exact hin) rfl rfl hd fun H1 e1 z oq => ?_
  refine kk p e s m args below meth c H1 _ ls X (hS.put z oq (hP.2 a _ hT).1) hB (hP.upd hT z oq (fun q h => uI_n I _ x h) (fun _ _ => rfl) (fun _ _ => rfl) ?_) hL
  show H1[a]? = some (vp_cell (E 0) (len, .inl (uI I a i.toNatClampNeg x a)))
  rw [e1, uI_s]
  show some ((vp_cell (E 0) (len, .inl (I a))).setSlot i.toNatClampNeg (.int x)) = _
  rw [vp_cell_i, vp_cell_i, arrV_store, updV_upd]
theorem V.bast {a len : Nat} {i x : Int32} (hd : decode cc pc = .ok (.bastore, 1)) (hT : T a = some (21, len)) (hin : vp_in i len) (kk : V l D E B y cc nL ret d mc ms Q cells slots (n, T, uI I a i.toNatClampNeg (vp_nar .byte x), J, P) (pc + 1) vs st) : V l D E B y cc nL ret d mc ms Q cells slots (n, T, I, J, P) pc vs (.int x :: .int i :: .ref a :: st) := by
  intro p e s m args below meth c H locs ls X hS hB hP hL
  refine W.bast X.1 X.2.1 ((hP.one hT) 0 _ rfl) ((X.2.2.2.2.2.2.1.2 1 _ rfl).1 len (fun j => .int (I a j))) (fun q => by cases q) (by show ¬ (i < 0 ∨ (arrV _ _ _).slots.size ≤ _); rw [arrV_size]; exact hin) rfl rfl hd fun H1 e1 z oq => ?_
  refine kk p e s m args below meth c H1 _ ls X (hS.put z oq (hP.2 a _ hT).1) hB (hP.upd hT z oq (fun q h => uI_n I _ _ h) (fun _ _ => rfl) (fun _ _ => rfl) ?_) hL
  show H1[a]? = some (vp_cell (E 1) (len, .inl (uI I a i.toNatClampNeg (vp_nar .byte x) a)))
  rw [e1, uI_s]
  show some ((vp_cell (E 1) (len, .inl (I a))).setSlot i.toNatClampNeg (narrow .byte (.int x))) = _
  rw [vp_cell_i, vp_cell_i, arrV_store, ← updV_upd]
  rfl
theorem V.zast {a len : Nat} {i x : Int32} (hd : decode cc pc = .ok (.bastore, 1)) (hT : T a = some (23, len)) (hin : vp_in i len) (kk : V l D E B y cc nL ret d mc ms Q cells slots (n, T, uI I a i.toNatClampNeg (vp_nar .boolean x), J, P) (pc + 1) vs st) : V l D E B y cc nL ret d mc ms Q cells slots (n, T, I, J, P) pc vs (.int x :: .int i :: .ref a :: st) := by
  intro p e s m args below meth c H locs ls X hS hB hP hL
  refine W.zast X.1 X.2.1 ((hP.one hT) 0 _ rfl) ((X.2.2.2.2.2.2.1.2 3 _ rfl).1 len (fun j => .int (I a j))) (fun q => by cases q) (by show ¬ (i < 0 ∨ (arrV _ _ _).slots.size ≤ _); rw [arrV_size]; exact hin) rfl rfl hd fun H1 e1 z oq => ?_
  refine kk p e s m args below meth c H1 _ ls X (hS.put z oq (hP.2 a _ hT).1) hB (hP.upd hT z oq (fun q h => uI_n I _ _ h) (fun _ _ => rfl) (fun _ _ => rfl) ?_) hL
  show H1[a]? = some (vp_cell (E 3) (len, .inl (uI I a i.toNatClampNeg (vp_nar .boolean x) a)))
  rw [e1, uI_s]
  show some ((vp_cell (E 3) (len, .inl (I a))).setSlot i.toNatClampNeg (narrow .boolean (.int x))) = _
  rw [vp_cell_i, vp_cell_i, arrV_store, ← updV_upd]
  rfl
theorem V.last {a len : Nat} {i : Int32} {x : Int64} (hd : decode cc pc = .ok (.lastore, 1)) (hT : T a = some (22, len)) (hin : vp_in i len) (kk : V l D E B y cc nL ret d mc ms Q cells slots (n, T, I, uJ J a i.toNatClampNeg x, P) (pc + 1) vs st) : V l D E B y cc nL ret d mc ms Q cells slots (n, T, I, J, P) pc vs (.long x :: .int i :: .ref a :: st) := by
  intro p e s m args below meth c H locs ls X hS hB hP hL
  refine W.last X.1 X.2.1 ((hP.one hT) 0 _ rfl) ((X.2.2.2.2.2.2.1.2 2 _ rfl).1 len (fun j => .long (J a j))) (fun q => by cases q) (by show ¬ (i < 0 ∨ (arrV _ _ _).slots.size ≤ _); rw [arrV_size]; exact hin) rfl rfl hd fun H1 e1 z oq => ?_
  refine kk p e s m args below meth c H1 _ ls X (hS.put z oq (hP.2 a _ hT).1) hB (hP.upd hT z oq (fun _ _ => rfl) (fun q h => uJ_n J _ x h) (fun _ _ => rfl) ?_) hL
  show H1[a]? = some (vp_cell (E 2) (len, .inr (.inl (uJ J a i.toNatClampNeg x a))))
  rw [e1, uJ_s]
  show some ((arrV (E 2) len (fun j => .long (J a j))).setSlot i.toNatClampNeg (.long x)) = some (arrV (E 2) len (fun j => .long (vp_updL (J a) i.toNatClampNeg x j)))
  rw [arrV_store]
  congr 2
  funext q
  by_cases hq : q = i.toNatClampNeg
  · subst hq
    simp [updV, vp_updL]
  · simp [updV, vp_updL, hq]
end VH
