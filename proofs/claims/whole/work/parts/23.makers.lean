/-! makers: an object that is being built at a, its cells behind it; tables of shapes, ints, references (from a on) -/
def rvl (a : Nat) (o : Option Int) : Option Nat := o.map (fun z => ((a : Int) + z).toNat)
def Gb (a m : Nat) (sh : Nat → Option (Nat × Nat)) (iv : Nat → Nat → Int32) (rf : Nat → Nat → Option Int) (h0 h : HT) : Prop :=
  h.1 = a + m ∧ (∀ q, q < a → h.2.1 q = h0.2.1 q ∧ h.2.2.1 q = h0.2.2.1 q ∧ h.2.2.2.1 q = h0.2.2.2.1 q ∧ h.2.2.2.2 q = h0.2.2.2.2 q) ∧
  ∀ k, k < m → h.2.1 (a + k) = sh k ∧ h.2.2.1 (a + k) = iv k ∧ h.2.2.2.1 (a + k) = (fun _ => 0) ∧ h.2.2.2.2 (a + k) = fun i => rvl a (rf k i)
def jn {α : Type} (f : Nat → α) (m : Nat) (g : Nat → α) : Nat → α := fun k => bif Nat.blt k m then f k else g (k - m)
def jr (f : Nat → Nat → Option Int) (m : Nat) (g : Nat → Nat → Option Int) : Nat → Nat → Option Int := fun k i => bif Nat.blt k m then f k i else (g (k - m) i).map (fun z => (m : Int) + z)
def u2 {α : Type} (f : Nat → Nat → α) (k i : Nat) (v : α) : Nat → Nat → α := fun q j => bif Nat.beq q k && Nat.beq j i then v else f q j
def u1 {α : Type} (f : Nat → α) (k : Nat) (v : α) : Nat → α := fun q => bif Nat.beq q k then v else f q
def sh1 (c : Nat) : Nat → Option (Nat × Nat) := fun k => bif Nat.beq k 0 then some (c, 0) else none
abbrev zz2 {α : Type} (v : α) : Nat → Nat → α := fun _ _ => v
theorem beq_t {a b : Nat} (h : a = b) : Nat.beq a b = true := by subst h; exact Nat.beq_refl a
theorem beq_f {a b : Nat} (h : a ≠ b) : Nat.beq a b = false := by
  cases hb : Nat.beq a b with
  | false => rfl
  | true => exact absurd (Nat.eq_of_beq_eq_true hb) h
theorem blt_t {a b : Nat} (h : a < b) : Nat.blt a b = true := by simpa [Nat.blt_eq] using h
theorem blt_f {a b : Nat} (h : ¬ a < b) : Nat.blt a b = false := by
  cases hb : Nat.blt a b with
  | false => rfl
  | true => exact absurd (by simpa [Nat.blt_eq] using hb) h
theorem Gb.T {a m : Nat} {sh iv rf h0} {n : Nat} {T I J P} (g : Gb a m sh iv rf h0 (n, T, I, J, P)) (k : Nat) (hk : k < m) {q : Nat × Nat} (hs : sh k = some q) : T (a + k) = some q := (g.2.2 k hk).1.trans hs
theorem Gb.r {a m : Nat} {sh iv rf h0} {n : Nat} {T I J P} (g : Gb a m sh iv rf h0 (n, T, I, J, P)) (k i : Nat) (hk : k < m) {z : Nat} (hs : rf k i = some (z : Int)) : P (a + k) i = some (a + z) := by
  have h := congrFun (g.2.2 k hk).2.2.2 i
  have h : P (a + k) i = rvl a (rf k i) := h
  rw [h, hs]
  show some (((a : Int) + (z : Int)).toNat) = some (a + z)
  congr 1
theorem Gb.push {a m m1 : Nat} {sh iv rf h0} {T I J P} {s : Nat × Nat} (g : Gb a m sh iv rf h0 (a + m, T, I, J, P)) (hm : m + 1 = m1) : Gb a m1 (u1 sh m (some s)) (u1 iv m (fun _ => 0)) (u1 rf m (fun _ => none)) h0 (a + m1, va_up T (a + m) (some s), zI I (a + m), zJ J (a + m), zP P (a + m)) := by
  subst hm
  refine ⟨rfl, fun q hq => ?_, fun k hk => ?_⟩
  · have h := g.2.1 q hq
    have hne : q ≠ a + m := by omega
    refine ⟨?_, ?_, ?_, ?_⟩
    · show va_up T (a + m) (some s) q = _; rw [va_up_ne _ _ hne]; exact h.1
    · show va_up I (a + m) _ q = _; rw [va_up_ne _ _ hne]; exact h.2.1
    · show va_up J (a + m) _ q = _; rw [va_up_ne _ _ hne]; exact h.2.2.1
    · show va_up P (a + m) _ q = _; rw [va_up_ne _ _ hne]; exact h.2.2.2
  · by_cases e : k = m
    · subst e
      refine ⟨?_, ?_, ?_, ?_⟩
      · show va_up T (a + k) (some s) (a + k) = u1 sh k (some s) k; rw [va_up_self]; unfold u1; rw [Nat.beq_refl]; rfl
      · show va_up I (a + k) _ (a + k) = u1 iv k _ k; rw [va_up_self]; unfold u1; rw [Nat.beq_refl]; rfl
      · show va_up J (a + k) _ (a + k) = _; rw [va_up_self]
      · show va_up P (a + k) _ (a + k) = fun i => rvl a (u1 rf k _ k i); rw [va_up_self]; unfold u1; rw [Nat.beq_refl]; rfl
    · have h := g.2.2 k (by omega)
      have hne : a + k ≠ a + m := by omega
      refine ⟨?_, ?_, ?_, ?_⟩
      · show va_up T (a + m) (some s) (a + k) = u1 sh m (some s) k; rw [va_up_ne _ _ hne]; unfold u1; rw [beq_f e]; exact h.1
      · show va_up I (a + m) _ (a + k) = u1 iv m _ k; rw [va_up_ne _ _ hne]; unfold u1; rw [beq_f e]; exact h.2.1
      · show va_up J (a + m) _ (a + k) = _; rw [va_up_ne _ _ hne]; exact h.2.2.1
      · show va_up P (a + m) _ (a + k) = fun i => rvl a (u1 rf m _ k i); rw [va_up_ne _ _ hne]; unfold u1; rw [beq_f e]; exact h.2.2.2
theorem Gb.born {n : Nat} {T I J P} (c z : Nat) (hz : z = 0) : Gb n 1 (sh1 c) (zz2 0) (zz2 none) (n, T, I, J, P) (n + 1, va_up T n (some (c, z)), zI I n, zJ J n, zP P n) := by
  subst hz
  refine ⟨rfl, fun q hq => ?_, fun k hk => ?_⟩
  · have hne : q ≠ n := by omega
    exact ⟨va_up_ne _ _ hne, va_up_ne _ _ hne, va_up_ne _ _ hne, va_up_ne _ _ hne⟩
  · have e : k = 0 := by omega
    subst e
    refine ⟨va_up_self _ _ _, va_up_self _ _ _, va_up_self _ _ _, va_up_self _ _ _⟩
theorem Gb.join {a m l2 m2 : Nat} {sh iv rf h0} {sh' iv' rf'} {h h2 : HT} (g : Gb a m sh iv rf h0 h) (g2 : Gb (a + m) l2 sh' iv' rf' h h2) (hm : m + l2 = m2) : Gb a m2 (jn sh m sh') (jn iv m iv') (jr rf m rf') h0 h2 := by
  subst hm
  refine ⟨by rw [g2.1]; omega, fun q hq => ?_, fun k hk => ?_⟩
  · obtain ⟨a1, a2, a3, a4⟩ := g2.2.1 q (by omega)
    obtain ⟨b1, b2, b3, b4⟩ := g.2.1 q hq
    exact ⟨a1.trans b1, a2.trans b2, a3.trans b3, a4.trans b4⟩
  · by_cases e : k < m
    · obtain ⟨a1, a2, a3, a4⟩ := g2.2.1 (a + k) (by omega)
      obtain ⟨b1, b2, b3, b4⟩ := g.2.2 k e
      unfold jn jr
      rw [blt_t e]
      exact ⟨a1.trans b1, a2.trans b2, a3.trans b3, a4.trans b4⟩
    · obtain ⟨b1, b2, b3, b4⟩ := g2.2.2 (k - m) (by omega)
      have ek : a + m + (k - m) = a + k := by omega
      rw [ek] at b1 b2 b3 b4
      unfold jn jr
      rw [blt_f e]
      refine ⟨b1, b2, b3, ?_⟩
      rw [b4]
      funext i
      show rvl (a + m) (rf' (k - m) i) = rvl a ((rf' (k - m) i).map (fun z => (m : Int) + z))
      cases rf' (k - m) i with
      | none => rfl
      | some z =>
        show some ((((a + m : Nat) : Int) + z).toNat) = some (((a : Int) + ((m : Int) + z)).toNat)
        rw [Int.natCast_add, Int.add_assoc]
theorem Gb.putP {a m : Nat} {sh iv rf h0} {n : Nat} {T I J P} (g : Gb a m sh iv rf h0 (n, T, I, J, P)) (k i : Nat) (z : Int) {r : Nat} (hr : ((a : Int) + z).toNat = r) : Gb a m sh iv (u2 rf k i (some z)) h0 (n, T, I, J, uP P (a + k) i (some r)) := by
  subst hr
  refine ⟨g.1, fun q hq => ?_, fun j hj => ?_⟩
  · obtain ⟨b1, b2, b3, b4⟩ := g.2.1 q hq
    refine ⟨b1, b2, b3, ?_⟩
    show uP P (a + k) i _ q = _
    rw [uP_n _ _ _ (by omega)]
    exact b4
  · obtain ⟨b1, b2, b3, b4⟩ := g.2.2 j hj
    refine ⟨b1, b2, b3, ?_⟩
    have b4 : P (a + j) = fun i => rvl a (rf j i) := b4
    show uP P (a + k) i _ (a + j) = fun q => rvl a (u2 rf k i (some z) j q)
    by_cases e : j = k
    · subst e
      rw [uP_s, b4]
      funext q
      unfold u2
      rw [Nat.beq_refl]
      by_cases e2 : q = i
      · subst e2
        rw [va_up_self, Nat.beq_refl]
        rfl
      · rw [va_up_ne _ _ e2, beq_f e2]
        rfl
    · rw [uP_n _ _ _ (by omega), b4]
      funext q
      unfold u2
      rw [beq_f e]
      rfl
theorem Gb.putI {a m : Nat} {sh iv rf h0} {n : Nat} {T I J P} (g : Gb a m sh iv rf h0 (n, T, I, J, P)) (k i : Nat) (v : Int32) : Gb a m sh (u2 iv k i v) rf h0 (n, T, uI I (a + k) i v, J, P) := by
  refine ⟨g.1, fun q hq => ?_, fun j hj => ?_⟩
  · obtain ⟨b1, b2, b3, b4⟩ := g.2.1 q hq
    refine ⟨b1, ?_, b3, b4⟩
    show uI I (a + k) i _ q = _
    rw [uI_n _ _ _ (by omega)]
    exact b2
  · obtain ⟨b1, b2, b3, b4⟩ := g.2.2 j hj
    refine ⟨b1, ?_, b3, b4⟩
    have b2 : I (a + j) = iv j := b2
    show uI I (a + k) i v (a + j) = u2 iv k i v j
    by_cases e : j = k
    · subst e
      rw [uI_s, b2]
      funext q
      unfold u2
      rw [Nat.beq_refl]
      by_cases e2 : q = i
      · subst e2
        rw [Nat.beq_refl]
        simp [upd]
      · rw [beq_f e2]
        simp [upd, e2]
    · rw [uI_n _ _ _ (by omega), b2]
      funext q
      unfold u2
      rw [beq_f e]
      rfl
theorem koi_inst : Cond.instanceMethod Lib.objectInit ∈ TBL := tbl_p1 29 (by decide +kernel) (by decide +kernel)
theorem koi_code : Cond.code Lib.objectInit ⟨#[0xb1]⟩ 1 none ∈ TBL := tbl_p1 30 (by decide +kernel) (by decide +kernel)
theorem koi_X11 : Cond.methodLink RX11 1 Lib.objectInit ∈ TBL := tbl_p1 28 (by decide +kernel) (by decide +kernel)
theorem koi_X7 : Cond.methodLink RX7 3 Lib.objectInit ∈ TBL := tbl_p1 36 (by decide +kernel) (by decide +kernel)
theorem koi_X1 : Cond.methodLink RX1 3 Lib.objectInit ∈ TBL := tbl_p1 80 (by decide +kernel) (by decide +kernel)
theorem koi_X8 : Cond.methodLink RX8 3 Lib.objectInit ∈ TBL := tbl_p1 147 (by decide +kernel) (by decide +kernel)
theorem koi_X6 : Cond.methodLink RX6 3 Lib.objectInit ∈ TBL := tbl_p1 197 (by decide +kernel) (by decide +kernel)
theorem koi_X5 : Cond.methodLink RX5 3 Lib.objectInit ∈ TBL := tbl_p1 220 (by decide +kernel) (by decide +kernel)
theorem koi_X3 : Cond.methodLink RX3 1 Lib.objectInit ∈ TBL := tbl_p1 226 (by decide +kernel) (by decide +kernel)
theorem koi_X10 : Cond.methodLink RX10 3 Lib.objectInit ∈ TBL := tbl_p2 20 (by decide +kernel) (by decide +kernel)
theorem koi_X9 : Cond.methodLink RX9 3 Lib.objectInit ∈ TBL := tbl_p2 54 (by decide +kernel) (by decide +kernel)
theorem koi_X4 : Cond.methodLink RX4 3 Lib.objectInit ∈ TBL := tbl_p2 78 (by decide +kernel) (by decide +kernel)
theorem koi_X0 : Cond.methodLink RX0 3 Lib.objectInit ∈ TBL := tbl_p2 115 (by decide +kernel) (by decide +kernel)
theorem koi_X2 : Cond.methodLink RX2 1 Lib.objectInit ∈ TBL := tbl_p3 206 (by decide +kernel) (by decide +kernel)
theorem koi_X12 : Cond.methodLink RX12 7 Lib.objectInit ∈ TBL := tbl_p6 34 (by decide +kernel) (by decide +kernel)
theorem kcl_X11_20 : Cond.classLink RX11 20 RX1 ∈ TBL := tbl_p1 75 (by decide +kernel) (by decide +kernel)
theorem kcl_X11_27 : Cond.classLink RX11 27 RX8 ∈ TBL := tbl_p1 142 (by decide +kernel) (by decide +kernel)
theorem kcl_X6_9 : Cond.classLink RX6 9 RX8 ∈ TBL := tbl_p1 198 (by decide +kernel) (by decide +kernel)
theorem kcl_X11_41 : Cond.classLink RX11 41 RX9 ∈ TBL := tbl_p1 212 (by decide +kernel) (by decide +kernel)
theorem kcl_X10_28 : Cond.classLink RX10 28 RX8 ∈ TBL := tbl_p2 23 (by decide +kernel) (by decide +kernel)
theorem kcl_X7_38 : Cond.classLink RX7 38 RX1 ∈ TBL := tbl_p2 217 (by decide +kernel) (by decide +kernel)
section VMk
variable {l : Launch} {D : va_G} {E : Nat → ClassId} {B : Nat → Prop} {y : MethodName} {cc : ByteArray} {nL : Nat} {ret : Option FieldType} {d mc ms : Nat} {Q : Option Value → HT → Prop} {cells slots : Nat} {pc : Nat} {vs : List (Nat × Option Value)} {st : List Value}
variable {n : Nat} {T : Nat → Option (Nat × Nat)} {I I' : Nat → Nat → Int32} {J J' : Nat → Nat → Int64} {P P' : Nat → Nat → Option Nat}
theorem V.obj0 {idx a : Nat} {h : HT} (hw : Cond.methodLink y.cls idx Lib.objectInit ∈ TBL) (hd : decode cc pc = .ok (.invokespecial idx, 3)) (hdd : 1 ≤ d) (hst : (st.map fun v => v.category).sum + 12 ≤ 64) (kk : V l D E B y cc nL ret d mc ms Q cells slots h (pc + 3) vs st) : V l D E B y cc nL ret d mc ms Q cells slots h pc vs (.ref a :: st) := by
  intro p e s m args below meth c H locs ls X hS hB hP hL
  have hts := X.2.2.2.2.2.1
  exact W.objInit X.1 X.2.1 X.2.2.2.2.1 (hts _ hw) (hts _ koi_inst) (hts _ koi_code) rfl (by rw [X.2.2.2.1]; exact hL.1) rfl hd hdd (by show 2 * 0 + _ + 12 ≤ 64 * d; omega) (kk p e s m args below meth c H locs ls X hS hB hP hL)
/-- a row of references -/
theorem V.newR {idx : Nat} {C : String} {x : Int32} {t len t0 : Nat} (ht : t = 24 ∧ t0 = 4 ∧ C = RX1 ∨ t = 25 ∧ t0 = 5 ∧ C = RX8 ∨ t = 26 ∧ t0 = 6 ∧ C = RX9) (hd : decode cc pc = .ok (.anewarray idx, 3)) (hw : Cond.classLink y.cls idx C ∈ TBL) (hx : ¬ x < 0) (hN : x.toNatClampNeg = len) (hby : len ≤ 100000000) (hcells : cells + 1 ≤ mc) (hslots : slots + len ≤ ms)
    (kk : V l D E B y cc nL ret d mc ms Q (cells + 1) (slots + len) (n + 1, va_up T n (some (t, len)), zI I n, zJ J n, zP P n) (pc + 3) vs (.ref n :: st)) : V l D E B y cc nL ret d mc ms Q cells slots (n, T, I, J, P) pc vs (.int x :: st) := by
  intro p e s m args below meth c0 H locs ls X hS hB hP hL
  have hsz : H.size = n := hP.1
  have hK := X.2.2.2.2.2.2.1
  have hCm : C ∈ [RX1, RX8, RX9] := by rcases ht with ⟨_, _, h⟩ | ⟨_, _, h⟩ | ⟨_, _, h⟩ <;> rw [h] <;> simp
  subst hN
  refine W.anew X.1 X.2.1 X.2.2.2.2.1 (X.2.2.2.2.2.1 _ hw) (X.2.2.2.2.2.2.2.2.2.2.1.2 C hCm).use rfl hd rfl hx (by omega) hcells hslots fun cA kA comp h1 h2 h3 h4 => ?_
  have hz1 : (H.push { cls := cA, slots := Array.replicate x.toNatClampNeg .null, vm := .none }).size = n + 1 := by rw [Array.size_push, hsz]
  have ho1 : ∀ q : Nat, q < n → (H.push { cls := cA, slots := Array.replicate x.toNatClampNeg .null, vm := .none })[q]? = H[q]? := fun q hq => by
    rw [Array.getElem?_push, if_neg (by omega)]
  have hself : (H.push { cls := cA, slots := Array.replicate x.toNatClampNeg .null, vm := .none })[n]? = some { cls := cA, slots := Array.replicate x.toNatClampNeg .null, vm := .none } := by
    rw [Array.getElem?_push, if_pos (by omega)]
  have fin : ∀ (t0 : Nat) (r : String), (tys E)[t0]? = some (E t0, .object r) → C = r → (cel E (t, x.toNatClampNeg) (zI I n n) (zJ J n n) (zP P n n) = .inl (E t0, x.toNatClampNeg, .inr (.inr (.inr (.inr (zP P n n)))))) → W p l e (rm d mc ms) s m args below meth c0 (H.push { cls := cA, slots := Array.replicate x.toNatClampNeg .null, vm := .none }) locs (cells + 1) (slots + x.toNatClampNeg) (MQ below (QQ D E B Q) args s mc ms B) (F0 m (pc + 3) ls (.ref H.size :: st)) := by
    intro t0 r hty hC hcel
    subst hC
    have hra : va_RA s (E t0) (.object C) := (hK.2 t0 _ hty).2
    have hE : cA = E t0 := by
      obtain ⟨kA', comp', g1, g2, g3, g4⟩ := hra
      exact Option.some.inj (h1.symm.trans g4)
    rw [hsz]
    refine kk p e s m args below meth c0 _ locs ls X (hS.new hsz hz1 ho1) hB (hP.push (hB _ (by have := hS.1; omega)) hz1 ho1 (fun q h => va_up_ne _ _ h) (fun q h => va_up_ne _ _ h) (fun q h => va_up_ne _ _ h) ?_) hL
    rw [hcel]
    show (H.push _)[n]? = some (vp_cell (E t0) (x.toNatClampNeg, .inr (.inr (.inr (.inr (zP P n n))))))
    rw [hself, vp_cell_q, hE]
    congr 1
    have hz : zP P n n = fun _ => none := va_up_self _ _ _
    rw [hz]
    exact (arrV_new (E t0) x.toNatClampNeg .null)
  rcases ht with ⟨rfl, rfl, rfl⟩ | ⟨rfl, rfl, rfl⟩ | ⟨rfl, rfl, rfl⟩
  · exact fin 4 RX1 rfl rfl rfl
  · exact fin 5 RX8 rfl rfl rfl
  · exact fin 6 RX9 rfl rfl rfl
theorem V.newIG {a m m1 : Nat} {sh iv rf h0} {x : Int32} {len : Nat} (g : Gb a m sh iv rf h0 (a + m, T, I, J, P)) (hm : m + 1 = m1) (hd : decode cc pc = .ok (.newarray .int, 2)) (hx : ¬ x < 0) (hN : x.toNatClampNeg = len) (hby : len ≤ 100000000) (hcells : cells + 1 ≤ mc) (hslots : slots + len ≤ ms)
    (kk : ∀ T1 I1 J1 P1, Gb a m1 (u1 sh m (some (20, len))) (u1 iv m (fun _ => 0)) (u1 rf m (fun _ => none)) h0 (a + m1, T1, I1, J1, P1) → V l D E B y cc nL ret d mc ms Q (cells + 1) (slots + len) (a + m1, T1, I1, J1, P1) (pc + 2) vs (.ref (a + m) :: st)) : V l D E B y cc nL ret d mc ms Q cells slots (a + m, T, I, J, P) pc vs (.int x :: st) := by
  subst hm
  exact V.newI hd ka_int hx hN hby hcells hslots (kk _ _ _ _ (g.push (s := (20, len)) rfl))
theorem V.newBG {a m m1 : Nat} {sh iv rf h0} {x : Int32} {len : Nat} (g : Gb a m sh iv rf h0 (a + m, T, I, J, P)) (hm : m + 1 = m1) (hd : decode cc pc = .ok (.newarray .byte, 2)) (hx : ¬ x < 0) (hN : x.toNatClampNeg = len) (hby : len ≤ 100000000) (hcells : cells + 1 ≤ mc) (hslots : slots + len ≤ ms)
    (kk : ∀ T1 I1 J1 P1, Gb a m1 (u1 sh m (some (21, len))) (u1 iv m (fun _ => 0)) (u1 rf m (fun _ => none)) h0 (a + m1, T1, I1, J1, P1) → V l D E B y cc nL ret d mc ms Q (cells + 1) (slots + len) (a + m1, T1, I1, J1, P1) (pc + 2) vs (.ref (a + m) :: st)) : V l D E B y cc nL ret d mc ms Q cells slots (a + m, T, I, J, P) pc vs (.int x :: st) := by
  subst hm
  exact V.newB hd ka_byte hx hN hby hcells hslots (kk _ _ _ _ (g.push (s := (21, len)) rfl))
theorem V.newJG {a m m1 : Nat} {sh iv rf h0} {x : Int32} {len : Nat} (g : Gb a m sh iv rf h0 (a + m, T, I, J, P)) (hm : m + 1 = m1) (hd : decode cc pc = .ok (.newarray .long, 2)) (hx : ¬ x < 0) (hN : x.toNatClampNeg = len) (hby : len ≤ 10000000) (hcells : cells + 1 ≤ mc) (hslots : slots + len ≤ ms)
    (kk : ∀ T1 I1 J1 P1, Gb a m1 (u1 sh m (some (22, len))) (u1 iv m (fun _ => 0)) (u1 rf m (fun _ => none)) h0 (a + m1, T1, I1, J1, P1) → V l D E B y cc nL ret d mc ms Q (cells + 1) (slots + len) (a + m1, T1, I1, J1, P1) (pc + 2) vs (.ref (a + m) :: st)) : V l D E B y cc nL ret d mc ms Q cells slots (a + m, T, I, J, P) pc vs (.int x :: st) := by
  subst hm
  exact V.newJ hd ka_long hx hN hby hcells hslots (kk _ _ _ _ (g.push (s := (22, len)) rfl))
theorem V.newZG {a m m1 : Nat} {sh iv rf h0} {x : Int32} {len : Nat} (g : Gb a m sh iv rf h0 (a + m, T, I, J, P)) (hm : m + 1 = m1) (hd : decode cc pc = .ok (.newarray .boolean, 2)) (hx : ¬ x < 0) (hN : x.toNatClampNeg = len) (hby : len ≤ 100000000) (hcells : cells + 1 ≤ mc) (hslots : slots + len ≤ ms)
    (kk : ∀ T1 I1 J1 P1, Gb a m1 (u1 sh m (some (23, len))) (u1 iv m (fun _ => 0)) (u1 rf m (fun _ => none)) h0 (a + m1, T1, I1, J1, P1) → V l D E B y cc nL ret d mc ms Q (cells + 1) (slots + len) (a + m1, T1, I1, J1, P1) (pc + 2) vs (.ref (a + m) :: st)) : V l D E B y cc nL ret d mc ms Q cells slots (a + m, T, I, J, P) pc vs (.int x :: st) := by
  subst hm
  exact V.newZ hd ka_boolean hx hN hby hcells hslots (kk _ _ _ _ (g.push (s := (23, len)) rfl))
theorem V.newRG {idx : Nat} {C : String} {t t0 : Nat} {a m m1 : Nat} {sh iv rf h0} {x : Int32} {len : Nat} (ht : t = 24 ∧ t0 = 4 ∧ C = RX1 ∨ t = 25 ∧ t0 = 5 ∧ C = RX8 ∨ t = 26 ∧ t0 = 6 ∧ C = RX9) (g : Gb a m sh iv rf h0 (a + m, T, I, J, P)) (hm : m + 1 = m1) (hd : decode cc pc = .ok (.anewarray idx, 3)) (hw : Cond.classLink y.cls idx C ∈ TBL) (hx : ¬ x < 0) (hN : x.toNatClampNeg = len) (hby : len ≤ 100000000) (hcells : cells + 1 ≤ mc) (hslots : slots + len ≤ ms)
    (kk : ∀ T1 I1 J1 P1, Gb a m1 (u1 sh m (some (t, len))) (u1 iv m (fun _ => 0)) (u1 rf m (fun _ => none)) h0 (a + m1, T1, I1, J1, P1) → V l D E B y cc nL ret d mc ms Q (cells + 1) (slots + len) (a + m1, T1, I1, J1, P1) (pc + 3) vs (.ref (a + m) :: st)) : V l D E B y cc nL ret d mc ms Q cells slots (a + m, T, I, J, P) pc vs (.int x :: st) := by
  subst hm
  exact V.newR ht hd hw hx hN hby hcells hslots (kk _ _ _ _ (g.push (s := (t, len)) rfl))
theorem V.newG {idx c N : Nat} (F : NL y.cls idx c N) (hd : decode cc pc = .ok (.new idx, 3)) (hc : c < 20) (hcells : cells + 1 ≤ mc) (hslots : slots + N ≤ ms)
    (kk : ∀ T1 I1 J1 P1, Gb n 1 (sh1 c) (zz2 0) (zz2 none) (n, T, I, J, P) (n + 1, T1, I1, J1, P1) → V l D E B y cc nL ret d mc ms Q (cells + 1) (slots + N) (n + 1, T1, I1, J1, P1) (pc + 3) vs (.ref n :: st)) : V l D E B y cc nL ret d mc ms Q cells slots (n, T, I, J, P) pc vs st :=
  V.new F hd hc hcells hslots (kk _ _ _ _ (Gb.born c 0 rfl))
theorem V.putrG {a m idx c k z r : Nat} {ty : FieldType} {fin : Bool} {sh iv rf h0} (g : Gb a m sh iv rf h0 (n, T, I, J, P)) (w : Int) (hw : ((a : Int) + w).toNat = r) (hm : 0 < m) (hs : sh 0 = some (c, z)) (F : FL y.cls idx c k ty fin) (hd : decode cc pc = .ok (.putfield idx, 3)) (hc : c < 20) (hfi : fin = true → y.name = "<init>" ∧ ∃ q, classes[c]? = some (y.cls, q)) (hn : narrow ty (.ref r) = .ref r) (hf : fits ty (.ref r) = true) (hset : (flds c (I a) (J a) (P a)).set k (.ref r) = flds c (I a) (J a) (va_up (P a) k (some r))) (hlen : k < (flds c (I a) (J a) (P a)).length)
    (kk : ∀ P1, Gb a m sh iv (u2 rf 0 k (some w)) h0 (n, T, I, J, P1) → V l D E B y cc nL ret d mc ms Q cells slots (n, T, I, J, P1) (pc + 3) vs st) : V l D E B y cc nL ret d mc ms Q cells slots (n, T, I, J, P) pc vs (.ref r :: .ref a :: st) :=
  V.putr F hd (g.T 0 hm hs) hc hfi hn hf hset hlen (kk _ (g.putP 0 k w hw))
theorem V.putiG {a m idx c k z : Nat} {ty : FieldType} {fin : Bool} {x : Int32} {sh iv rf h0} (g : Gb a m sh iv rf h0 (n, T, I, J, P)) (hm : 0 < m) (hs : sh 0 = some (c, z)) (F : FL y.cls idx c k ty fin) (hd : decode cc pc = .ok (.putfield idx, 3)) (hc : c < 20) (hfi : fin = true → y.name = "<init>" ∧ ∃ q, classes[c]? = some (y.cls, q)) (hn : narrow ty (.int x) = .int x) (hf : fits ty (.int x) = true) (hset : (flds c (I a) (J a) (P a)).set k (.int x) = flds c (upd (I a) k x) (J a) (P a)) (hlen : k < (flds c (I a) (J a) (P a)).length)
    (kk : ∀ I1, Gb a m sh (u2 iv 0 k x) rf h0 (n, T, I1, J, P) → V l D E B y cc nL ret d mc ms Q cells slots (n, T, I1, J, P) (pc + 3) vs st) : V l D E B y cc nL ret d mc ms Q cells slots (n, T, I, J, P) pc vs (.int x :: .ref a :: st) :=
  V.puti F hd (g.T 0 hm hs) hc hfi hn hf hset hlen (kk _ (g.putI 0 k x))
theorem V.aastG {a m k j len t ci z : Nat} {i : Int32} {sh iv rf h0} (g : Gb a m sh iv rf h0 (n, T, I, J, P)) (hk : k < m) (hs : sh k = some (t, len)) (hj : j < m) (hv : sh j = some (ci, z)) (hd : decode cc pc = .ok (.aastore, 1)) (ht : t = 24 ∧ ci = 1 ∨ t = 25 ∧ ci = 8 ∨ t = 26 ∧ ci = 9) (hin : vp_in i len) (q : Nat) (hq : i.toNatClampNeg = q)
    (kk : ∀ P1, Gb a m sh iv (u2 rf k q (some (j : Int))) h0 (n, T, I, J, P1) → V l D E B y cc nL ret d mc ms Q cells slots (n, T, I, J, P1) (pc + 1) vs st) : V l D E B y cc nL ret d mc ms Q cells slots (n, T, I, J, P) pc vs (.ref (a + j) :: .int i :: .ref (a + k) :: st) := by
  subst hq
  exact V.aast hd (g.T k hk hs) (g.T j hj hv) ht hin (kk _ (g.putP k _ (j : Int) (by show ((a : Int) + (j : Int)).toNat = a + j; omega)))
theorem V.iastG {a m k len : Nat} {i x : Int32} {sh iv rf h0} (g : Gb a m sh iv rf h0 (n, T, I, J, P)) (hk : k < m) (hs : sh k = some (20, len)) (hd : decode cc pc = .ok (.iastore, 1)) (hin : vp_in i len) (q : Nat) (hq : i.toNatClampNeg = q)
    (kk : ∀ I1, Gb a m sh (u2 iv k q x) rf h0 (n, T, I1, J, P) → V l D E B y cc nL ret d mc ms Q cells slots (n, T, I1, J, P) (pc + 1) vs st) : V l D E B y cc nL ret d mc ms Q cells slots (n, T, I, J, P) pc vs (.int x :: .int i :: .ref (a + k) :: st) := by
  subst hq
  exact V.iast hd (g.T k hk hs) hin (kk _ (g.putI k _ x))
end VMk
