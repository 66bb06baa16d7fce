/-- the two places at which searches keep the court they look at may differ; no other reference does -/
def PX (x : Nat) (P P2 : Nat → Nat → Option Nat) : Prop := ∀ q i, ¬ (q = x + 214 ∧ i = 4) → ¬ (q = x + 219 ∧ i = 5) → P2 q i = P q i
theorem PX.rf {x : Nat} {P : Nat → Nat → Option Nat} : PX x P P := fun _ _ _ _ => rfl
theorem PX.tr {x : Nat} {P P1 P2 : Nat → Nat → Option Nat} (h : PX x P P1) (h2 : PX x P1 P2) : PX x P P2 := fun q i a b => (h2 q i a b).trans (h q i a b)
theorem PX.m {x : Nat} {P P1 : Nat → Nat → Option Nat} {v : Option Nat} (h : PX x P P1) : PX x P (uP P1 (x + 214) 4 v) := fun q i a b => by
  rw [← h q i a b]
  unfold uP
  by_cases e : q = x + 214
  · rw [if_pos e, va_up_ne _ _ (fun z => a ⟨e, z⟩)]
  · rw [if_neg e]
theorem PX.a {x : Nat} {P P1 : Nat → Nat → Option Nat} {v : Option Nat} (h : PX x P P1) : PX x P (uP P1 (x + 219) 5 v) := fun q i a b => by
  rw [← h q i a b]
  unfold uP
  by_cases e : q = x + 219
  · rw [if_pos e, va_up_ne _ _ (fun z => b ⟨e, z⟩)]
  · rw [if_neg e]
theorem uP_here {P : Nat → Nat → Option Nat} {q i : Nat} {v : Option Nat} : uP P q i v q i = v := by rw [uP_s, va_up_self]
theorem isOb.px0 {sh : Nat → Option (Nat × Nat)} {rf : Nat → Nat → Option Nat} {T : Nat → Option (Nat × Nat)} {P P2 : Nat → Nat → Option Nat} {a x : Nat} (h : isOb sh rf T P a) (h4 : ∀ k r, rf k 4 = some r → a + k ≠ x + 214) (h5 : ∀ k r, rf k 5 = some r → a + k ≠ x + 219) (hp : PX x P P2) : isOb sh rf T P2 a := ⟨h.1, fun k i r hr => by
  rw [hp (a + k) i (fun e => h4 k r (by rw [← e.2]; exact hr) e.1) (fun e => h5 k r (by rw [← e.2]; exact hr) e.1)]
  exact h.2 k i r hr⟩
theorem shNe {T : Nat → Option (Nat × Nat)} {a b : Nat} {p q : Nat × Nat} (ha : T a = some p) (hb : T b = some q) (h : p ≠ q) : a ≠ b := fun e => h (by rw [e, hb] at ha; exact (Option.some.inj ha).symm)
theorem isSt.px {T : Nat → Option (Nat × Nat)} {P P2 : Nat → Nat → Option Nat} {a x : Nat} (h : isSt T P a) (hx : isSR T P x) (hp : PX x P P2) : isSt T P2 a := by
  refine isOb.px0 h (fun k r hr => ?_) (fun k r hr => ?_) hp
  · have hk : k = 0 := by
      unfold rfSt at hr
      split at hr
      · omega
      · cases hr
    subst hk
    exact shNe (h.1 0 (8, 0) rfl) (hx.1 214 (4, 0) rfl) (by decide)
  · have hk : k = 0 := by
      unfold rfSt at hr
      split at hr
      · omega
      · cases hr
    subst hk
    exact shNe (h.1 0 (8, 0) rfl) (hx.1 219 (0, 0) rfl) (by decide)
theorem isMm.px {T : Nat → Option (Nat × Nat)} {P P2 : Nat → Nat → Option Nat} {a x : Nat} (h : isMm T P a) (hp : PX x P P2) : isMm T P2 a := by
  refine isOb.px0 h (fun k r hr => ?_) (fun k r hr => ?_) hp
  · exact absurd hr (by unfold rfMm; rw [if_neg (by omega)]; exact fun z => by cases z)
  · exact absurd hr (by unfold rfMm; rw [if_neg (by omega)]; exact fun z => by cases z)
theorem isTy.px0 {T : Nat → Option (Nat × Nat)} {P P2 : Nat → Nat → Option Nat} {a x : Nat} (h : isTy T P a) (hp : PX x P P2) : isTy T P2 a := by
  refine isOb.px0 h (fun k r hr => ?_) (fun k r hr => ?_) hp
  · exact absurd hr (by unfold rfMm; rw [if_neg (by omega)]; exact fun z => by cases z)
  · exact absurd hr (by unfold rfMm; rw [if_neg (by omega)]; exact fun z => by cases z)
theorem isTy.px {T : Nat → Option (Nat × Nat)} {P P2 : Nat → Nat → Option Nat} {a x : Nat} (h : isTy T P a) (_ : isSR T P x) (hp : PX x P P2) : isTy T P2 a := isTy.px0 h hp
theorem isLw.px {T : Nat → Option (Nat × Nat)} {P P2 : Nat → Nat → Option Nat} {w x : Nat} (h : isLw T P w) (hp : PX x P P2) : isLw T P2 w := ⟨h.1, h.2.1, by rw [hp w 0 (by omega) (by omega)]; exact h.2.2⟩
theorem isCt.px {T : Nat → Option (Nat × Nat)} {P P2 : Nat → Nat → Option Nat} {c x : Nat} (h : isCt T P c) (hx : isSR T P x) (hp : PX x P P2) : isCt T P2 c := by
  refine ⟨?_, fun w hw => ?_, fun w hw => ?_⟩
  · refine isOb.px0 h.1 (fun k r hr => ?_) (fun k r hr => ?_) hp
    · match k, hr with
      | 0, _ => exact shNe (h.1.1 0 (1, 0) rfl) (hx.1 214 (4, 0) rfl) (by decide)
    · match k, hr with
      | 0, _ => exact shNe (h.1.1 0 (1, 0) rfl) (hx.1 219 (0, 0) rfl) (by decide)
  · rw [hp c 8 (by omega) (by omega)] at hw
    exact isLw.px (h.2.1 w hw) hp
  · rw [hp c 9 (by omega) (by omega)] at hw
    exact isLw.px (h.2.2 w hw) hp
theorem isSR.px {T : Nat → Option (Nat × Nat)} {P P2 : Nat → Nat → Option Nat} {x : Nat} (hx : isSR T P x) (hp : PX x P P2) : isSR T P2 x := by
  refine ⟨hx.1, fun k i r hr => ?_, fun q hq => isSt.px (hx.2.2.1 q hq) hx hp, fun q hq => isMm.px (hx.2.2.2.1 q hq) hp, fun q hq => isTy.px0 (hx.2.2.2.2 q hq) hp⟩
  rw [hp (x + k) i (fun e => ?_) (fun e => ?_)]
  · exact hx.2.1 k i r hr
  · have e1 : k = 214 := by omega
    have e2 := e.2
    subst e1; subst e2
    cases hr
  · have e1 : k = 219 := by omega
    have e2 := e.2
    subst e1; subst e2
    cases hr
abbrev RetP (x : Nat) (P : Nat → Nat → Option Nat) (v : Option Value) (n : Nat) (T : Nat → Option (Nat × Nat)) (I : Nat → Nat → Int32) (J : Nat → Nat → Int64) : Option Value → HT → Prop := fun v' h' => v' = v ∧ ∃ P2, PX x P P2 ∧ h' = (n, T, I, J, P2)
theorem V.putrE {l : Launch} {D : va_G} {E : Nat → ClassId} {B : Nat → Prop} {y : MethodName} {cc : ByteArray} {nL : Nat} {ret : Option FieldType} {d mc ms : Nat} {Q : Option Value → HT → Prop} {cells slots : Nat} {pc : Nat} {vs : List (Nat × Option Value)} {st : List Value} {n : Nat} {T : Nat → Option (Nat × Nat)} {I : Nat → Nat → Int32} {J : Nat → Nat → Int64} {P : Nat → Nat → Option Nat} {a idx c k z x : Nat} {ty : FieldType} {fin : Bool} (F : FL y.cls idx c k ty fin) (hd : decode cc pc = .ok (.putfield idx, 3)) (hT : T a = some (c, z)) (hc : c < 20) (hfi : fin = true → y.name = "<init>" ∧ ∃ q, classes[c]? = some (y.cls, q)) (hn : narrow ty (.ref x) = .ref x) (hf : fits ty (.ref x) = true) (hset : (flds c (I a) (J a) (P a)).set k (.ref x) = flds c (I a) (J a) (va_up (P a) k (some x))) (hlen : k < (flds c (I a) (J a) (P a)).length)
    (kk : ∀ P1, P1 = uP P a k (some x) → V l D E B y cc nL ret d mc ms Q cells slots (n, T, I, J, P1) (pc + 3) vs st) : V l D E B y cc nL ret d mc ms Q cells slots (n, T, I, J, P) pc vs (.ref x :: .ref a :: st) := V.putr F hd hT hc hfi hn hf hset hlen (kk _ rfl)
theorem dX4_tuneAt_0 : decode cX4_tuneAt 0 = .ok (.iload_n 1, 1) := by decide +kernel
theorem dX4_tuneAt_1 : decode cX4_tuneAt 1 = .ok (.ifCond .lt 29, 3) := by decide +kernel
theorem dX4_tuneAt_4 : decode cX4_tuneAt 4 = .ok (.iload_n 1, 1) := by decide +kernel
theorem dX4_tuneAt_5 : decode cX4_tuneAt 5 = .ok (.aload_n 0, 1) := by decide +kernel
theorem dX4_tuneAt_6 : decode cX4_tuneAt 6 = .ok (.getfield 29, 3) := by decide +kernel
theorem dX4_tuneAt_9 : decode cX4_tuneAt 9 = .ok (.if_icmp .ge 21, 3) := by decide +kernel
theorem dX4_tuneAt_12 : decode cX4_tuneAt 12 = .ok (.iload_n 1, 1) := by decide +kernel
theorem dX4_tuneAt_13 : decode cX4_tuneAt 13 = .ok (.aload_n 0, 1) := by decide +kernel
theorem dX4_tuneAt_14 : decode cX4_tuneAt 14 = .ok (.getfield 18, 3) := by decide +kernel
theorem dX4_tuneAt_17 : decode cX4_tuneAt 17 = .ok (.arraylength, 1) := by decide +kernel
theorem dX4_tuneAt_18 : decode cX4_tuneAt 18 = .ok (.if_icmp .ge 12, 3) := by decide +kernel
theorem dX4_tuneAt_21 : decode cX4_tuneAt 21 = .ok (.aload_n 0, 1) := by decide +kernel
theorem dX4_tuneAt_22 : decode cX4_tuneAt 22 = .ok (.getfield 18, 3) := by decide +kernel
theorem dX4_tuneAt_25 : decode cX4_tuneAt 25 = .ok (.iload_n 1, 1) := by decide +kernel
theorem dX4_tuneAt_26 : decode cX4_tuneAt 26 = .ok (.iaload, 1) := by decide +kernel
theorem dX4_tuneAt_27 : decode cX4_tuneAt 27 = .ok (.goto 4, 3) := by decide +kernel
theorem dX4_tuneAt_30 : decode cX4_tuneAt 30 = .ok (.iconst (-1), 1) := by decide +kernel
theorem dX4_tuneAt_31 : decode cX4_tuneAt 31 = .ok (.ireturn, 1) := by decide +kernel
def mu_tuneAt (I : Nat → Nat → Int32) (x : Nat) (v1 : Int32) : Option (Int32) := if v1 < 0 then (some (-1)) else (if (I (x + 214) 3) ≤ v1 then (some (-1)) else (if (nI 7) ≤ v1 then (some (-1)) else (chk v1 7 (some (I (x + 217) (Int32.toNatClampNeg v1))))))
theorem c_mu_tuneAt {l : Launch} {D : va_G} {E : Nat → ClassId} {B : Nat → Prop} {n : Nat} {T : Nat → Option (Nat × Nat)} {I : Nat → Nat → Int32} {J : Nat → Nat → Int64} {P : Nat → Nat → Option Nat} {x : Nat} {v1 : Int32} {r : Int32} (hx : isSR T P x) (hf : mu_tuneAt I x v1 = some r) : Ct l D E B yX4_tuneAt cX4_tuneAt 2 (some .int) 0 0 0 [.ref (x + 214), .int v1] (n, T, I, J, P) (Ret (some (.int r)) (n, T, I, J, P)) := by
  unfold mu_tuneAt at hf
  refine Ct.ofV (by decide) (Nat.le_of_ble_eq_true rfl) ?_
  refine V.iload_n dX4_tuneAt_0 rfl ?_
  refine V.if_lt 30 dX4_tuneAt_1 (by decide) (fun c1 => ?_) (fun c1 => ?_)
  · rw [if_pos c1] at hf
    refine V.iconst (v := -1) dX4_tuneAt_30 (by decide) ?_
    obtain rfl := Option.some.inj hf
    exact V.iret dX4_tuneAt_31 rfl (Nat.le_refl _) (Nat.le_refl _) ⟨rfl, rfl⟩
  · rw [if_neg c1] at hf
    refine V.iload_n dX4_tuneAt_4 rfl ?_
    refine V.aload_n dX4_tuneAt_5 rfl ?_
    refine V.getf fl_X4_29 dX4_tuneAt_6 (hx.1 214 (4, 0) rfl) (by decide) rfl ?_
    refine V.icmp_ge 30 dX4_tuneAt_9 (by decide) (fun c2 => ?_) (fun c2 => ?_)
    · rw [if_pos c2] at hf
      refine V.iconst (v := -1) dX4_tuneAt_30 (by decide) ?_
      obtain rfl := Option.some.inj hf
      exact V.iret dX4_tuneAt_31 rfl (Nat.le_refl _) (Nat.le_refl _) ⟨rfl, rfl⟩
    · rw [if_neg c2] at hf
      refine V.iload_n dX4_tuneAt_12 rfl ?_
      refine V.aload_n dX4_tuneAt_13 rfl ?_
      refine V.getr fl_X4_18 dX4_tuneAt_14 (hx.1 214 (4, 0) rfl) (hx.2.1 214 2 217 rfl) (by decide) rfl ?_
      refine V.alen dX4_tuneAt_17 (hx.1 217 (20, 7) rfl) (by decide) ?_
      refine V.icmp_ge 30 dX4_tuneAt_18 (by decide) (fun c3 => ?_) (fun c3 => ?_)
      · rw [if_pos c3] at hf
        refine V.iconst (v := -1) dX4_tuneAt_30 (by decide) ?_
        obtain rfl := Option.some.inj hf
        exact V.iret dX4_tuneAt_31 rfl (Nat.le_refl _) (Nat.le_refl _) ⟨rfl, rfl⟩
      · rw [if_neg c3] at hf
        refine V.aload_n dX4_tuneAt_21 rfl ?_
        refine V.getr fl_X4_18 dX4_tuneAt_22 (hx.1 214 (4, 0) rfl) (hx.2.1 214 2 217 rfl) (by decide) rfl ?_
        refine V.iload_n dX4_tuneAt_25 rfl ?_
        obtain ⟨hb4, hf⟩ := chk_some hf
        refine V.iald dX4_tuneAt_26 (hx.1 217 (20, 7) rfl) hb4 ?_
        refine V.goto 31 dX4_tuneAt_27 (by decide) ?_
        obtain rfl := Option.some.inj hf
        exact V.iret dX4_tuneAt_31 rfl (Nat.le_refl _) (Nat.le_refl _) ⟨rfl, rfl⟩
theorem dX4_isOutOfOrder_0 : decode cX4_isOutOfOrder 0 = .ok (.iconst 1, 1) := by decide +kernel
theorem dX4_isOutOfOrder_1 : decode cX4_isOutOfOrder 1 = .ok (.istore_n 2, 1) := by decide +kernel
theorem dX4_isOutOfOrder_2 : decode cX4_isOutOfOrder 2 = .ok (.iload_n 2, 1) := by decide +kernel
theorem dX4_isOutOfOrder_3 : decode cX4_isOutOfOrder 3 = .ok (.aload_n 0, 1) := by decide +kernel
theorem dX4_isOutOfOrder_4 : decode cX4_isOutOfOrder 4 = .ok (.getfield 59, 3) := by decide +kernel
theorem dX4_isOutOfOrder_7 : decode cX4_isOutOfOrder 7 = .ok (.if_icmp .ge 61, 3) := by decide +kernel
theorem dX4_isOutOfOrder_10 : decode cX4_isOutOfOrder 10 = .ok (.aload_n 0, 1) := by decide +kernel
theorem dX4_isOutOfOrder_11 : decode cX4_isOutOfOrder 11 = .ok (.getfield 22, 3) := by decide +kernel
theorem dX4_isOutOfOrder_14 : decode cX4_isOutOfOrder 14 = .ok (.iload_n 2, 1) := by decide +kernel
theorem dX4_isOutOfOrder_15 : decode cX4_isOutOfOrder 15 = .ok (.iconst 1, 1) := by decide +kernel
theorem dX4_isOutOfOrder_16 : decode cX4_isOutOfOrder 16 = .ok (.isub, 1) := by decide +kernel
theorem dX4_isOutOfOrder_17 : decode cX4_isOutOfOrder 17 = .ok (.iaload, 1) := by decide +kernel
theorem dX4_isOutOfOrder_18 : decode cX4_isOutOfOrder 18 = .ok (.istore_n 3, 1) := by decide +kernel
theorem dX4_isOutOfOrder_19 : decode cX4_isOutOfOrder 19 = .ok (.aload_n 0, 1) := by decide +kernel
theorem dX4_isOutOfOrder_20 : decode cX4_isOutOfOrder 20 = .ok (.getfield 22, 3) := by decide +kernel
theorem dX4_isOutOfOrder_23 : decode cX4_isOutOfOrder 23 = .ok (.iload_n 2, 1) := by decide +kernel
theorem dX4_isOutOfOrder_24 : decode cX4_isOutOfOrder 24 = .ok (.iaload, 1) := by decide +kernel
theorem dX4_isOutOfOrder_25 : decode cX4_isOutOfOrder 25 = .ok (.istore 4, 2) := by decide +kernel
theorem dX4_isOutOfOrder_27 : decode cX4_isOutOfOrder 27 = .ok (.aload_n 1, 1) := by decide +kernel
theorem dX4_isOutOfOrder_28 : decode cX4_isOutOfOrder 28 = .ok (.iload 4, 2) := by decide +kernel
theorem dX4_isOutOfOrder_30 : decode cX4_isOutOfOrder 30 = .ok (.invokevirtual 80, 3) := by decide +kernel
theorem dX4_isOutOfOrder_33 : decode cX4_isOutOfOrder 33 = .ok (.ifCond .ne 29, 3) := by decide +kernel
theorem dX4_isOutOfOrder_36 : decode cX4_isOutOfOrder 36 = .ok (.aload_n 1, 1) := by decide +kernel
theorem dX4_isOutOfOrder_37 : decode cX4_isOutOfOrder 37 = .ok (.iload_n 3, 1) := by decide +kernel
theorem dX4_isOutOfOrder_38 : decode cX4_isOutOfOrder 38 = .ok (.invokevirtual 80, 3) := by decide +kernel
theorem dX4_isOutOfOrder_41 : decode cX4_isOutOfOrder 41 = .ok (.ifCond .ne 19, 3) := by decide +kernel
theorem dX4_isOutOfOrder_44 : decode cX4_isOutOfOrder 44 = .ok (.aload_n 1, 1) := by decide +kernel
theorem dX4_isOutOfOrder_45 : decode cX4_isOutOfOrder 45 = .ok (.getfield 103, 3) := by decide +kernel
theorem dX4_isOutOfOrder_48 : decode cX4_isOutOfOrder 48 = .ok (.iload_n 3, 1) := by decide +kernel
theorem dX4_isOutOfOrder_49 : decode cX4_isOutOfOrder 49 = .ok (.iaload, 1) := by decide +kernel
theorem dX4_isOutOfOrder_50 : decode cX4_isOutOfOrder 50 = .ok (.aload_n 1, 1) := by decide +kernel
theorem dX4_isOutOfOrder_51 : decode cX4_isOutOfOrder 51 = .ok (.getfield 103, 3) := by decide +kernel
theorem dX4_isOutOfOrder_54 : decode cX4_isOutOfOrder 54 = .ok (.iload 4, 2) := by decide +kernel
theorem dX4_isOutOfOrder_56 : decode cX4_isOutOfOrder 56 = .ok (.iaload, 1) := by decide +kernel
theorem dX4_isOutOfOrder_57 : decode cX4_isOutOfOrder 57 = .ok (.if_icmp .lt 5, 3) := by decide +kernel
theorem dX4_isOutOfOrder_60 : decode cX4_isOutOfOrder 60 = .ok (.iconst 1, 1) := by decide +kernel
theorem dX4_isOutOfOrder_61 : decode cX4_isOutOfOrder 61 = .ok (.ireturn, 1) := by decide +kernel
theorem dX4_isOutOfOrder_62 : decode cX4_isOutOfOrder 62 = .ok (.iinc 2 1, 3) := by decide +kernel
theorem dX4_isOutOfOrder_65 : decode cX4_isOutOfOrder 65 = .ok (.goto (-63), 3) := by decide +kernel
theorem dX4_isOutOfOrder_68 : decode cX4_isOutOfOrder 68 = .ok (.iconst 0, 1) := by decide +kernel
theorem dX4_isOutOfOrder_69 : decode cX4_isOutOfOrder 69 = .ok (.ireturn, 1) := by decide +kernel
def mu_isOutOfOrder_2 (F : Nat) (I : Nat → Nat → Int32) (x : Nat) (a : Nat) : Nat → Int32 → Option ((Int32) ⊕ (Int32))
  | 0, _ => none
  | k + 1, l2 => if (I (x + 214) 8) ≤ l2 then (some (.inr l2)) else (chk (l2 - 1) 6 (let x3 := (I (x + 218) (Int32.toNatClampNeg (l2 - 1))); chk l2 6 (let x6 := (I (x + 218) (Int32.toNatClampNeg l2)); if (s_isUp I a x6) = 0 then (if (s_isUp I a x3) = 0 then (chk x3 6 (chk x6 6 (if (I (a + 4) (Int32.toNatClampNeg x3)) < (I (a + 4) (Int32.toNatClampNeg x6)) then (mu_isOutOfOrder_2 F I x a k (l2 + 1)) else (some (.inl 1))))) else (some (.inl 1))) else (mu_isOutOfOrder_2 F I x a k (l2 + 1)))))
def mu_isOutOfOrder (F : Nat) (I : Nat → Nat → Int32) (x : Nat) (a : Nat) : Option (Int32) := (mu_isOutOfOrder_2 F I x a F 1).bind (fun q13 => match q13 with | .inl r0 => some r0 | .inr q0 => let m15 := q0; some 0)
theorem l_mu_isOutOfOrder_2 {l : Launch} {D : va_G} {E : Nat → ClassId} {B : Nat → Prop} {n F : Nat} {Q : Option Value → HT → Prop} {T : Nat → Option (Nat × Nat)} {I : Nat → Nat → Int32} {J : Nat → Nat → Int64} {P : Nat → Nat → Option Nat} {x : Nat} {a : Nat}  (hx : isSR T P x) (hs_a : isSt T P a)  (r : (Int32) ⊕ (Int32)) : ∀ (k : Nat) (l2 : Int32), mu_isOutOfOrder_2 F I x a k l2 = some r → (match r with | .inl r => Q (some (.int r)) (n, T, I, J, P) | .inr r => V l D E B yX4_isOutOfOrder cX4_isOutOfOrder 5 (some .boolean) 1 0 0 Q 0 0 (n, T, I, J, P) 68 [(0, some (.ref (x + 214))), (1, some (.ref a)), (2, some (.int r))] []) → V l D E B yX4_isOutOfOrder cX4_isOutOfOrder 5 (some .boolean) 1 0 0 Q 0 0 (n, T, I, J, P) 2 [(0, some (.ref (x + 214))), (1, some (.ref a)), (2, some (.int l2))] [] := by
  intro k
  induction k with
  | zero =>
    intro l2 hf hk
    cases hf
  | succ k ih =>
    intro l2 hf hk
    unfold mu_isOutOfOrder_2 at hf
    refine V.iload_n dX4_isOutOfOrder_2 rfl ?_
    refine V.aload_n dX4_isOutOfOrder_3 rfl ?_
    refine V.getf fl_X4_59 dX4_isOutOfOrder_4 (hx.1 214 (4, 0) rfl) (by decide) rfl ?_
    refine V.icmp_ge 68 dX4_isOutOfOrder_7 (by decide) (fun c1 => ?_) (fun c1 => ?_)
    · rw [if_pos c1] at hf
      obtain rfl := Option.some.inj hf
      exact V.lo [(0, some (.ref (x + 214))), (1, some (.ref a)), (2, some (.int l2))] (by simp only [Subs]; repeat' first | exact trivial | constructor | rfl) hk
    · rw [if_neg c1] at hf
      refine V.aload_n dX4_isOutOfOrder_10 rfl ?_
      refine V.getr fl_X4_22 dX4_isOutOfOrder_11 (hx.1 214 (4, 0) rfl) (hx.2.1 214 7 218 rfl) (by decide) rfl ?_
      refine V.iload_n dX4_isOutOfOrder_14 rfl ?_
      refine V.iconst (v := 1) dX4_isOutOfOrder_15 (by decide) ?_
      refine V.isub dX4_isOutOfOrder_16 ?_
      obtain ⟨hb2, hf⟩ := chk_some hf
      refine V.iald dX4_isOutOfOrder_17 (hx.1 218 (20, 6) rfl) hb2 ?_
      refine V.istore_n dX4_isOutOfOrder_18 rfl (by decide) (by first | exact rfl | exact trivial) ?_
      obtain ⟨x3, e4⟩ : ∃ zz_, zz_ = (I (x + 218) (Int32.toNatClampNeg (l2 - 1))) := ⟨_, rfl⟩
      rw [← e4] at hf ⊢
      try dsimp only at hf
      refine V.aload_n dX4_isOutOfOrder_19 rfl ?_
      refine V.getr fl_X4_22 dX4_isOutOfOrder_20 (hx.1 214 (4, 0) rfl) (hx.2.1 214 7 218 rfl) (by decide) rfl ?_
      refine V.iload_n dX4_isOutOfOrder_23 rfl ?_
      obtain ⟨hb5, hf⟩ := chk_some hf
      refine V.iald dX4_isOutOfOrder_24 (hx.1 218 (20, 6) rfl) hb5 ?_
      refine V.istore dX4_isOutOfOrder_25 (by decide) (by first | exact rfl | exact trivial) ?_
      obtain ⟨x6, e7⟩ : ∃ zz_, zz_ = (I (x + 218) (Int32.toNatClampNeg l2)) := ⟨_, rfl⟩
      rw [← e7] at hf ⊢
      try dsimp only at hf
      refine V.aload_n dX4_isOutOfOrder_27 rfl ?_
      refine V.iload dX4_isOutOfOrder_28 rfl ?_
      refine V.inv cv_X4_80 (c_s_isUp hs_a) dX4_isOutOfOrder_30 (hs_a.1 0 (8, 0) rfl) (by decide) rfl rfl rfl (Nat.le_of_ble_eq_true rfl) (by decide) (by decide) (Nat.le_refl _) (Nat.le_refl _) (fun _ _ hq => ?_)
      obtain ⟨rfl, rfl⟩ := hq
      refine V.if_ne 62 dX4_isOutOfOrder_33 (by decide) (fun c8 => ?_) (fun c8 => ?_)
      · rw [if_neg c8] at hf
        refine V.iinc (v := (l2 + 1)) dX4_isOutOfOrder_62 rfl rfl (by first | exact rfl | exact trivial) ?_
        refine V.goto 2 dX4_isOutOfOrder_65 (by decide) ?_
        exact V.lo [(0, some (.ref (x + 214))), (1, some (.ref a)), (2, some (.int (l2 + 1)))] (by simp only [Subs]; repeat' first | exact trivial | constructor | rfl) (ih _ hf hk)
      · rw [if_pos c8] at hf
        refine V.aload_n dX4_isOutOfOrder_36 rfl ?_
        refine V.iload_n dX4_isOutOfOrder_37 rfl ?_
        refine V.inv cv_X4_80 (c_s_isUp hs_a) dX4_isOutOfOrder_38 (hs_a.1 0 (8, 0) rfl) (by decide) rfl rfl rfl (Nat.le_of_ble_eq_true rfl) (by decide) (by decide) (Nat.le_refl _) (Nat.le_refl _) (fun _ _ hq => ?_)
        obtain ⟨rfl, rfl⟩ := hq
        refine V.if_ne 60 dX4_isOutOfOrder_41 (by decide) (fun c9 => ?_) (fun c9 => ?_)
        · rw [if_neg c9] at hf
          refine V.iconst (v := 1) dX4_isOutOfOrder_60 (by decide) ?_
          obtain rfl := Option.some.inj hf
          exact V.zret dX4_isOutOfOrder_61 rfl rfl (Nat.le_refl _) (Nat.le_refl _) hk
        · rw [if_pos c9] at hf
          refine V.aload_n dX4_isOutOfOrder_44 rfl ?_
          refine V.getr fl_X4_103 dX4_isOutOfOrder_45 (hs_a.1 0 (8, 0) rfl) (hs_a.2 0 7 4 rfl) (by decide) rfl ?_
          refine V.iload_n dX4_isOutOfOrder_48 rfl ?_
          obtain ⟨hb10, hf⟩ := chk_some hf
          refine V.iald dX4_isOutOfOrder_49 (hs_a.1 4 (20, 6) rfl) hb10 ?_
          refine V.aload_n dX4_isOutOfOrder_50 rfl ?_
          refine V.getr fl_X4_103 dX4_isOutOfOrder_51 (hs_a.1 0 (8, 0) rfl) (hs_a.2 0 7 4 rfl) (by decide) rfl ?_
          refine V.iload dX4_isOutOfOrder_54 rfl ?_
          obtain ⟨hb11, hf⟩ := chk_some hf
          refine V.iald dX4_isOutOfOrder_56 (hs_a.1 4 (20, 6) rfl) hb11 ?_
          refine V.icmp_lt 62 dX4_isOutOfOrder_57 (by decide) (fun c12 => ?_) (fun c12 => ?_)
          · rw [if_pos c12] at hf
            refine V.iinc (v := (l2 + 1)) dX4_isOutOfOrder_62 rfl rfl (by first | exact rfl | exact trivial) ?_
            refine V.goto 2 dX4_isOutOfOrder_65 (by decide) ?_
            exact V.lo [(0, some (.ref (x + 214))), (1, some (.ref a)), (2, some (.int (l2 + 1)))] (by simp only [Subs]; repeat' first | exact trivial | constructor | rfl) (ih _ hf hk)
          · rw [if_neg c12] at hf
            refine V.iconst (v := 1) dX4_isOutOfOrder_60 (by decide) ?_
            obtain rfl := Option.some.inj hf
            exact V.zret dX4_isOutOfOrder_61 rfl rfl (Nat.le_refl _) (Nat.le_refl _) hk
theorem c_mu_isOutOfOrder {l : Launch} {D : va_G} {E : Nat → ClassId} {B : Nat → Prop} {n F : Nat} {T : Nat → Option (Nat × Nat)} {I : Nat → Nat → Int32} {J : Nat → Nat → Int64} {P : Nat → Nat → Option Nat} {x : Nat} {a : Nat}  {r : Int32} (hx : isSR T P x) (hs_a : isSt T P a) (hf : mu_isOutOfOrder F I x a = some r) : Ct l D E B yX4_isOutOfOrder cX4_isOutOfOrder 5 (some .boolean) 1 0 0 [.ref (x + 214), .ref a] (n, T, I, J, P) (Ret (some (.int r)) (n, T, I, J, P)) := by
  unfold mu_isOutOfOrder at hf
  refine Ct.ofV (by decide) (Nat.le_of_ble_eq_true rfl) ?_
  refine V.iconst (v := 1) dX4_isOutOfOrder_0 (by decide) ?_
  refine V.istore_n dX4_isOutOfOrder_1 rfl (by decide) (by first | exact rfl | exact trivial) ?_
  obtain ⟨q13, hk14, hf⟩ := bnd_some hf
  refine V.lo [(0, some (.ref (x + 214))), (1, some (.ref a)), (2, some (.int 1))] (by simp only [Subs]; repeat' first | exact trivial | constructor | rfl) (l_mu_isOutOfOrder_2 hx hs_a q13 F _ hk14 ?_)
  rcases q13 with r0 | m15
  · try dsimp only at hf ⊢
    obtain rfl := Option.some.inj hf
    exact ⟨rfl, rfl⟩
  · try dsimp only at hf ⊢
    refine V.iconst (v := 0) dX4_isOutOfOrder_68 (by decide) ?_
    obtain rfl := Option.some.inj hf
    exact V.zret dX4_isOutOfOrder_69 rfl rfl (Nat.le_refl _) (Nat.le_refl _) ⟨rfl, rfl⟩
theorem dX4_allSit_0 : decode cX4_allSit 0 = .ok (.iconst 0, 1) := by decide +kernel
theorem dX4_allSit_1 : decode cX4_allSit 1 = .ok (.istore_n 2, 1) := by decide +kernel
theorem dX4_allSit_2 : decode cX4_allSit 2 = .ok (.iload_n 2, 1) := by decide +kernel
theorem dX4_allSit_3 : decode cX4_allSit 3 = .ok (.aload_n 0, 1) := by decide +kernel
theorem dX4_allSit_4 : decode cX4_allSit 4 = .ok (.getfield 59, 3) := by decide +kernel
theorem dX4_allSit_7 : decode cX4_allSit 7 = .ok (.if_icmp .ge 24, 3) := by decide +kernel
theorem dX4_allSit_10 : decode cX4_allSit 10 = .ok (.aload_n 1, 1) := by decide +kernel
theorem dX4_allSit_11 : decode cX4_allSit 11 = .ok (.aload_n 0, 1) := by decide +kernel
theorem dX4_allSit_12 : decode cX4_allSit 12 = .ok (.getfield 22, 3) := by decide +kernel
theorem dX4_allSit_15 : decode cX4_allSit 15 = .ok (.iload_n 2, 1) := by decide +kernel
theorem dX4_allSit_16 : decode cX4_allSit 16 = .ok (.iaload, 1) := by decide +kernel
theorem dX4_allSit_17 : decode cX4_allSit 17 = .ok (.invokevirtual 80, 3) := by decide +kernel
theorem dX4_allSit_20 : decode cX4_allSit 20 = .ok (.ifCond .eq 5, 3) := by decide +kernel
theorem dX4_allSit_23 : decode cX4_allSit 23 = .ok (.iconst 0, 1) := by decide +kernel
theorem dX4_allSit_24 : decode cX4_allSit 24 = .ok (.ireturn, 1) := by decide +kernel
theorem dX4_allSit_25 : decode cX4_allSit 25 = .ok (.iinc 2 1, 3) := by decide +kernel
theorem dX4_allSit_28 : decode cX4_allSit 28 = .ok (.goto (-26), 3) := by decide +kernel
theorem dX4_allSit_31 : decode cX4_allSit 31 = .ok (.iconst 1, 1) := by decide +kernel
theorem dX4_allSit_32 : decode cX4_allSit 32 = .ok (.ireturn, 1) := by decide +kernel
def mu_allSit_2 (F : Nat) (I : Nat → Nat → Int32) (x : Nat) (a : Nat) : Nat → Int32 → Option ((Int32) ⊕ (Int32))
  | 0, _ => none
  | k + 1, l2 => if (I (x + 214) 8) ≤ l2 then (some (.inr l2)) else (chk l2 6 (if (s_isUp I a (I (x + 218) (Int32.toNatClampNeg l2))) = 0 then (mu_allSit_2 F I x a k (l2 + 1)) else (some (.inl 0))))
def mu_allSit (F : Nat) (I : Nat → Nat → Int32) (x : Nat) (a : Nat) : Option (Int32) := (mu_allSit_2 F I x a F 0).bind (fun q4 => match q4 with | .inl r0 => some r0 | .inr q0 => let m6 := q0; some 1)
theorem l_mu_allSit_2 {l : Launch} {D : va_G} {E : Nat → ClassId} {B : Nat → Prop} {n F : Nat} {Q : Option Value → HT → Prop} {T : Nat → Option (Nat × Nat)} {I : Nat → Nat → Int32} {J : Nat → Nat → Int64} {P : Nat → Nat → Option Nat} {x : Nat} {a : Nat}  (hx : isSR T P x) (hs_a : isSt T P a)  (r : (Int32) ⊕ (Int32)) : ∀ (k : Nat) (l2 : Int32), mu_allSit_2 F I x a k l2 = some r → (match r with | .inl r => Q (some (.int r)) (n, T, I, J, P) | .inr r => V l D E B yX4_allSit cX4_allSit 3 (some .boolean) 1 0 0 Q 0 0 (n, T, I, J, P) 31 [(0, some (.ref (x + 214))), (1, some (.ref a)), (2, some (.int r))] []) → V l D E B yX4_allSit cX4_allSit 3 (some .boolean) 1 0 0 Q 0 0 (n, T, I, J, P) 2 [(0, some (.ref (x + 214))), (1, some (.ref a)), (2, some (.int l2))] [] := by
  intro k
  induction k with
  | zero =>
    intro l2 hf hk
    cases hf
  | succ k ih =>
    intro l2 hf hk
    unfold mu_allSit_2 at hf
    refine V.iload_n dX4_allSit_2 rfl ?_
    refine V.aload_n dX4_allSit_3 rfl ?_
    refine V.getf fl_X4_59 dX4_allSit_4 (hx.1 214 (4, 0) rfl) (by decide) rfl ?_
    refine V.icmp_ge 31 dX4_allSit_7 (by decide) (fun c1 => ?_) (fun c1 => ?_)
    · rw [if_pos c1] at hf
      obtain rfl := Option.some.inj hf
      exact V.lo [(0, some (.ref (x + 214))), (1, some (.ref a)), (2, some (.int l2))] (by simp only [Subs]; repeat' first | exact trivial | constructor | rfl) hk
    · rw [if_neg c1] at hf
      refine V.aload_n dX4_allSit_10 rfl ?_
      refine V.aload_n dX4_allSit_11 rfl ?_
      refine V.getr fl_X4_22 dX4_allSit_12 (hx.1 214 (4, 0) rfl) (hx.2.1 214 7 218 rfl) (by decide) rfl ?_
      refine V.iload_n dX4_allSit_15 rfl ?_
      obtain ⟨hb2, hf⟩ := chk_some hf
      refine V.iald dX4_allSit_16 (hx.1 218 (20, 6) rfl) hb2 ?_
      refine V.inv cv_X4_80 (c_s_isUp hs_a) dX4_allSit_17 (hs_a.1 0 (8, 0) rfl) (by decide) rfl rfl rfl (Nat.le_of_ble_eq_true rfl) (by decide) (by decide) (Nat.le_refl _) (Nat.le_refl _) (fun _ _ hq => ?_)
      obtain ⟨rfl, rfl⟩ := hq
      refine V.if_eq 25 dX4_allSit_20 (by decide) (fun c3 => ?_) (fun c3 => ?_)
      · rw [if_pos c3] at hf
        refine V.iinc (v := (l2 + 1)) dX4_allSit_25 rfl rfl (by first | exact rfl | exact trivial) ?_
        refine V.goto 2 dX4_allSit_28 (by decide) ?_
        exact V.lo [(0, some (.ref (x + 214))), (1, some (.ref a)), (2, some (.int (l2 + 1)))] (by simp only [Subs]; repeat' first | exact trivial | constructor | rfl) (ih _ hf hk)
      · rw [if_neg c3] at hf
        refine V.iconst (v := 0) dX4_allSit_23 (by decide) ?_
        obtain rfl := Option.some.inj hf
        exact V.zret dX4_allSit_24 rfl rfl (Nat.le_refl _) (Nat.le_refl _) hk
theorem c_mu_allSit {l : Launch} {D : va_G} {E : Nat → ClassId} {B : Nat → Prop} {n F : Nat} {T : Nat → Option (Nat × Nat)} {I : Nat → Nat → Int32} {J : Nat → Nat → Int64} {P : Nat → Nat → Option Nat} {x : Nat} {a : Nat}  {r : Int32} (hx : isSR T P x) (hs_a : isSt T P a) (hf : mu_allSit F I x a = some r) : Ct l D E B yX4_allSit cX4_allSit 3 (some .boolean) 1 0 0 [.ref (x + 214), .ref a] (n, T, I, J, P) (Ret (some (.int r)) (n, T, I, J, P)) := by
  unfold mu_allSit at hf
  refine Ct.ofV (by decide) (Nat.le_of_ble_eq_true rfl) ?_
  refine V.iconst (v := 0) dX4_allSit_0 (by decide) ?_
  refine V.istore_n dX4_allSit_1 rfl (by decide) (by first | exact rfl | exact trivial) ?_
  obtain ⟨q4, hk5, hf⟩ := bnd_some hf
  refine V.lo [(0, some (.ref (x + 214))), (1, some (.ref a)), (2, some (.int 0))] (by simp only [Subs]; repeat' first | exact trivial | constructor | rfl) (l_mu_allSit_2 hx hs_a q4 F _ hk5 ?_)
  rcases q4 with r0 | m6
  · try dsimp only at hf ⊢
    obtain rfl := Option.some.inj hf
    exact ⟨rfl, rfl⟩
  · try dsimp only at hf ⊢
    refine V.iconst (v := 1) dX4_allSit_31 (by decide) ?_
    obtain rfl := Option.some.inj hf
    exact V.zret dX4_allSit_32 rfl rfl (Nat.le_refl _) (Nat.le_refl _) ⟨rfl, rfl⟩
theorem dX4_reaches_0 : decode cX4_reaches 0 = .ok (.aload_n 0, 1) := by decide +kernel
theorem dX4_reaches_1 : decode cX4_reaches 1 = .ok (.getfield 25, 3) := by decide +kernel
theorem dX4_reaches_4 : decode cX4_reaches 4 = .ok (.iload_n 1, 1) := by decide +kernel
theorem dX4_reaches_5 : decode cX4_reaches 5 = .ok (.aaload, 1) := by decide +kernel
theorem dX4_reaches_6 : decode cX4_reaches 6 = .ok (.astore_n 3, 1) := by decide +kernel
theorem dX4_reaches_7 : decode cX4_reaches 7 = .ok (.aload_n 0, 1) := by decide +kernel
theorem dX4_reaches_8 : decode cX4_reaches 8 = .ok (.getfield 37, 3) := by decide +kernel
theorem dX4_reaches_11 : decode cX4_reaches 11 = .ok (.ifCond .eq 17, 3) := by decide +kernel
theorem dX4_reaches_14 : decode cX4_reaches 14 = .ok (.aload_n 3, 1) := by decide +kernel
theorem dX4_reaches_15 : decode cX4_reaches 15 = .ok (.aload_n 0, 1) := by decide +kernel
theorem dX4_reaches_16 : decode cX4_reaches 16 = .ok (.getfield 41, 3) := by decide +kernel
theorem dX4_reaches_19 : decode cX4_reaches 19 = .ok (.invokevirtual 80, 3) := by decide +kernel
theorem dX4_reaches_22 : decode cX4_reaches 22 = .ok (.ifCond .ne 16, 3) := by decide +kernel
theorem dX4_reaches_25 : decode cX4_reaches 25 = .ok (.goto 11, 3) := by decide +kernel
theorem dX4_reaches_28 : decode cX4_reaches 28 = .ok (.aload_n 0, 1) := by decide +kernel
theorem dX4_reaches_29 : decode cX4_reaches 29 = .ok (.aload_n 3, 1) := by decide +kernel
theorem dX4_reaches_30 : decode cX4_reaches 30 = .ok (.invokevirtual 84, 3) := by decide +kernel
theorem dX4_reaches_33 : decode cX4_reaches 33 = .ok (.ifCond .eq 5, 3) := by decide +kernel
theorem dX4_reaches_36 : decode cX4_reaches 36 = .ok (.iconst 0, 1) := by decide +kernel
theorem dX4_reaches_37 : decode cX4_reaches 37 = .ok (.ireturn, 1) := by decide +kernel
theorem dX4_reaches_38 : decode cX4_reaches 38 = .ok (.iload_n 1, 1) := by decide +kernel
theorem dX4_reaches_39 : decode cX4_reaches 39 = .ok (.iload_n 2, 1) := by decide +kernel
theorem dX4_reaches_40 : decode cX4_reaches 40 = .ok (.if_icmp .ge 9, 3) := by decide +kernel
theorem dX4_reaches_43 : decode cX4_reaches 43 = .ok (.iload_n 1, 1) := by decide +kernel
theorem dX4_reaches_44 : decode cX4_reaches 44 = .ok (.bipush 7, 2) := by decide +kernel
theorem dX4_reaches_46 : decode cX4_reaches 46 = .ok (.if_icmp .lt 37, 3) := by decide +kernel
theorem dX4_reaches_49 : decode cX4_reaches 49 = .ok (.aload_n 0, 1) := by decide +kernel
theorem dX4_reaches_50 : decode cX4_reaches 50 = .ok (.getfield 37, 3) := by decide +kernel
theorem dX4_reaches_53 : decode cX4_reaches 53 = .ok (.ifCond .eq 24, 3) := by decide +kernel
theorem dX4_reaches_56 : decode cX4_reaches 56 = .ok (.aload_n 3, 1) := by decide +kernel
theorem dX4_reaches_57 : decode cX4_reaches 57 = .ok (.getfield 88, 3) := by decide +kernel
theorem dX4_reaches_60 : decode cX4_reaches 60 = .ok (.iconst 1, 1) := by decide +kernel
theorem dX4_reaches_61 : decode cX4_reaches 61 = .ok (.aload_n 0, 1) := by decide +kernel
theorem dX4_reaches_62 : decode cX4_reaches 62 = .ok (.getfield 41, 3) := by decide +kernel
theorem dX4_reaches_65 : decode cX4_reaches 65 = .ok (.ishl, 1) := by decide +kernel
theorem dX4_reaches_66 : decode cX4_reaches 66 = .ok (.if_icmp .ne 7, 3) := by decide +kernel
theorem dX4_reaches_69 : decode cX4_reaches 69 = .ok (.iconst 1, 1) := by decide +kernel
theorem dX4_reaches_70 : decode cX4_reaches 70 = .ok (.goto 12, 3) := by decide +kernel
theorem dX4_reaches_73 : decode cX4_reaches 73 = .ok (.iconst 0, 1) := by decide +kernel
theorem dX4_reaches_74 : decode cX4_reaches 74 = .ok (.goto 8, 3) := by decide +kernel
theorem dX4_reaches_77 : decode cX4_reaches 77 = .ok (.aload_n 0, 1) := by decide +kernel
theorem dX4_reaches_78 : decode cX4_reaches 78 = .ok (.aload_n 3, 1) := by decide +kernel
theorem dX4_reaches_79 : decode cX4_reaches 79 = .ok (.invokevirtual 91, 3) := by decide +kernel
theorem dX4_reaches_82 : decode cX4_reaches 82 = .ok (.ireturn, 1) := by decide +kernel
theorem dX4_reaches_83 : decode cX4_reaches 83 = .ok (.iconst 0, 1) := by decide +kernel
theorem dX4_reaches_84 : decode cX4_reaches 84 = .ok (.istore 4, 2) := by decide +kernel
theorem dX4_reaches_86 : decode cX4_reaches 86 = .ok (.iload 4, 2) := by decide +kernel
theorem dX4_reaches_88 : decode cX4_reaches 88 = .ok (.aload_n 0, 1) := by decide +kernel
theorem dX4_reaches_89 : decode cX4_reaches 89 = .ok (.getfield 66, 3) := by decide +kernel
theorem dX4_reaches_92 : decode cX4_reaches 92 = .ok (.getfield 94, 3) := by decide +kernel
theorem dX4_reaches_95 : decode cX4_reaches 95 = .ok (.if_icmp .ge 60, 3) := by decide +kernel
theorem dX4_reaches_98 : decode cX4_reaches 98 = .ok (.aload_n 0, 1) := by decide +kernel
theorem dX4_reaches_99 : decode cX4_reaches 99 = .ok (.getfield 18, 3) := by decide +kernel
theorem dX4_reaches_102 : decode cX4_reaches 102 = .ok (.iload_n 1, 1) := by decide +kernel
theorem dX4_reaches_103 : decode cX4_reaches 103 = .ok (.iload 4, 2) := by decide +kernel
theorem dX4_reaches_105 : decode cX4_reaches 105 = .ok (.iastore, 1) := by decide +kernel
theorem dX4_reaches_106 : decode cX4_reaches 106 = .ok (.aload_n 0, 1) := by decide +kernel
theorem dX4_reaches_107 : decode cX4_reaches 107 = .ok (.getfield 25, 3) := by decide +kernel
theorem dX4_reaches_110 : decode cX4_reaches 110 = .ok (.iload_n 1, 1) := by decide +kernel
theorem dX4_reaches_111 : decode cX4_reaches 111 = .ok (.iconst 1, 1) := by decide +kernel
theorem dX4_reaches_112 : decode cX4_reaches 112 = .ok (.iadd, 1) := by decide +kernel
theorem dX4_reaches_113 : decode cX4_reaches 113 = .ok (.aaload, 1) := by decide +kernel
theorem dX4_reaches_114 : decode cX4_reaches 114 = .ok (.aload_n 3, 1) := by decide +kernel
theorem dX4_reaches_115 : decode cX4_reaches 115 = .ok (.invokevirtual 70, 3) := by decide +kernel
theorem dX4_reaches_118 : decode cX4_reaches 118 = .ok (.aload_n 0, 1) := by decide +kernel
theorem dX4_reaches_119 : decode cX4_reaches 119 = .ok (.getfield 25, 3) := by decide +kernel
theorem dX4_reaches_122 : decode cX4_reaches 122 = .ok (.iload_n 1, 1) := by decide +kernel
theorem dX4_reaches_123 : decode cX4_reaches 123 = .ok (.iconst 1, 1) := by decide +kernel
theorem dX4_reaches_124 : decode cX4_reaches 124 = .ok (.iadd, 1) := by decide +kernel
theorem dX4_reaches_125 : decode cX4_reaches 125 = .ok (.aaload, 1) := by decide +kernel
theorem dX4_reaches_126 : decode cX4_reaches 126 = .ok (.aload_n 0, 1) := by decide +kernel
theorem dX4_reaches_127 : decode cX4_reaches 127 = .ok (.getfield 66, 3) := by decide +kernel
theorem dX4_reaches_130 : decode cX4_reaches 130 = .ok (.iload 4, 2) := by decide +kernel
theorem dX4_reaches_132 : decode cX4_reaches 132 = .ok (.iconst 0, 1) := by decide +kernel
theorem dX4_reaches_133 : decode cX4_reaches 133 = .ok (.invokevirtual 99, 3) := by decide +kernel
theorem dX4_reaches_136 : decode cX4_reaches 136 = .ok (.aload_n 0, 1) := by decide +kernel
theorem dX4_reaches_137 : decode cX4_reaches 137 = .ok (.iload_n 1, 1) := by decide +kernel
theorem dX4_reaches_138 : decode cX4_reaches 138 = .ok (.iconst 1, 1) := by decide +kernel
theorem dX4_reaches_139 : decode cX4_reaches 139 = .ok (.iadd, 1) := by decide +kernel
theorem dX4_reaches_140 : decode cX4_reaches 140 = .ok (.iload_n 2, 1) := by decide +kernel
theorem dX4_reaches_141 : decode cX4_reaches 141 = .ok (.invokevirtual 76, 3) := by decide +kernel
theorem dX4_reaches_144 : decode cX4_reaches 144 = .ok (.ifCond .eq 5, 3) := by decide +kernel
theorem dX4_reaches_147 : decode cX4_reaches 147 = .ok (.iconst 1, 1) := by decide +kernel
theorem dX4_reaches_148 : decode cX4_reaches 148 = .ok (.ireturn, 1) := by decide +kernel
theorem dX4_reaches_149 : decode cX4_reaches 149 = .ok (.iinc 4 1, 3) := by decide +kernel
theorem dX4_reaches_152 : decode cX4_reaches 152 = .ok (.goto (-66), 3) := by decide +kernel
theorem dX4_reaches_155 : decode cX4_reaches 155 = .ok (.iconst 0, 1) := by decide +kernel
theorem dX4_reaches_156 : decode cX4_reaches 156 = .ok (.ireturn, 1) := by decide +kernel
def mu_reachesB_86 (rec : Int32 → Int32 → (Nat → Nat → Int32) → Option (Int32 × (Nat → Nat → Int32))) (F : Nat) (T : Nat → Option (Nat × Nat)) (P : Nat → Nat → Option Nat) (x : Nat) (c : Nat) (tb3 : Nat) (g1 : Int32) (g2 : Int32) : Nat → Int32 → (Nat → Nat → Int32) → Option ((Int32 × (Nat → Nat → Int32)) ⊕ (Int32 × (Nat → Nat → Int32)))
  | 0, _, _ => none
  | k + 1, l4, I => if (I c 1) ≤ l4 then (some (.inr (l4, I))) else (chk g1 7 (let I17 := uI I (x + 217) (Int32.toNatClampNeg g1) l4; chk (g1 + 1) 8 ((s_copyFrom I17 (x + (158 + 7 * (Int32.toNatClampNeg (g1 + 1)))) tb3).bind (fun q20 => let I22 := q20; (s_playMinute F T I22 P (x + (158 + 7 * (Int32.toNatClampNeg (g1 + 1)))) c l4 0).bind (fun q23 => let I25 := q23; (rec (g1 + 1) g2 I25).bind (fun q26 => let u28 := q26.1; let I29 := q26.2; if u28 = 0 then (mu_reachesB_86 rec F T P x c tb3 g1 g2 k (l4 + 1) I29) else (some (.inl (1, I29)))))))))
def mu_reachesB (rec : Int32 → Int32 → (Nat → Nat → Int32) → Option (Int32 × (Nat → Nat → Int32))) (F : Nat) (T : Nat → Option (Nat × Nat)) (I : Nat → Nat → Int32) (P : Nat → Nat → Option Nat) (x : Nat) (c : Nat) (v1 : Int32) (v2 : Int32) : Option (Int32 × (Nat → Nat → Int32)) := chk v1 8 (if (I (x + 214) 5) = 0 then ((mu_isOutOfOrder F I x (x + (158 + 7 * (Int32.toNatClampNeg v1)))).bind (fun q3 => let u5 := q3; if u5 = 0 then (if v2 ≤ v1 then (if (I (x + 214) 5) = 0 then ((mu_allSit F I x (x + (158 + 7 * (Int32.toNatClampNeg v1)))).bind (fun q9 => let u11 := q9; isb u11 (some (u11, I)))) else (if (I (x + (158 + 7 * (Int32.toNatClampNeg v1))) 1) = (1 <<< ((I (x + 214) 6) &&& 31)) then (some (1, I)) else (some (0, I)))) else (if v1 < 7 then ((mu_reachesB_86 rec F T P x c (x + (158 + 7 * (Int32.toNatClampNeg v1))) v1 v2 F 0 I).bind (fun q31 => match q31 with | .inl r0 => some r0 | .inr q0 => let m33 := q0.1; let I34 := q0.2; some (0, I34))) else (if (I (x + 214) 5) = 0 then ((mu_allSit F I x (x + (158 + 7 * (Int32.toNatClampNeg v1)))).bind (fun q36 => let u38 := q36; isb u38 (some (u38, I)))) else (if (I (x + (158 + 7 * (Int32.toNatClampNeg v1))) 1) = (1 <<< ((I (x + 214) 6) &&& 31)) then (some (1, I)) else (some (0, I)))))) else (some (0, I)))) else (if (s_isUp I (x + (158 + 7 * (Int32.toNatClampNeg v1))) (I (x + 214) 6)) = 0 then (some (0, I)) else (if v2 ≤ v1 then (if (I (x + 214) 5) = 0 then ((mu_allSit F I x (x + (158 + 7 * (Int32.toNatClampNeg v1)))).bind (fun q44 => let u46 := q44; isb u46 (some (u46, I)))) else (if (I (x + (158 + 7 * (Int32.toNatClampNeg v1))) 1) = (1 <<< ((I (x + 214) 6) &&& 31)) then (some (1, I)) else (some (0, I)))) else (if v1 < 7 then ((mu_reachesB_86 rec F T P x c (x + (158 + 7 * (Int32.toNatClampNeg v1))) v1 v2 F 0 I).bind (fun q50 => match q50 with | .inl r0 => some r0 | .inr q0 => let m52 := q0.1; let I53 := q0.2; some (0, I53))) else (if (I (x + 214) 5) = 0 then ((mu_allSit F I x (x + (158 + 7 * (Int32.toNatClampNeg v1)))).bind (fun q55 => let u57 := q55; isb u57 (some (u57, I)))) else (if (I (x + (158 + 7 * (Int32.toNatClampNeg v1))) 1) = (1 <<< ((I (x + 214) 6) &&& 31)) then (some (1, I)) else (some (0, I))))))))
def mu_reaches (F : Nat) (T : Nat → Option (Nat × Nat)) (P : Nat → Nat → Option Nat) (x : Nat) (c : Nat) : Nat → Int32 → Int32 → (Nat → Nat → Int32) → Option (Int32 × (Nat → Nat → Int32))
  | 0, _, _, _ => none
  | kr + 1, a0, a1, I => mu_reachesB (mu_reaches F T P x c kr) F T I P x c a0 a1
def mu_reaches_H (l : Launch) (D : va_G) (E : Nat → ClassId) (B : Nat → Prop) (n F : Nat) (T : Nat → Option (Nat × Nat)) (J : Nat → Nat → Int64) (P : Nat → Nat → Option Nat) (x : Nat) (c : Nat) (k : Nat) : Prop := (∀ {a0 : Int32} {a1 : Int32} {I : Nat → Nat → Int32} {r : Int32 × (Nat → Nat → Int32)}, isSR T P x →  isCt T P c →  P (x + 214) 4 = some c → mu_reaches F T P x c k a0 a1 I = some r → Ct l D E B yX4_reaches cX4_reaches 5 (some .boolean) (10 + k) 0 0 [.ref (x + 214), .int a0, .int a1] (n, T, I, J, P) (Ret (some (.int r.1)) (n, T, r.2, J, P)))
theorem l_mu_reachesB_86 {l : Launch} {D : va_G} {E : Nat → ClassId} {B : Nat → Prop} {n F : Nat} {Q : Option Value → HT → Prop} {T : Nat → Option (Nat × Nat)} {J : Nat → Nat → Int64} {P : Nat → Nat → Option Nat} {x : Nat} {c : Nat} {tb3 : Nat} {g1 : Int32} {g2 : Int32} (hx : isSR T P x) (hs_c : isCt T P c) (hm : P (x + 214) 4 = some c) (hs_tb3 : isSt T P tb3) {kr : Nat} (ih0 : mu_reaches_H l D E B n F T J P x c kr) (r : (Int32 × (Nat → Nat → Int32)) ⊕ (Int32 × (Nat → Nat → Int32))) : ∀ (k : Nat) (l4 : Int32) (I : (Nat → Nat → Int32)), mu_reachesB_86 (mu_reaches F T P x c kr) F T P x c tb3 g1 g2 k l4 I = some r → (match r with | .inl r => Q (some (.int r.1)) (n, T, r.2, J, P) | .inr r => V l D E B yX4_reaches cX4_reaches 5 (some .boolean) (10 + (kr + 1)) 0 0 Q 0 0 (n, T, r.2, J, P) 155 [(0, some (.ref (x + 214))), (1, some (.int g1)), (2, some (.int g2)), (3, some (.ref tb3)), (4, some (.int (r.1)))] []) → V l D E B yX4_reaches cX4_reaches 5 (some .boolean) (10 + (kr + 1)) 0 0 Q 0 0 (n, T, I, J, P) 86 [(0, some (.ref (x + 214))), (1, some (.int g1)), (2, some (.int g2)), (3, some (.ref tb3)), (4, some (.int l4))] [] := by
  intro k
  induction k with
  | zero =>
    intro l4 I hf hk
    cases hf
  | succ k ih =>
    intro l4 I hf hk
    unfold mu_reachesB_86 at hf
    refine V.iload dX4_reaches_86 rfl ?_
    refine V.aload_n dX4_reaches_88 rfl ?_
    refine V.getr fl_X4_66 dX4_reaches_89 (hx.1 214 (4, 0) rfl) hm (by decide) rfl ?_
    refine V.getf fl_X4_94 dX4_reaches_92 (hs_c.1.1 0 (1, 0) rfl) (by decide) rfl ?_
    refine V.icmp_ge 155 dX4_reaches_95 (by decide) (fun c15 => ?_) (fun c15 => ?_)
    · rw [if_pos c15] at hf
      obtain rfl := Option.some.inj hf
      exact V.lo [(0, some (.ref (x + 214))), (1, some (.int g1)), (2, some (.int g2)), (3, some (.ref tb3)), (4, some (.int l4))] (by simp only [Subs]; repeat' first | exact trivial | constructor | rfl) hk
    · rw [if_neg c15] at hf
      refine V.aload_n dX4_reaches_98 rfl ?_
      refine V.getr fl_X4_18 dX4_reaches_99 (hx.1 214 (4, 0) rfl) (hx.2.1 214 2 217 rfl) (by decide) rfl ?_
      refine V.iload_n dX4_reaches_102 rfl ?_
      refine V.iload dX4_reaches_103 rfl ?_
      obtain ⟨hb16, hf⟩ := chk_some hf
      refine V.iastE dX4_reaches_105 (hx.1 217 (20, 7) rfl) hb16 (fun I17 e18 => ?_)
      rw [← e18] at hf
      try dsimp only at hf
      clear e18
      refine V.aload_n dX4_reaches_106 rfl ?_
      refine V.getr fl_X4_25 dX4_reaches_107 (hx.1 214 (4, 0) rfl) (hx.2.1 214 1 157 rfl) (by decide) rfl ?_
      refine V.iload_n dX4_reaches_110 rfl ?_
      refine V.iconst (v := 1) dX4_reaches_111 (by decide) ?_
      refine V.iadd dX4_reaches_112 ?_
      obtain ⟨hb19, hf⟩ := chk_some hf
      refine V.aald dX4_reaches_113 (hx.1 157 (25, 8) rfl) (by decide) hb19 (hx.arr157 (i := (g1 + 1)) hb19) ?_
      refine V.aload_n dX4_reaches_114 rfl ?_
      obtain ⟨I22, hk21, hf⟩ := bnd_some hf
      try dsimp only at hf
      refine V.inv cv_X4_70 (c_s_copyFrom (hx.ob157 (i := (g1 + 1)) hb19) hs_tb3 hk21) dX4_reaches_115 ((hx.ob157 (i := (g1 + 1)) hb19).1 0 (8, 0) rfl) (by decide) rfl rfl rfl (Nat.le_of_ble_eq_true rfl) (by omega) (by decide) (Nat.le_refl _) (Nat.le_refl _) (fun _ _ hq => ?_)
      obtain ⟨rfl, rfl⟩ := hq
      refine V.aload_n dX4_reaches_118 rfl ?_
      refine V.getr fl_X4_25 dX4_reaches_119 (hx.1 214 (4, 0) rfl) (hx.2.1 214 1 157 rfl) (by decide) rfl ?_
      refine V.iload_n dX4_reaches_122 rfl ?_
      refine V.iconst (v := 1) dX4_reaches_123 (by decide) ?_
      refine V.iadd dX4_reaches_124 ?_
      refine V.aald dX4_reaches_125 (hx.1 157 (25, 8) rfl) (by decide) hb19 (hx.arr157 (i := (g1 + 1)) hb19) ?_
      refine V.aload_n dX4_reaches_126 rfl ?_
      refine V.getr fl_X4_66 dX4_reaches_127 (hx.1 214 (4, 0) rfl) hm (by decide) rfl ?_
      refine V.iload dX4_reaches_130 rfl ?_
      refine V.iconst (v := 0) dX4_reaches_132 (by decide) ?_
      obtain ⟨I25, hk24, hf⟩ := bnd_some hf
      try dsimp only at hf
      refine V.inv cv_X4_99 (c_s_playMinute (hx.ob157 (i := (g1 + 1)) hb19) hs_c hk24) dX4_reaches_133 ((hx.ob157 (i := (g1 + 1)) hb19).1 0 (8, 0) rfl) (by decide) rfl rfl rfl (Nat.le_of_ble_eq_true rfl) (by omega) (by decide) (Nat.le_refl _) (Nat.le_refl _) (fun _ _ hq => ?_)
      obtain ⟨rfl, rfl⟩ := hq
      refine V.aload_n dX4_reaches_136 rfl ?_
      refine V.iload_n dX4_reaches_137 rfl ?_
      refine V.iconst (v := 1) dX4_reaches_138 (by decide) ?_
      refine V.iadd dX4_reaches_139 ?_
      refine V.iload_n dX4_reaches_140 rfl ?_
      obtain ⟨⟨u28, I29⟩, hk27, hf⟩ := bnd_some hf
      try dsimp only at hf
      refine V.inv cv_X4_76 ((ih0) hx hs_c hm hk27) dX4_reaches_141 (hx.1 214 (4, 0) rfl) (by decide) rfl rfl rfl (Nat.le_of_ble_eq_true rfl) (by omega) (by decide) (Nat.le_refl _) (Nat.le_refl _) (fun _ _ hq => ?_)
      obtain ⟨rfl, rfl⟩ := hq
      try dsimp only
      refine V.if_eq 149 dX4_reaches_144 (by decide) (fun c30 => ?_) (fun c30 => ?_)
      · rw [if_pos c30] at hf
        refine V.iinc (v := (l4 + 1)) dX4_reaches_149 rfl rfl (by first | exact rfl | exact trivial) ?_
        refine V.goto 86 dX4_reaches_152 (by decide) ?_
        exact V.lo [(0, some (.ref (x + 214))), (1, some (.int g1)), (2, some (.int g2)), (3, some (.ref tb3)), (4, some (.int (l4 + 1)))] (by simp only [Subs]; repeat' first | exact trivial | constructor | rfl) (ih _ _ hf hk)
      · rw [if_neg c30] at hf
        refine V.iconst (v := 1) dX4_reaches_147 (by decide) ?_
        obtain rfl := Option.some.inj hf
        exact V.zret dX4_reaches_148 rfl rfl (Nat.le_refl _) (Nat.le_refl _) hk
theorem s_mu_reachesB {l : Launch} {D : va_G} {E : Nat → ClassId} {B : Nat → Prop} {n F : Nat} {T : Nat → Option (Nat × Nat)} {J : Nat → Nat → Int64} {P : Nat → Nat → Option Nat} {x : Nat} {c : Nat} {kr : Nat} (ih0 : mu_reaches_H l D E B n F T J P x c kr) {v1 : Int32} {v2 : Int32} {I : Nat → Nat → Int32} {r : Int32 × (Nat → Nat → Int32)} (hx : isSR T P x) (hs_c : isCt T P c) (hm : P (x + 214) 4 = some c) (hf : mu_reachesB (mu_reaches F T P x c kr) F T I P x c v1 v2 = some r) : Ct l D E B yX4_reaches cX4_reaches 5 (some .boolean) (10 + (kr + 1)) 0 0 [.ref (x + 214), .int v1, .int v2] (n, T, I, J, P) (Ret (some (.int r.1)) (n, T, r.2, J, P)) := by
  unfold mu_reachesB at hf
  refine Ct.ofV (by decide) (Nat.le_of_ble_eq_true rfl) ?_
  refine V.aload_n dX4_reaches_0 rfl ?_
  refine V.getr fl_X4_25 dX4_reaches_1 (hx.1 214 (4, 0) rfl) (hx.2.1 214 1 157 rfl) (by decide) rfl ?_
  refine V.iload_n dX4_reaches_4 rfl ?_
  obtain ⟨hb1, hf⟩ := chk_some hf
  refine V.aald dX4_reaches_5 (hx.1 157 (25, 8) rfl) (by decide) hb1 (hx.arr157 (i := v1) hb1) ?_
  refine V.astore_n dX4_reaches_6 rfl (by decide) (by first | exact rfl | exact trivial) ?_
  refine V.aload_n dX4_reaches_7 rfl ?_
  refine V.getf fl_X4_37 dX4_reaches_8 (hx.1 214 (4, 0) rfl) (by decide) rfl ?_
  refine V.if_eq 28 dX4_reaches_11 (by decide) (fun c2 => ?_) (fun c2 => ?_)
  · rw [if_pos c2] at hf
    refine V.aload_n dX4_reaches_28 rfl ?_
    refine V.aload_n dX4_reaches_29 rfl ?_
    obtain ⟨u5, hk4, hf⟩ := bnd_some hf
    try dsimp only at hf
    refine V.inv cv_X4_84 (c_mu_isOutOfOrder hx (hx.ob157 (i := v1) hb1) hk4) dX4_reaches_30 (hx.1 214 (4, 0) rfl) (by decide) rfl rfl rfl (Nat.le_of_ble_eq_true rfl) (by omega) (by decide) (Nat.le_refl _) (Nat.le_refl _) (fun _ _ hq => ?_)
    obtain ⟨rfl, rfl⟩ := hq
    refine V.if_eq 38 dX4_reaches_33 (by decide) (fun c6 => ?_) (fun c6 => ?_)
    · rw [if_pos c6] at hf
      refine V.iload_n dX4_reaches_38 rfl ?_
      refine V.iload_n dX4_reaches_39 rfl ?_
      refine V.icmp_ge 49 dX4_reaches_40 (by decide) (fun c7 => ?_) (fun c7 => ?_)
      · rw [if_pos c7] at hf
        refine V.aload_n dX4_reaches_49 rfl ?_
        refine V.getf fl_X4_37 dX4_reaches_50 (hx.1 214 (4, 0) rfl) (by decide) rfl ?_
        refine V.if_eq 77 dX4_reaches_53 (by decide) (fun c8 => ?_) (fun c8 => ?_)
        · rw [if_pos c8] at hf
          refine V.aload_n dX4_reaches_77 rfl ?_
          refine V.aload_n dX4_reaches_78 rfl ?_
          obtain ⟨u11, hk10, hf⟩ := bnd_some hf
          try dsimp only at hf
          refine V.inv cv_X4_91 (c_mu_allSit hx (hx.ob157 (i := v1) hb1) hk10) dX4_reaches_79 (hx.1 214 (4, 0) rfl) (by decide) rfl rfl rfl (Nat.le_of_ble_eq_true rfl) (by omega) (by decide) (Nat.le_refl _) (Nat.le_refl _) (fun _ _ hq => ?_)
          obtain ⟨rfl, rfl⟩ := hq
          obtain ⟨hn12, hf⟩ := isb_some hf
          obtain rfl := Option.some.inj hf
          exact V.zret dX4_reaches_82 rfl hn12 (Nat.le_refl _) (Nat.le_refl _) ⟨rfl, rfl⟩
        · rw [if_neg c8] at hf
          refine V.aload_n dX4_reaches_56 rfl ?_
          refine V.getf fl_X4_88 dX4_reaches_57 ((hx.ob157 (i := v1) hb1).1 0 (8, 0) rfl) (by decide) rfl ?_
          refine V.iconst (v := 1) dX4_reaches_60 (by decide) ?_
          refine V.aload_n dX4_reaches_61 rfl ?_
          refine V.getf fl_X4_41 dX4_reaches_62 (hx.1 214 (4, 0) rfl) (by decide) rfl ?_
          refine V.ishl dX4_reaches_65 ?_
          refine V.icmp_ne 73 dX4_reaches_66 (by decide) (fun c13 => ?_) (fun c13 => ?_)
          · rw [if_neg c13] at hf
            refine V.iconst (v := 0) dX4_reaches_73 (by decide) ?_
            refine V.goto 82 dX4_reaches_74 (by decide) ?_
            obtain rfl := Option.some.inj hf
            exact V.zret dX4_reaches_82 rfl rfl (Nat.le_refl _) (Nat.le_refl _) ⟨rfl, rfl⟩
          · rw [if_pos c13] at hf
            refine V.iconst (v := 1) dX4_reaches_69 (by decide) ?_
            refine V.goto 82 dX4_reaches_70 (by decide) ?_
            obtain rfl := Option.some.inj hf
            exact V.zret dX4_reaches_82 rfl rfl (Nat.le_refl _) (Nat.le_refl _) ⟨rfl, rfl⟩
      · rw [if_neg c7] at hf
        refine V.iload_n dX4_reaches_43 rfl ?_
        refine V.bipush (v := 7) dX4_reaches_44 (by decide) ?_
        refine V.icmp_lt 83 dX4_reaches_46 (by decide) (fun c14 => ?_) (fun c14 => ?_)
        · rw [if_pos c14] at hf
          refine V.iconst (v := 0) dX4_reaches_83 (by decide) ?_
          refine V.istore dX4_reaches_84 (by decide) (by first | exact rfl | exact trivial) ?_
          obtain ⟨q31, hk32, hf⟩ := bnd_some hf
          refine V.lo [(0, some (.ref (x + 214))), (1, some (.int v1)), (2, some (.int v2)), (3, some (.ref (x + (158 + 7 * (Int32.toNatClampNeg v1))))), (4, some (.int 0))] (by simp only [Subs]; repeat' first | exact trivial | constructor | rfl) (l_mu_reachesB_86 hx hs_c hm (hx.ob157 (i := v1) hb1) ih0 q31 F _ _ hk32 ?_)
          rcases q31 with r0 | ⟨m33, I34⟩
          · try dsimp only at hf ⊢
            obtain rfl := Option.some.inj hf
            exact ⟨rfl, rfl⟩
          · try dsimp only at hf ⊢
            refine V.iconst (v := 0) dX4_reaches_155 (by decide) ?_
            obtain rfl := Option.some.inj hf
            exact V.zret dX4_reaches_156 rfl rfl (Nat.le_refl _) (Nat.le_refl _) ⟨rfl, rfl⟩
        · rw [if_neg c14] at hf
          refine V.aload_n dX4_reaches_49 rfl ?_
          refine V.getf fl_X4_37 dX4_reaches_50 (hx.1 214 (4, 0) rfl) (by decide) rfl ?_
          refine V.if_eq 77 dX4_reaches_53 (by decide) (fun c35 => ?_) (fun c35 => ?_)
          · rw [if_pos c35] at hf
            refine V.aload_n dX4_reaches_77 rfl ?_
            refine V.aload_n dX4_reaches_78 rfl ?_
            obtain ⟨u38, hk37, hf⟩ := bnd_some hf
            try dsimp only at hf
            refine V.inv cv_X4_91 (c_mu_allSit hx (hx.ob157 (i := v1) hb1) hk37) dX4_reaches_79 (hx.1 214 (4, 0) rfl) (by decide) rfl rfl rfl (Nat.le_of_ble_eq_true rfl) (by omega) (by decide) (Nat.le_refl _) (Nat.le_refl _) (fun _ _ hq => ?_)
            obtain ⟨rfl, rfl⟩ := hq
            obtain ⟨hn39, hf⟩ := isb_some hf
            obtain rfl := Option.some.inj hf
            exact V.zret dX4_reaches_82 rfl hn39 (Nat.le_refl _) (Nat.le_refl _) ⟨rfl, rfl⟩
          · rw [if_neg c35] at hf
            refine V.aload_n dX4_reaches_56 rfl ?_
            refine V.getf fl_X4_88 dX4_reaches_57 ((hx.ob157 (i := v1) hb1).1 0 (8, 0) rfl) (by decide) rfl ?_
            refine V.iconst (v := 1) dX4_reaches_60 (by decide) ?_
            refine V.aload_n dX4_reaches_61 rfl ?_
            refine V.getf fl_X4_41 dX4_reaches_62 (hx.1 214 (4, 0) rfl) (by decide) rfl ?_
            refine V.ishl dX4_reaches_65 ?_
            refine V.icmp_ne 73 dX4_reaches_66 (by decide) (fun c40 => ?_) (fun c40 => ?_)
            · rw [if_neg c40] at hf
              refine V.iconst (v := 0) dX4_reaches_73 (by decide) ?_
              refine V.goto 82 dX4_reaches_74 (by decide) ?_
              obtain rfl := Option.some.inj hf
              exact V.zret dX4_reaches_82 rfl rfl (Nat.le_refl _) (Nat.le_refl _) ⟨rfl, rfl⟩
            · rw [if_pos c40] at hf
              refine V.iconst (v := 1) dX4_reaches_69 (by decide) ?_
              refine V.goto 82 dX4_reaches_70 (by decide) ?_
              obtain rfl := Option.some.inj hf
              exact V.zret dX4_reaches_82 rfl rfl (Nat.le_refl _) (Nat.le_refl _) ⟨rfl, rfl⟩
    · rw [if_neg c6] at hf
      refine V.iconst (v := 0) dX4_reaches_36 (by decide) ?_
      obtain rfl := Option.some.inj hf
      exact V.zret dX4_reaches_37 rfl rfl (Nat.le_refl _) (Nat.le_refl _) ⟨rfl, rfl⟩
  · rw [if_neg c2] at hf
    refine V.aload_n dX4_reaches_14 rfl ?_
    refine V.aload_n dX4_reaches_15 rfl ?_
    refine V.getf fl_X4_41 dX4_reaches_16 (hx.1 214 (4, 0) rfl) (by decide) rfl ?_
    refine V.inv cv_X4_80 (c_s_isUp (hx.ob157 (i := v1) hb1)) dX4_reaches_19 ((hx.ob157 (i := v1) hb1).1 0 (8, 0) rfl) (by decide) rfl rfl rfl (Nat.le_of_ble_eq_true rfl) (by omega) (by decide) (Nat.le_refl _) (Nat.le_refl _) (fun _ _ hq => ?_)
    obtain ⟨rfl, rfl⟩ := hq
    refine V.if_ne 38 dX4_reaches_22 (by decide) (fun c41 => ?_) (fun c41 => ?_)
    · rw [if_neg c41] at hf
      refine V.iload_n dX4_reaches_38 rfl ?_
      refine V.iload_n dX4_reaches_39 rfl ?_
      refine V.icmp_ge 49 dX4_reaches_40 (by decide) (fun c42 => ?_) (fun c42 => ?_)
      · rw [if_pos c42] at hf
        refine V.aload_n dX4_reaches_49 rfl ?_
        refine V.getf fl_X4_37 dX4_reaches_50 (hx.1 214 (4, 0) rfl) (by decide) rfl ?_
        refine V.if_eq 77 dX4_reaches_53 (by decide) (fun c43 => ?_) (fun c43 => ?_)
        · rw [if_pos c43] at hf
          refine V.aload_n dX4_reaches_77 rfl ?_
          refine V.aload_n dX4_reaches_78 rfl ?_
          obtain ⟨u46, hk45, hf⟩ := bnd_some hf
          try dsimp only at hf
          refine V.inv cv_X4_91 (c_mu_allSit hx (hx.ob157 (i := v1) hb1) hk45) dX4_reaches_79 (hx.1 214 (4, 0) rfl) (by decide) rfl rfl rfl (Nat.le_of_ble_eq_true rfl) (by omega) (by decide) (Nat.le_refl _) (Nat.le_refl _) (fun _ _ hq => ?_)
          obtain ⟨rfl, rfl⟩ := hq
          obtain ⟨hn47, hf⟩ := isb_some hf
          obtain rfl := Option.some.inj hf
          exact V.zret dX4_reaches_82 rfl hn47 (Nat.le_refl _) (Nat.le_refl _) ⟨rfl, rfl⟩
        · rw [if_neg c43] at hf
          refine V.aload_n dX4_reaches_56 rfl ?_
          refine V.getf fl_X4_88 dX4_reaches_57 ((hx.ob157 (i := v1) hb1).1 0 (8, 0) rfl) (by decide) rfl ?_
          refine V.iconst (v := 1) dX4_reaches_60 (by decide) ?_
          refine V.aload_n dX4_reaches_61 rfl ?_
          refine V.getf fl_X4_41 dX4_reaches_62 (hx.1 214 (4, 0) rfl) (by decide) rfl ?_
          refine V.ishl dX4_reaches_65 ?_
          refine V.icmp_ne 73 dX4_reaches_66 (by decide) (fun c48 => ?_) (fun c48 => ?_)
          · rw [if_neg c48] at hf
            refine V.iconst (v := 0) dX4_reaches_73 (by decide) ?_
            refine V.goto 82 dX4_reaches_74 (by decide) ?_
            obtain rfl := Option.some.inj hf
            exact V.zret dX4_reaches_82 rfl rfl (Nat.le_refl _) (Nat.le_refl _) ⟨rfl, rfl⟩
          · rw [if_pos c48] at hf
            refine V.iconst (v := 1) dX4_reaches_69 (by decide) ?_
            refine V.goto 82 dX4_reaches_70 (by decide) ?_
            obtain rfl := Option.some.inj hf
            exact V.zret dX4_reaches_82 rfl rfl (Nat.le_refl _) (Nat.le_refl _) ⟨rfl, rfl⟩
      · rw [if_neg c42] at hf
        refine V.iload_n dX4_reaches_43 rfl ?_
        refine V.bipush (v := 7) dX4_reaches_44 (by decide) ?_
        refine V.icmp_lt 83 dX4_reaches_46 (by decide) (fun c49 => ?_) (fun c49 => ?_)
        · rw [if_pos c49] at hf
          refine V.iconst (v := 0) dX4_reaches_83 (by decide) ?_
          refine V.istore dX4_reaches_84 (by decide) (by first | exact rfl | exact trivial) ?_
          obtain ⟨q50, hk51, hf⟩ := bnd_some hf
          refine V.lo [(0, some (.ref (x + 214))), (1, some (.int v1)), (2, some (.int v2)), (3, some (.ref (x + (158 + 7 * (Int32.toNatClampNeg v1))))), (4, some (.int 0))] (by simp only [Subs]; repeat' first | exact trivial | constructor | rfl) (l_mu_reachesB_86 hx hs_c hm (hx.ob157 (i := v1) hb1) ih0 q50 F _ _ hk51 ?_)
          rcases q50 with r0 | ⟨m52, I53⟩
          · try dsimp only at hf ⊢
            obtain rfl := Option.some.inj hf
            exact ⟨rfl, rfl⟩
          · try dsimp only at hf ⊢
            refine V.iconst (v := 0) dX4_reaches_155 (by decide) ?_
            obtain rfl := Option.some.inj hf
            exact V.zret dX4_reaches_156 rfl rfl (Nat.le_refl _) (Nat.le_refl _) ⟨rfl, rfl⟩
        · rw [if_neg c49] at hf
          refine V.aload_n dX4_reaches_49 rfl ?_
          refine V.getf fl_X4_37 dX4_reaches_50 (hx.1 214 (4, 0) rfl) (by decide) rfl ?_
          refine V.if_eq 77 dX4_reaches_53 (by decide) (fun c54 => ?_) (fun c54 => ?_)
          · rw [if_pos c54] at hf
            refine V.aload_n dX4_reaches_77 rfl ?_
            refine V.aload_n dX4_reaches_78 rfl ?_
            obtain ⟨u57, hk56, hf⟩ := bnd_some hf
            try dsimp only at hf
            refine V.inv cv_X4_91 (c_mu_allSit hx (hx.ob157 (i := v1) hb1) hk56) dX4_reaches_79 (hx.1 214 (4, 0) rfl) (by decide) rfl rfl rfl (Nat.le_of_ble_eq_true rfl) (by omega) (by decide) (Nat.le_refl _) (Nat.le_refl _) (fun _ _ hq => ?_)
            obtain ⟨rfl, rfl⟩ := hq
            obtain ⟨hn58, hf⟩ := isb_some hf
            obtain rfl := Option.some.inj hf
            exact V.zret dX4_reaches_82 rfl hn58 (Nat.le_refl _) (Nat.le_refl _) ⟨rfl, rfl⟩
          · rw [if_neg c54] at hf
            refine V.aload_n dX4_reaches_56 rfl ?_
            refine V.getf fl_X4_88 dX4_reaches_57 ((hx.ob157 (i := v1) hb1).1 0 (8, 0) rfl) (by decide) rfl ?_
            refine V.iconst (v := 1) dX4_reaches_60 (by decide) ?_
            refine V.aload_n dX4_reaches_61 rfl ?_
            refine V.getf fl_X4_41 dX4_reaches_62 (hx.1 214 (4, 0) rfl) (by decide) rfl ?_
            refine V.ishl dX4_reaches_65 ?_
            refine V.icmp_ne 73 dX4_reaches_66 (by decide) (fun c59 => ?_) (fun c59 => ?_)
            · rw [if_neg c59] at hf
              refine V.iconst (v := 0) dX4_reaches_73 (by decide) ?_
              refine V.goto 82 dX4_reaches_74 (by decide) ?_
              obtain rfl := Option.some.inj hf
              exact V.zret dX4_reaches_82 rfl rfl (Nat.le_refl _) (Nat.le_refl _) ⟨rfl, rfl⟩
            · rw [if_pos c59] at hf
              refine V.iconst (v := 1) dX4_reaches_69 (by decide) ?_
              refine V.goto 82 dX4_reaches_70 (by decide) ?_
              obtain rfl := Option.some.inj hf
              exact V.zret dX4_reaches_82 rfl rfl (Nat.le_refl _) (Nat.le_refl _) ⟨rfl, rfl⟩
    · rw [if_pos c41] at hf
      refine V.goto 36 dX4_reaches_25 (by decide) ?_
      refine V.iconst (v := 0) dX4_reaches_36 (by decide) ?_
      obtain rfl := Option.some.inj hf
      exact V.zret dX4_reaches_37 rfl rfl (Nat.le_refl _) (Nat.le_refl _) ⟨rfl, rfl⟩
theorem mu_reaches_all {l : Launch} {D : va_G} {E : Nat → ClassId} {B : Nat → Prop} {n F : Nat} {T : Nat → Option (Nat × Nat)} {J : Nat → Nat → Int64} {P : Nat → Nat → Option Nat} {x : Nat} {c : Nat} : ∀ k, mu_reaches_H l D E B n F T J P x c k := by
  intro k
  induction k with
  | zero =>
    exact fun _ _ _ hf => by cases hf
  | succ kr ih0 =>
    exact fun hx hs_c hm hf => s_mu_reachesB ih0 hx hs_c hm hf
def mu_reachesB_f (F : Nat) (T : Nat → Option (Nat × Nat)) (I : Nat → Nat → Int32) (P : Nat → Nat → Option Nat) (x : Nat) (c : Nat) (v1 : Int32) (v2 : Int32) : Option (Int32 × (Nat → Nat → Int32)) := mu_reaches F T P x c 10 v1 v2 I
theorem c_mu_reachesB_f {l : Launch} {D : va_G} {E : Nat → ClassId} {B : Nat → Prop} {n F : Nat} {T : Nat → Option (Nat × Nat)} {J : Nat → Nat → Int64} {P : Nat → Nat → Option Nat} {x : Nat} {c : Nat} {v1 : Int32} {v2 : Int32} {I : Nat → Nat → Int32} {r : Int32 × (Nat → Nat → Int32)} (hx : isSR T P x) (hs_c : isCt T P c) (hm : P (x + 214) 4 = some c) (hf : mu_reachesB_f F T I P x c v1 v2 = some r) : Ct l D E B yX4_reaches cX4_reaches 5 (some .boolean) 20 0 0 [.ref (x + 214), .int v1, .int v2] (n, T, I, J, P) (Ret (some (.int r.1)) (n, T, r.2, J, P)) := (mu_reaches_all 10) hx hs_c hm hf
theorem dX4_waysFrom_0 : decode cX4_waysFrom 0 = .ok (.aload_n 0, 1) := by decide +kernel
theorem dX4_waysFrom_1 : decode cX4_waysFrom 1 = .ok (.getfield 25, 3) := by decide +kernel
theorem dX4_waysFrom_4 : decode cX4_waysFrom 4 = .ok (.iload_n 1, 1) := by decide +kernel
theorem dX4_waysFrom_5 : decode cX4_waysFrom 5 = .ok (.aaload, 1) := by decide +kernel
theorem dX4_waysFrom_6 : decode cX4_waysFrom 6 = .ok (.astore 4, 2) := by decide +kernel
theorem dX4_waysFrom_8 : decode cX4_waysFrom 8 = .ok (.aload 4, 2) := by decide +kernel
theorem dX4_waysFrom_10 : decode cX4_waysFrom 10 = .ok (.iload_n 2, 1) := by decide +kernel
theorem dX4_waysFrom_11 : decode cX4_waysFrom 11 = .ok (.invokevirtual 80, 3) := by decide +kernel
theorem dX4_waysFrom_14 : decode cX4_waysFrom 14 = .ok (.ifCond .ne 5, 3) := by decide +kernel
theorem dX4_waysFrom_17 : decode cX4_waysFrom 17 = .ok (.iconst 0, 1) := by decide +kernel
theorem dX4_waysFrom_18 : decode cX4_waysFrom 18 = .ok (.ireturn, 1) := by decide +kernel
theorem dX4_waysFrom_19 : decode cX4_waysFrom 19 = .ok (.iload_n 1, 1) := by decide +kernel
theorem dX4_waysFrom_20 : decode cX4_waysFrom 20 = .ok (.iload_n 3, 1) := by decide +kernel
theorem dX4_waysFrom_21 : decode cX4_waysFrom 21 = .ok (.if_icmp .ge 9, 3) := by decide +kernel
theorem dX4_waysFrom_24 : decode cX4_waysFrom 24 = .ok (.iload_n 1, 1) := by decide +kernel
theorem dX4_waysFrom_25 : decode cX4_waysFrom 25 = .ok (.bipush 7, 2) := by decide +kernel
theorem dX4_waysFrom_27 : decode cX4_waysFrom 27 = .ok (.if_icmp .lt 20, 3) := by decide +kernel
theorem dX4_waysFrom_30 : decode cX4_waysFrom 30 = .ok (.aload 4, 2) := by decide +kernel
theorem dX4_waysFrom_32 : decode cX4_waysFrom 32 = .ok (.getfield 88, 3) := by decide +kernel
theorem dX4_waysFrom_35 : decode cX4_waysFrom 35 = .ok (.iconst 1, 1) := by decide +kernel
theorem dX4_waysFrom_36 : decode cX4_waysFrom 36 = .ok (.iload_n 2, 1) := by decide +kernel
theorem dX4_waysFrom_37 : decode cX4_waysFrom 37 = .ok (.ishl, 1) := by decide +kernel
theorem dX4_waysFrom_38 : decode cX4_waysFrom 38 = .ok (.if_icmp .ne 7, 3) := by decide +kernel
theorem dX4_waysFrom_41 : decode cX4_waysFrom 41 = .ok (.iconst 1, 1) := by decide +kernel
theorem dX4_waysFrom_42 : decode cX4_waysFrom 42 = .ok (.goto 4, 3) := by decide +kernel
theorem dX4_waysFrom_45 : decode cX4_waysFrom 45 = .ok (.iconst 0, 1) := by decide +kernel
theorem dX4_waysFrom_46 : decode cX4_waysFrom 46 = .ok (.ireturn, 1) := by decide +kernel
theorem dX4_waysFrom_47 : decode cX4_waysFrom 47 = .ok (.iconst 0, 1) := by decide +kernel
theorem dX4_waysFrom_48 : decode cX4_waysFrom 48 = .ok (.istore 5, 2) := by decide +kernel
theorem dX4_waysFrom_50 : decode cX4_waysFrom 50 = .ok (.iconst 0, 1) := by decide +kernel
theorem dX4_waysFrom_51 : decode cX4_waysFrom 51 = .ok (.istore 6, 2) := by decide +kernel
theorem dX4_waysFrom_53 : decode cX4_waysFrom 53 = .ok (.iload 6, 2) := by decide +kernel
theorem dX4_waysFrom_55 : decode cX4_waysFrom 55 = .ok (.aload_n 0, 1) := by decide +kernel
theorem dX4_waysFrom_56 : decode cX4_waysFrom 56 = .ok (.getfield 66, 3) := by decide +kernel
theorem dX4_waysFrom_59 : decode cX4_waysFrom 59 = .ok (.getfield 94, 3) := by decide +kernel
theorem dX4_waysFrom_62 : decode cX4_waysFrom 62 = .ok (.if_icmp .ge 54, 3) := by decide +kernel
theorem dX4_waysFrom_65 : decode cX4_waysFrom 65 = .ok (.aload_n 0, 1) := by decide +kernel
theorem dX4_waysFrom_66 : decode cX4_waysFrom 66 = .ok (.getfield 25, 3) := by decide +kernel
theorem dX4_waysFrom_69 : decode cX4_waysFrom 69 = .ok (.iload_n 1, 1) := by decide +kernel
theorem dX4_waysFrom_70 : decode cX4_waysFrom 70 = .ok (.iconst 1, 1) := by decide +kernel
theorem dX4_waysFrom_71 : decode cX4_waysFrom 71 = .ok (.iadd, 1) := by decide +kernel
theorem dX4_waysFrom_72 : decode cX4_waysFrom 72 = .ok (.aaload, 1) := by decide +kernel
theorem dX4_waysFrom_73 : decode cX4_waysFrom 73 = .ok (.aload 4, 2) := by decide +kernel
theorem dX4_waysFrom_75 : decode cX4_waysFrom 75 = .ok (.invokevirtual 70, 3) := by decide +kernel
theorem dX4_waysFrom_78 : decode cX4_waysFrom 78 = .ok (.aload_n 0, 1) := by decide +kernel
theorem dX4_waysFrom_79 : decode cX4_waysFrom 79 = .ok (.getfield 25, 3) := by decide +kernel
theorem dX4_waysFrom_82 : decode cX4_waysFrom 82 = .ok (.iload_n 1, 1) := by decide +kernel
theorem dX4_waysFrom_83 : decode cX4_waysFrom 83 = .ok (.iconst 1, 1) := by decide +kernel
theorem dX4_waysFrom_84 : decode cX4_waysFrom 84 = .ok (.iadd, 1) := by decide +kernel
theorem dX4_waysFrom_85 : decode cX4_waysFrom 85 = .ok (.aaload, 1) := by decide +kernel
theorem dX4_waysFrom_86 : decode cX4_waysFrom 86 = .ok (.aload_n 0, 1) := by decide +kernel
theorem dX4_waysFrom_87 : decode cX4_waysFrom 87 = .ok (.getfield 66, 3) := by decide +kernel
theorem dX4_waysFrom_90 : decode cX4_waysFrom 90 = .ok (.iload 6, 2) := by decide +kernel
theorem dX4_waysFrom_92 : decode cX4_waysFrom 92 = .ok (.iconst 0, 1) := by decide +kernel
theorem dX4_waysFrom_93 : decode cX4_waysFrom 93 = .ok (.invokevirtual 99, 3) := by decide +kernel
theorem dX4_waysFrom_96 : decode cX4_waysFrom 96 = .ok (.iload 5, 2) := by decide +kernel
theorem dX4_waysFrom_98 : decode cX4_waysFrom 98 = .ok (.aload_n 0, 1) := by decide +kernel
theorem dX4_waysFrom_99 : decode cX4_waysFrom 99 = .ok (.iload_n 1, 1) := by decide +kernel
theorem dX4_waysFrom_100 : decode cX4_waysFrom 100 = .ok (.iconst 1, 1) := by decide +kernel
theorem dX4_waysFrom_101 : decode cX4_waysFrom 101 = .ok (.iadd, 1) := by decide +kernel
theorem dX4_waysFrom_102 : decode cX4_waysFrom 102 = .ok (.iload_n 2, 1) := by decide +kernel
theorem dX4_waysFrom_103 : decode cX4_waysFrom 103 = .ok (.iload_n 3, 1) := by decide +kernel
theorem dX4_waysFrom_104 : decode cX4_waysFrom 104 = .ok (.invokevirtual 106, 3) := by decide +kernel
theorem dX4_waysFrom_107 : decode cX4_waysFrom 107 = .ok (.iadd, 1) := by decide +kernel
theorem dX4_waysFrom_108 : decode cX4_waysFrom 108 = .ok (.istore 5, 2) := by decide +kernel
theorem dX4_waysFrom_110 : decode cX4_waysFrom 110 = .ok (.iinc 6 1, 3) := by decide +kernel
theorem dX4_waysFrom_113 : decode cX4_waysFrom 113 = .ok (.goto (-60), 3) := by decide +kernel
theorem dX4_waysFrom_116 : decode cX4_waysFrom 116 = .ok (.iload 5, 2) := by decide +kernel
theorem dX4_waysFrom_118 : decode cX4_waysFrom 118 = .ok (.ireturn, 1) := by decide +kernel
def mu_waysB_53 (rec : Int32 → Int32 → Int32 → (Nat → Nat → Int32) → Option (Int32 × (Nat → Nat → Int32))) (F : Nat) (T : Nat → Option (Nat × Nat)) (P : Nat → Nat → Option Nat) (x : Nat) (c : Nat) (tb4 : Nat) (g1 : Int32) (g2 : Int32) (g3 : Int32) : Nat → Int32 → Int32 → (Nat → Nat → Int32) → Option (Int32 × Int32 × (Nat → Nat → Int32))
  | 0, _, _, _ => none
  | k + 1, l5, l6, I => if (I c 1) ≤ l6 then (some (l5, l6, I)) else (chk (g1 + 1) 8 ((s_copyFrom I (x + (158 + 7 * (Int32.toNatClampNeg (g1 + 1)))) tb4).bind (fun q8 => let I10 := q8; (s_playMinute F T I10 P (x + (158 + 7 * (Int32.toNatClampNeg (g1 + 1)))) c l6 0).bind (fun q11 => let I13 := q11; (rec (g1 + 1) g2 g3 I13).bind (fun q14 => let u16 := q14.1; let I17 := q14.2; let x18 := (l5 + u16); mu_waysB_53 rec F T P x c tb4 g1 g2 g3 k x18 (l6 + 1) I17)))))
def mu_waysB (rec : Int32 → Int32 → Int32 → (Nat → Nat → Int32) → Option (Int32 × (Nat → Nat → Int32))) (F : Nat) (T : Nat → Option (Nat × Nat)) (I : Nat → Nat → Int32) (P : Nat → Nat → Option Nat) (x : Nat) (c : Nat) (v1 : Int32) (v2 : Int32) (v3 : Int32) : Option (Int32 × (Nat → Nat → Int32)) := chk v1 8 (if (s_isUp I (x + (158 + 7 * (Int32.toNatClampNeg v1))) v2) = 0 then (some (0, I)) else (if v3 ≤ v1 then (if (I (x + (158 + 7 * (Int32.toNatClampNeg v1))) 1) = (1 <<< (v2 &&& 31)) then (some (1, I)) else (some (0, I))) else (if v1 < 7 then ((mu_waysB_53 rec F T P x c (x + (158 + 7 * (Int32.toNatClampNeg v1))) v1 v2 v3 F 0 0 I).bind (fun q20 => let m22 := q20.1; let m23 := q20.2.1; let I24 := q20.2.2; some (m22, I24))) else (if (I (x + (158 + 7 * (Int32.toNatClampNeg v1))) 1) = (1 <<< (v2 &&& 31)) then (some (1, I)) else (some (0, I))))))
def mu_ways (F : Nat) (T : Nat → Option (Nat × Nat)) (P : Nat → Nat → Option Nat) (x : Nat) (c : Nat) : Nat → Int32 → Int32 → Int32 → (Nat → Nat → Int32) → Option (Int32 × (Nat → Nat → Int32))
  | 0, _, _, _, _ => none
  | kr + 1, a0, a1, a2, I => mu_waysB (mu_ways F T P x c kr) F T I P x c a0 a1 a2
def mu_ways_H (l : Launch) (D : va_G) (E : Nat → ClassId) (B : Nat → Prop) (n F : Nat) (T : Nat → Option (Nat × Nat)) (J : Nat → Nat → Int64) (P : Nat → Nat → Option Nat) (x : Nat) (c : Nat) (k : Nat) : Prop := (∀ {a0 : Int32} {a1 : Int32} {a2 : Int32} {I : Nat → Nat → Int32} {r : Int32 × (Nat → Nat → Int32)}, isSR T P x →  isCt T P c →  P (x + 214) 4 = some c → mu_ways F T P x c k a0 a1 a2 I = some r → Ct l D E B yX4_waysFrom cX4_waysFrom 7 (some .int) (10 + k) 0 0 [.ref (x + 214), .int a0, .int a1, .int a2] (n, T, I, J, P) (Ret (some (.int r.1)) (n, T, r.2, J, P)))
theorem l_mu_waysB_53 {l : Launch} {D : va_G} {E : Nat → ClassId} {B : Nat → Prop} {n F : Nat} {Q : Option Value → HT → Prop} {T : Nat → Option (Nat × Nat)} {J : Nat → Nat → Int64} {P : Nat → Nat → Option Nat} {x : Nat} {c : Nat} {tb4 : Nat} {g1 : Int32} {g2 : Int32} {g3 : Int32} (hx : isSR T P x) (hs_c : isCt T P c) (hm : P (x + 214) 4 = some c) (hs_tb4 : isSt T P tb4) {kr : Nat} (ih0 : mu_ways_H l D E B n F T J P x c kr) (r : Int32 × Int32 × (Nat → Nat → Int32)) : ∀ (k : Nat) (l5 : Int32) (l6 : Int32) (I : (Nat → Nat → Int32)), mu_waysB_53 (mu_ways F T P x c kr) F T P x c tb4 g1 g2 g3 k l5 l6 I = some r → V l D E B yX4_waysFrom cX4_waysFrom 7 (some .int) (10 + (kr + 1)) 0 0 Q 0 0 (n, T, r.2.2, J, P) 116 [(0, some (.ref (x + 214))), (1, some (.int g1)), (2, some (.int g2)), (3, some (.int g3)), (4, some (.ref tb4)), (5, some (.int (r.1))), (6, some (.int (r.2.1)))] [] → V l D E B yX4_waysFrom cX4_waysFrom 7 (some .int) (10 + (kr + 1)) 0 0 Q 0 0 (n, T, I, J, P) 53 [(0, some (.ref (x + 214))), (1, some (.int g1)), (2, some (.int g2)), (3, some (.int g3)), (4, some (.ref tb4)), (5, some (.int l5)), (6, some (.int l6))] [] := by
  intro k
  induction k with
  | zero =>
    intro l5 l6 I hf hk
    cases hf
  | succ k ih =>
    intro l5 l6 I hf hk
    unfold mu_waysB_53 at hf
    refine V.iload dX4_waysFrom_53 rfl ?_
    refine V.aload_n dX4_waysFrom_55 rfl ?_
    refine V.getr fl_X4_66 dX4_waysFrom_56 (hx.1 214 (4, 0) rfl) hm (by decide) rfl ?_
    refine V.getf fl_X4_94 dX4_waysFrom_59 (hs_c.1.1 0 (1, 0) rfl) (by decide) rfl ?_
    refine V.icmp_ge 116 dX4_waysFrom_62 (by decide) (fun c6 => ?_) (fun c6 => ?_)
    · rw [if_pos c6] at hf
      obtain rfl := Option.some.inj hf
      exact V.lo [(0, some (.ref (x + 214))), (1, some (.int g1)), (2, some (.int g2)), (3, some (.int g3)), (4, some (.ref tb4)), (5, some (.int l5)), (6, some (.int l6))] (by simp only [Subs]; repeat' first | exact trivial | constructor | rfl) hk
    · rw [if_neg c6] at hf
      refine V.aload_n dX4_waysFrom_65 rfl ?_
      refine V.getr fl_X4_25 dX4_waysFrom_66 (hx.1 214 (4, 0) rfl) (hx.2.1 214 1 157 rfl) (by decide) rfl ?_
      refine V.iload_n dX4_waysFrom_69 rfl ?_
      refine V.iconst (v := 1) dX4_waysFrom_70 (by decide) ?_
      refine V.iadd dX4_waysFrom_71 ?_
      obtain ⟨hb7, hf⟩ := chk_some hf
      refine V.aald dX4_waysFrom_72 (hx.1 157 (25, 8) rfl) (by decide) hb7 (hx.arr157 (i := (g1 + 1)) hb7) ?_
      refine V.aload dX4_waysFrom_73 rfl ?_
      obtain ⟨I10, hk9, hf⟩ := bnd_some hf
      try dsimp only at hf
      refine V.inv cv_X4_70 (c_s_copyFrom (hx.ob157 (i := (g1 + 1)) hb7) hs_tb4 hk9) dX4_waysFrom_75 ((hx.ob157 (i := (g1 + 1)) hb7).1 0 (8, 0) rfl) (by decide) rfl rfl rfl (Nat.le_of_ble_eq_true rfl) (by omega) (by decide) (Nat.le_refl _) (Nat.le_refl _) (fun _ _ hq => ?_)
      obtain ⟨rfl, rfl⟩ := hq
      refine V.aload_n dX4_waysFrom_78 rfl ?_
      refine V.getr fl_X4_25 dX4_waysFrom_79 (hx.1 214 (4, 0) rfl) (hx.2.1 214 1 157 rfl) (by decide) rfl ?_
      refine V.iload_n dX4_waysFrom_82 rfl ?_
      refine V.iconst (v := 1) dX4_waysFrom_83 (by decide) ?_
      refine V.iadd dX4_waysFrom_84 ?_
      refine V.aald dX4_waysFrom_85 (hx.1 157 (25, 8) rfl) (by decide) hb7 (hx.arr157 (i := (g1 + 1)) hb7) ?_
      refine V.aload_n dX4_waysFrom_86 rfl ?_
      refine V.getr fl_X4_66 dX4_waysFrom_87 (hx.1 214 (4, 0) rfl) hm (by decide) rfl ?_
      refine V.iload dX4_waysFrom_90 rfl ?_
      refine V.iconst (v := 0) dX4_waysFrom_92 (by decide) ?_
      obtain ⟨I13, hk12, hf⟩ := bnd_some hf
      try dsimp only at hf
      refine V.inv cv_X4_99 (c_s_playMinute (hx.ob157 (i := (g1 + 1)) hb7) hs_c hk12) dX4_waysFrom_93 ((hx.ob157 (i := (g1 + 1)) hb7).1 0 (8, 0) rfl) (by decide) rfl rfl rfl (Nat.le_of_ble_eq_true rfl) (by omega) (by decide) (Nat.le_refl _) (Nat.le_refl _) (fun _ _ hq => ?_)
      obtain ⟨rfl, rfl⟩ := hq
      refine V.iload dX4_waysFrom_96 rfl ?_
      refine V.aload_n dX4_waysFrom_98 rfl ?_
      refine V.iload_n dX4_waysFrom_99 rfl ?_
      refine V.iconst (v := 1) dX4_waysFrom_100 (by decide) ?_
      refine V.iadd dX4_waysFrom_101 ?_
      refine V.iload_n dX4_waysFrom_102 rfl ?_
      refine V.iload_n dX4_waysFrom_103 rfl ?_
      obtain ⟨⟨u16, I17⟩, hk15, hf⟩ := bnd_some hf
      try dsimp only at hf
      refine V.inv cv_X4_106 ((ih0) hx hs_c hm hk15) dX4_waysFrom_104 (hx.1 214 (4, 0) rfl) (by decide) rfl rfl rfl (Nat.le_of_ble_eq_true rfl) (by omega) (by decide) (Nat.le_refl _) (Nat.le_refl _) (fun _ _ hq => ?_)
      obtain ⟨rfl, rfl⟩ := hq
      try dsimp only
      refine V.iadd dX4_waysFrom_107 ?_
      refine V.istore dX4_waysFrom_108 (by decide) (by first | exact rfl | exact trivial) ?_
      obtain ⟨x18, e19⟩ : ∃ zz_, zz_ = (l5 + u16) := ⟨_, rfl⟩
      rw [← e19] at hf ⊢
      try dsimp only at hf
      refine V.iinc (v := (l6 + 1)) dX4_waysFrom_110 rfl rfl (by first | exact rfl | exact trivial) ?_
      refine V.goto 53 dX4_waysFrom_113 (by decide) ?_
      exact V.lo [(0, some (.ref (x + 214))), (1, some (.int g1)), (2, some (.int g2)), (3, some (.int g3)), (4, some (.ref tb4)), (5, some (.int x18)), (6, some (.int (l6 + 1)))] (by simp only [Subs]; repeat' first | exact trivial | constructor | rfl) (ih _ _ _ hf hk)
theorem s_mu_waysB {l : Launch} {D : va_G} {E : Nat → ClassId} {B : Nat → Prop} {n F : Nat} {T : Nat → Option (Nat × Nat)} {J : Nat → Nat → Int64} {P : Nat → Nat → Option Nat} {x : Nat} {c : Nat} {kr : Nat} (ih0 : mu_ways_H l D E B n F T J P x c kr) {v1 : Int32} {v2 : Int32} {v3 : Int32} {I : Nat → Nat → Int32} {r : Int32 × (Nat → Nat → Int32)} (hx : isSR T P x) (hs_c : isCt T P c) (hm : P (x + 214) 4 = some c) (hf : mu_waysB (mu_ways F T P x c kr) F T I P x c v1 v2 v3 = some r) : Ct l D E B yX4_waysFrom cX4_waysFrom 7 (some .int) (10 + (kr + 1)) 0 0 [.ref (x + 214), .int v1, .int v2, .int v3] (n, T, I, J, P) (Ret (some (.int r.1)) (n, T, r.2, J, P)) := by
  unfold mu_waysB at hf
  refine Ct.ofV (by decide) (Nat.le_of_ble_eq_true rfl) ?_
  refine V.aload_n dX4_waysFrom_0 rfl ?_
  refine V.getr fl_X4_25 dX4_waysFrom_1 (hx.1 214 (4, 0) rfl) (hx.2.1 214 1 157 rfl) (by decide) rfl ?_
  refine V.iload_n dX4_waysFrom_4 rfl ?_
  obtain ⟨hb1, hf⟩ := chk_some hf
  refine V.aald dX4_waysFrom_5 (hx.1 157 (25, 8) rfl) (by decide) hb1 (hx.arr157 (i := v1) hb1) ?_
  refine V.astore dX4_waysFrom_6 (by decide) (by first | exact rfl | exact trivial) ?_
  refine V.aload dX4_waysFrom_8 rfl ?_
  refine V.iload_n dX4_waysFrom_10 rfl ?_
  refine V.inv cv_X4_80 (c_s_isUp (hx.ob157 (i := v1) hb1)) dX4_waysFrom_11 ((hx.ob157 (i := v1) hb1).1 0 (8, 0) rfl) (by decide) rfl rfl rfl (Nat.le_of_ble_eq_true rfl) (by omega) (by decide) (Nat.le_refl _) (Nat.le_refl _) (fun _ _ hq => ?_)
  obtain ⟨rfl, rfl⟩ := hq
  refine V.if_ne 19 dX4_waysFrom_14 (by decide) (fun c2 => ?_) (fun c2 => ?_)
  · rw [if_neg c2] at hf
    refine V.iload_n dX4_waysFrom_19 rfl ?_
    refine V.iload_n dX4_waysFrom_20 rfl ?_
    refine V.icmp_ge 30 dX4_waysFrom_21 (by decide) (fun c3 => ?_) (fun c3 => ?_)
    · rw [if_pos c3] at hf
      refine V.aload dX4_waysFrom_30 rfl ?_
      refine V.getf fl_X4_88 dX4_waysFrom_32 ((hx.ob157 (i := v1) hb1).1 0 (8, 0) rfl) (by decide) rfl ?_
      refine V.iconst (v := 1) dX4_waysFrom_35 (by decide) ?_
      refine V.iload_n dX4_waysFrom_36 rfl ?_
      refine V.ishl dX4_waysFrom_37 ?_
      refine V.icmp_ne 45 dX4_waysFrom_38 (by decide) (fun c4 => ?_) (fun c4 => ?_)
      · rw [if_neg c4] at hf
        refine V.iconst (v := 0) dX4_waysFrom_45 (by decide) ?_
        obtain rfl := Option.some.inj hf
        exact V.iret dX4_waysFrom_46 rfl (Nat.le_refl _) (Nat.le_refl _) ⟨rfl, rfl⟩
      · rw [if_pos c4] at hf
        refine V.iconst (v := 1) dX4_waysFrom_41 (by decide) ?_
        refine V.goto 46 dX4_waysFrom_42 (by decide) ?_
        obtain rfl := Option.some.inj hf
        exact V.iret dX4_waysFrom_46 rfl (Nat.le_refl _) (Nat.le_refl _) ⟨rfl, rfl⟩
    · rw [if_neg c3] at hf
      refine V.iload_n dX4_waysFrom_24 rfl ?_
      refine V.bipush (v := 7) dX4_waysFrom_25 (by decide) ?_
      refine V.icmp_lt 47 dX4_waysFrom_27 (by decide) (fun c5 => ?_) (fun c5 => ?_)
      · rw [if_pos c5] at hf
        refine V.iconst (v := 0) dX4_waysFrom_47 (by decide) ?_
        refine V.istore dX4_waysFrom_48 (by decide) (by first | exact rfl | exact trivial) ?_
        refine V.iconst (v := 0) dX4_waysFrom_50 (by decide) ?_
        refine V.istore dX4_waysFrom_51 (by decide) (by first | exact rfl | exact trivial) ?_
        obtain ⟨⟨m22, m23, I24⟩, hk21, hf⟩ := bnd_some hf
        try dsimp only at hf
        refine V.lo [(0, some (.ref (x + 214))), (1, some (.int v1)), (2, some (.int v2)), (3, some (.int v3)), (4, some (.ref (x + (158 + 7 * (Int32.toNatClampNeg v1))))), (5, some (.int 0)), (6, some (.int 0))] (by simp only [Subs]; repeat' first | exact trivial | constructor | rfl) (l_mu_waysB_53 hx hs_c hm (hx.ob157 (i := v1) hb1) ih0 _ F _ _ _ hk21 ?_)
        try dsimp only
        refine V.iload dX4_waysFrom_116 rfl ?_
        obtain rfl := Option.some.inj hf
        exact V.iret dX4_waysFrom_118 rfl (Nat.le_refl _) (Nat.le_refl _) ⟨rfl, rfl⟩
      · rw [if_neg c5] at hf
        refine V.aload dX4_waysFrom_30 rfl ?_
        refine V.getf fl_X4_88 dX4_waysFrom_32 ((hx.ob157 (i := v1) hb1).1 0 (8, 0) rfl) (by decide) rfl ?_
        refine V.iconst (v := 1) dX4_waysFrom_35 (by decide) ?_
        refine V.iload_n dX4_waysFrom_36 rfl ?_
        refine V.ishl dX4_waysFrom_37 ?_
        refine V.icmp_ne 45 dX4_waysFrom_38 (by decide) (fun c25 => ?_) (fun c25 => ?_)
        · rw [if_neg c25] at hf
          refine V.iconst (v := 0) dX4_waysFrom_45 (by decide) ?_
          obtain rfl := Option.some.inj hf
          exact V.iret dX4_waysFrom_46 rfl (Nat.le_refl _) (Nat.le_refl _) ⟨rfl, rfl⟩
        · rw [if_pos c25] at hf
          refine V.iconst (v := 1) dX4_waysFrom_41 (by decide) ?_
          refine V.goto 46 dX4_waysFrom_42 (by decide) ?_
          obtain rfl := Option.some.inj hf
          exact V.iret dX4_waysFrom_46 rfl (Nat.le_refl _) (Nat.le_refl _) ⟨rfl, rfl⟩
  · rw [if_pos c2] at hf
    refine V.iconst (v := 0) dX4_waysFrom_17 (by decide) ?_
    obtain rfl := Option.some.inj hf
    exact V.iret dX4_waysFrom_18 rfl (Nat.le_refl _) (Nat.le_refl _) ⟨rfl, rfl⟩
theorem mu_ways_all {l : Launch} {D : va_G} {E : Nat → ClassId} {B : Nat → Prop} {n F : Nat} {T : Nat → Option (Nat × Nat)} {J : Nat → Nat → Int64} {P : Nat → Nat → Option Nat} {x : Nat} {c : Nat} : ∀ k, mu_ways_H l D E B n F T J P x c k := by
  intro k
  induction k with
  | zero =>
    exact fun _ _ _ hf => by cases hf
  | succ kr ih0 =>
    exact fun hx hs_c hm hf => s_mu_waysB ih0 hx hs_c hm hf
def mu_waysB_f (F : Nat) (T : Nat → Option (Nat × Nat)) (I : Nat → Nat → Int32) (P : Nat → Nat → Option Nat) (x : Nat) (c : Nat) (v1 : Int32) (v2 : Int32) (v3 : Int32) : Option (Int32 × (Nat → Nat → Int32)) := mu_ways F T P x c 10 v1 v2 v3 I
theorem c_mu_waysB_f {l : Launch} {D : va_G} {E : Nat → ClassId} {B : Nat → Prop} {n F : Nat} {T : Nat → Option (Nat × Nat)} {J : Nat → Nat → Int64} {P : Nat → Nat → Option Nat} {x : Nat} {c : Nat} {v1 : Int32} {v2 : Int32} {v3 : Int32} {I : Nat → Nat → Int32} {r : Int32 × (Nat → Nat → Int32)} (hx : isSR T P x) (hs_c : isCt T P c) (hm : P (x + 214) 4 = some c) (hf : mu_waysB_f F T I P x c v1 v2 v3 = some r) : Ct l D E B yX4_waysFrom cX4_waysFrom 7 (some .int) 20 0 0 [.ref (x + 214), .int v1, .int v2, .int v3] (n, T, I, J, P) (Ret (some (.int r.1)) (n, T, r.2, J, P)) := (mu_ways_all 10) hx hs_c hm hf
theorem dX4_findShortest_0 : decode cX4_findShortest 0 = .ok (.aload_n 0, 1) := by decide +kernel
theorem dX4_findShortest_1 : decode cX4_findShortest 1 = .ok (.aload_n 1, 1) := by decide +kernel
theorem dX4_findShortest_2 : decode cX4_findShortest 2 = .ok (.putfield 66, 3) := by decide +kernel
theorem dX4_findShortest_5 : decode cX4_findShortest 5 = .ok (.aload_n 0, 1) := by decide +kernel
theorem dX4_findShortest_6 : decode cX4_findShortest 6 = .ok (.getfield 25, 3) := by decide +kernel
theorem dX4_findShortest_9 : decode cX4_findShortest 9 = .ok (.iconst 0, 1) := by decide +kernel
theorem dX4_findShortest_10 : decode cX4_findShortest 10 = .ok (.aaload, 1) := by decide +kernel
theorem dX4_findShortest_11 : decode cX4_findShortest 11 = .ok (.aload_n 2, 1) := by decide +kernel
theorem dX4_findShortest_12 : decode cX4_findShortest 12 = .ok (.invokevirtual 70, 3) := by decide +kernel
theorem dX4_findShortest_15 : decode cX4_findShortest 15 = .ok (.aload_n 0, 1) := by decide +kernel
theorem dX4_findShortest_16 : decode cX4_findShortest 16 = .ok (.iconst (-1), 1) := by decide +kernel
theorem dX4_findShortest_17 : decode cX4_findShortest 17 = .ok (.putfield 29, 3) := by decide +kernel
theorem dX4_findShortest_20 : decode cX4_findShortest 20 = .ok (.iconst 0, 1) := by decide +kernel
theorem dX4_findShortest_21 : decode cX4_findShortest 21 = .ok (.istore_n 3, 1) := by decide +kernel
theorem dX4_findShortest_22 : decode cX4_findShortest 22 = .ok (.iload_n 3, 1) := by decide +kernel
theorem dX4_findShortest_23 : decode cX4_findShortest 23 = .ok (.bipush 7, 2) := by decide +kernel
theorem dX4_findShortest_25 : decode cX4_findShortest 25 = .ok (.if_icmp .gt 31, 3) := by decide +kernel
theorem dX4_findShortest_28 : decode cX4_findShortest 28 = .ok (.aload_n 0, 1) := by decide +kernel
theorem dX4_findShortest_29 : decode cX4_findShortest 29 = .ok (.getfield 29, 3) := by decide +kernel
theorem dX4_findShortest_32 : decode cX4_findShortest 32 = .ok (.iconst (-1), 1) := by decide +kernel
theorem dX4_findShortest_33 : decode cX4_findShortest 33 = .ok (.if_icmp .ne 23, 3) := by decide +kernel
theorem dX4_findShortest_36 : decode cX4_findShortest 36 = .ok (.aload_n 0, 1) := by decide +kernel
theorem dX4_findShortest_37 : decode cX4_findShortest 37 = .ok (.iconst 0, 1) := by decide +kernel
theorem dX4_findShortest_38 : decode cX4_findShortest 38 = .ok (.iload_n 3, 1) := by decide +kernel
theorem dX4_findShortest_39 : decode cX4_findShortest 39 = .ok (.invokevirtual 76, 3) := by decide +kernel
theorem dX4_findShortest_42 : decode cX4_findShortest 42 = .ok (.ifCond .eq 8, 3) := by decide +kernel
theorem dX4_findShortest_45 : decode cX4_findShortest 45 = .ok (.aload_n 0, 1) := by decide +kernel
theorem dX4_findShortest_46 : decode cX4_findShortest 46 = .ok (.iload_n 3, 1) := by decide +kernel
theorem dX4_findShortest_47 : decode cX4_findShortest 47 = .ok (.putfield 29, 3) := by decide +kernel
theorem dX4_findShortest_50 : decode cX4_findShortest 50 = .ok (.iinc 3 1, 3) := by decide +kernel
theorem dX4_findShortest_53 : decode cX4_findShortest 53 = .ok (.goto (-31), 3) := by decide +kernel
theorem dX4_findShortest_56 : decode cX4_findShortest 56 = .ok (.return_, 1) := by decide +kernel
def mu_findShortest_22 (F : Nat) (T : Nat → Option (Nat × Nat)) (P : Nat → Nat → Option Nat) (x : Nat) (c : Nat) (a : Nat) : Nat → Int32 → (Nat → Nat → Int32) → Option (Int32 × (Nat → Nat → Int32))
  | 0, _, _ => none
  | k + 1, l3, I => if 7 < l3 then (some (l3, I)) else (if (I (x + 214) 3) = (-1) then ((mu_reachesB_f F T I P x c 0 l3).bind (fun q10 => let u12 := q10.1; let I13 := q10.2; if u12 = 0 then (mu_findShortest_22 F T P x c a k (l3 + 1) I13) else (let I15 := uI I13 (x + 214) 3 l3; mu_findShortest_22 F T P x c a k (l3 + 1) I15))) else (some (l3, I)))
def mu_findShortest (F : Nat) (T : Nat → Option (Nat × Nat)) (I : Nat → Nat → Int32) (P : Nat → Nat → Option Nat) (x : Nat) (c : Nat) (a : Nat) : Option ((Nat → Nat → Int32)) := let P1 := uP P (x + 214) 4 (some c); (s_copyFrom I (x + (158 + 7 * (Int32.toNatClampNeg 0))) a).bind (fun q3 => let I5 := q3; let I6 := uI I5 (x + 214) 3 (-1); (mu_findShortest_22 F T P1 x c a F 0 I6).bind (fun q17 => let m19 := q17.1; let I20 := q17.2; some I20))
theorem l_mu_findShortest_22 {l : Launch} {D : va_G} {E : Nat → ClassId} {B : Nat → Prop} {n F : Nat} {Q : Option Value → HT → Prop} {T : Nat → Option (Nat × Nat)} {J : Nat → Nat → Int64} {P : Nat → Nat → Option Nat} {x : Nat} {c : Nat} {a : Nat}  (hx : isSR T P x) (hs_c : isCt T P c) (hs_a : isSt T P a) (hm : P (x + 214) 4 = some c)  (r : Int32 × (Nat → Nat → Int32)) : ∀ (k : Nat) (l3 : Int32) (I : (Nat → Nat → Int32)), mu_findShortest_22 F T P x c a k l3 I = some r → V l D E B yX4_findShortest cX4_findShortest 4 none 21 0 0 Q 0 0 (n, T, r.2, J, P) 56 [(0, some (.ref (x + 214))), (1, some (.ref c)), (2, some (.ref a)), (3, some (.int (r.1)))] [] → V l D E B yX4_findShortest cX4_findShortest 4 none 21 0 0 Q 0 0 (n, T, I, J, P) 22 [(0, some (.ref (x + 214))), (1, some (.ref c)), (2, some (.ref a)), (3, some (.int l3))] [] := by
  intro k
  induction k with
  | zero =>
    intro l3 I hf hk
    cases hf
  | succ k ih =>
    intro l3 I hf hk
    unfold mu_findShortest_22 at hf
    refine V.iload_n dX4_findShortest_22 rfl ?_
    refine V.bipush (v := 7) dX4_findShortest_23 (by decide) ?_
    refine V.icmp_gt 56 dX4_findShortest_25 (by decide) (fun c8 => ?_) (fun c8 => ?_)
    · rw [if_pos c8] at hf
      obtain rfl := Option.some.inj hf
      exact V.lo [(0, some (.ref (x + 214))), (1, some (.ref c)), (2, some (.ref a)), (3, some (.int l3))] (by simp only [Subs]; repeat' first | exact trivial | constructor | rfl) hk
    · rw [if_neg c8] at hf
      refine V.aload_n dX4_findShortest_28 rfl ?_
      refine V.getf fl_X4_29 dX4_findShortest_29 (hx.1 214 (4, 0) rfl) (by decide) rfl ?_
      refine V.iconst (v := -1) dX4_findShortest_32 (by decide) ?_
      refine V.icmp_ne 56 dX4_findShortest_33 (by decide) (fun c9 => ?_) (fun c9 => ?_)
      · rw [if_neg c9] at hf
        obtain rfl := Option.some.inj hf
        exact V.lo [(0, some (.ref (x + 214))), (1, some (.ref c)), (2, some (.ref a)), (3, some (.int l3))] (by simp only [Subs]; repeat' first | exact trivial | constructor | rfl) hk
      · rw [if_pos c9] at hf
        refine V.aload_n dX4_findShortest_36 rfl ?_
        refine V.iconst (v := 0) dX4_findShortest_37 (by decide) ?_
        refine V.iload_n dX4_findShortest_38 rfl ?_
        obtain ⟨⟨u12, I13⟩, hk11, hf⟩ := bnd_some hf
        try dsimp only at hf
        refine V.inv cv_X4_76 (c_mu_reachesB_f hx hs_c hm hk11) dX4_findShortest_39 (hx.1 214 (4, 0) rfl) (by decide) rfl rfl rfl (Nat.le_of_ble_eq_true rfl) (by decide) (by decide) (Nat.le_refl _) (Nat.le_refl _) (fun _ _ hq => ?_)
        obtain ⟨rfl, rfl⟩ := hq
        try dsimp only
        refine V.if_eq 50 dX4_findShortest_42 (by decide) (fun c14 => ?_) (fun c14 => ?_)
        · rw [if_pos c14] at hf
          refine V.iinc (v := (l3 + 1)) dX4_findShortest_50 rfl rfl (by first | exact rfl | exact trivial) ?_
          refine V.goto 22 dX4_findShortest_53 (by decide) ?_
          exact V.lo [(0, some (.ref (x + 214))), (1, some (.ref c)), (2, some (.ref a)), (3, some (.int (l3 + 1)))] (by simp only [Subs]; repeat' first | exact trivial | constructor | rfl) (ih _ _ hf hk)
        · rw [if_neg c14] at hf
          refine V.aload_n dX4_findShortest_45 rfl ?_
          refine V.iload_n dX4_findShortest_46 rfl ?_
          refine V.putiE fl_X4_29 dX4_findShortest_47 (hx.1 214 (4, 0) rfl) (by decide) (fun h => by cases h) rfl rfl rfl (Nat.le_of_ble_eq_true rfl) (fun I15 e16 => ?_)
          rw [← e16] at hf
          try dsimp only at hf
          clear e16
          refine V.iinc (v := (l3 + 1)) dX4_findShortest_50 rfl rfl (by first | exact rfl | exact trivial) ?_
          refine V.goto 22 dX4_findShortest_53 (by decide) ?_
          exact V.lo [(0, some (.ref (x + 214))), (1, some (.ref c)), (2, some (.ref a)), (3, some (.int (l3 + 1)))] (by simp only [Subs]; repeat' first | exact trivial | constructor | rfl) (ih _ _ hf hk)
theorem c_mu_findShortest {l : Launch} {D : va_G} {E : Nat → ClassId} {B : Nat → Prop} {n F : Nat} {T : Nat → Option (Nat × Nat)} {I : Nat → Nat → Int32} {J : Nat → Nat → Int64} {P : Nat → Nat → Option Nat} {x : Nat} {c : Nat} {a : Nat}  {r : (Nat → Nat → Int32)} (hx : isSR T P x) (hs_c : isCt T P c) (hs_a : isSt T P a) (hf : mu_findShortest F T I P x c a = some r) : Ct l D E B yX4_findShortest cX4_findShortest 4 none 21 0 0 [.ref (x + 214), .ref c, .ref a] (n, T, I, J, P) (RetP x P (none) n T r J) := by
  unfold mu_findShortest at hf
  have hpx : PX x P P := PX.rf
  refine Ct.ofV (by decide) (Nat.le_of_ble_eq_true rfl) ?_
  refine V.aload_n dX4_findShortest_0 rfl ?_
  refine V.aload_n dX4_findShortest_1 rfl ?_
  refine V.putrE fl_X4_66 dX4_findShortest_2 (hx.1 214 (4, 0) rfl) (by decide) (fun h => by cases h) rfl rfl rfl (Nat.le_of_ble_eq_true rfl) (fun P1 e2 => ?_)
  rw [← e2] at hf
  try dsimp only at hf
  have hp_ : PX x P P1 := by rw [e2]; exact PX.m PX.rf
  have hm : P1 (x + 214) 4 = some c := by rw [e2]; exact uP_here
  have hpx := PX.tr hpx hp_
  have hs_c := isCt.px hs_c hx hp_
  have hs_a := isSt.px hs_a hx hp_
  have hx := isSR.px hx hp_
  refine V.aload_n dX4_findShortest_5 rfl ?_
  refine V.getr fl_X4_25 dX4_findShortest_6 (hx.1 214 (4, 0) rfl) (hx.2.1 214 1 157 rfl) (by decide) rfl ?_
  refine V.iconst (v := 0) dX4_findShortest_9 (by decide) ?_
  refine V.aald dX4_findShortest_10 (hx.1 157 (25, 8) rfl) (by decide) (vp_lit (by decide)) (hx.arr157 (i := 0) (vp_lit (by decide))) ?_
  refine V.aload_n dX4_findShortest_11 rfl ?_
  obtain ⟨I5, hk4, hf⟩ := bnd_some hf
  try dsimp only at hf
  refine V.inv cv_X4_70 (c_s_copyFrom (hx.ob157 (i := 0) (vp_lit (by decide))) hs_a hk4) dX4_findShortest_12 ((hx.ob157 (i := 0) (vp_lit (by decide))).1 0 (8, 0) rfl) (by decide) rfl rfl rfl (Nat.le_of_ble_eq_true rfl) (by decide) (by decide) (Nat.le_refl _) (Nat.le_refl _) (fun _ _ hq => ?_)
  obtain ⟨rfl, rfl⟩ := hq
  refine V.aload_n dX4_findShortest_15 rfl ?_
  refine V.iconst (v := -1) dX4_findShortest_16 (by decide) ?_
  refine V.putiE fl_X4_29 dX4_findShortest_17 (hx.1 214 (4, 0) rfl) (by decide) (fun h => by cases h) rfl rfl rfl (Nat.le_of_ble_eq_true rfl) (fun I6 e7 => ?_)
  rw [← e7] at hf
  try dsimp only at hf
  clear e7
  refine V.iconst (v := 0) dX4_findShortest_20 (by decide) ?_
  refine V.istore_n dX4_findShortest_21 rfl (by decide) (by first | exact rfl | exact trivial) ?_
  obtain ⟨⟨m19, I20⟩, hk18, hf⟩ := bnd_some hf
  try dsimp only at hf
  refine V.lo [(0, some (.ref (x + 214))), (1, some (.ref c)), (2, some (.ref a)), (3, some (.int 0))] (by simp only [Subs]; repeat' first | exact trivial | constructor | rfl) (l_mu_findShortest_22 hx hs_c hs_a hm _ F _ _ hk18 ?_)
  try dsimp only
  obtain rfl := Option.some.inj hf
  exact V.vret dX4_findShortest_56 rfl (Nat.le_refl _) (Nat.le_refl _) ⟨rfl, _, hpx, rfl⟩
theorem dX4_findAlone_0 : decode cX4_findAlone 0 = .ok (.aload_n 0, 1) := by decide +kernel
theorem dX4_findAlone_1 : decode cX4_findAlone 1 = .ok (.getfield 12, 3) := by decide +kernel
theorem dX4_findAlone_4 : decode cX4_findAlone 4 = .ok (.iload_n 3, 1) := by decide +kernel
theorem dX4_findAlone_5 : decode cX4_findAlone 5 = .ok (.iconst 0, 1) := by decide +kernel
theorem dX4_findAlone_6 : decode cX4_findAlone 6 = .ok (.iload 4, 2) := by decide +kernel
theorem dX4_findAlone_8 : decode cX4_findAlone 8 = .ok (.iconst 0, 1) := by decide +kernel
theorem dX4_findAlone_9 : decode cX4_findAlone 9 = .ok (.iconst 0, 1) := by decide +kernel
theorem dX4_findAlone_10 : decode cX4_findAlone 10 = .ok (.invokevirtual 33, 3) := by decide +kernel
theorem dX4_findAlone_13 : decode cX4_findAlone 13 = .ok (.ifCond .eq 4, 3) := by decide +kernel
theorem dX4_findAlone_16 : decode cX4_findAlone 16 = .ok (.return_, 1) := by decide +kernel
theorem dX4_findAlone_17 : decode cX4_findAlone 17 = .ok (.aload_n 0, 1) := by decide +kernel
theorem dX4_findAlone_18 : decode cX4_findAlone 18 = .ok (.iconst 1, 1) := by decide +kernel
theorem dX4_findAlone_19 : decode cX4_findAlone 19 = .ok (.putfield 37, 3) := by decide +kernel
theorem dX4_findAlone_22 : decode cX4_findAlone 22 = .ok (.aload_n 0, 1) := by decide +kernel
theorem dX4_findAlone_23 : decode cX4_findAlone 23 = .ok (.iload 4, 2) := by decide +kernel
theorem dX4_findAlone_25 : decode cX4_findAlone 25 = .ok (.putfield 41, 3) := by decide +kernel
theorem dX4_findAlone_28 : decode cX4_findAlone 28 = .ok (.aload_n 0, 1) := by decide +kernel
theorem dX4_findAlone_29 : decode cX4_findAlone 29 = .ok (.aload_n 1, 1) := by decide +kernel
theorem dX4_findAlone_30 : decode cX4_findAlone 30 = .ok (.aload_n 2, 1) := by decide +kernel
theorem dX4_findAlone_31 : decode cX4_findAlone 31 = .ok (.invokevirtual 44, 3) := by decide +kernel
theorem dX4_findAlone_34 : decode cX4_findAlone 34 = .ok (.return_, 1) := by decide +kernel
def mu_findAlone (F : Nat) (T : Nat → Option (Nat × Nat)) (I : Nat → Nat → Int32) (P : Nat → Nat → Option Nat) (x : Nat) (c : Nat) (a : Nat) (v3 : Int32) (v4 : Int32) : Option ((Nat → Nat → Int32)) := (mm_knows I (x + 215) v3 0 v4 0 0).bind (fun q1 => let u3 := q1.1; let I4 := q1.2; if u3 = 0 then (let I6 := uI I4 (x + 214) 5 1; let I8 := uI I6 (x + 214) 6 v4; (mu_findShortest F T I8 P x c a).bind (fun q10 => let I12 := q10; some I12)) else (some I4))
theorem c_mu_findAlone {l : Launch} {D : va_G} {E : Nat → ClassId} {B : Nat → Prop} {n F : Nat} {T : Nat → Option (Nat × Nat)} {I : Nat → Nat → Int32} {J : Nat → Nat → Int64} {P : Nat → Nat → Option Nat} {x : Nat} {c : Nat} {a : Nat} {v3 : Int32} {v4 : Int32} {r : (Nat → Nat → Int32)} (hx : isSR T P x) (hs_c : isCt T P c) (hs_a : isSt T P a) (hf : mu_findAlone F T I P x c a v3 v4 = some r) : Ct l D E B yX4_findAlone cX4_findAlone 5 none 22 0 0 [.ref (x + 214), .ref c, .ref a, .int v3, .int v4] (n, T, I, J, P) (RetP x P (none) n T r J) := by
  unfold mu_findAlone at hf
  have hpx : PX x P P := PX.rf
  refine Ct.ofV (by decide) (Nat.le_of_ble_eq_true rfl) ?_
  refine V.aload_n dX4_findAlone_0 rfl ?_
  refine V.getr fl_X4_12 dX4_findAlone_1 (hx.1 214 (4, 0) rfl) (hx.2.1 214 0 215 rfl) (by decide) rfl ?_
  refine V.iload_n dX4_findAlone_4 rfl ?_
  refine V.iconst (v := 0) dX4_findAlone_5 (by decide) ?_
  refine V.iload dX4_findAlone_6 rfl ?_
  refine V.iconst (v := 0) dX4_findAlone_8 (by decide) ?_
  refine V.iconst (v := 0) dX4_findAlone_9 (by decide) ?_
  obtain ⟨⟨u3, I4⟩, hk2, hf⟩ := bnd_some hf
  try dsimp only at hf
  refine V.inv cv_X4_33 (c_mm_knows (hx.2.2.2.1 215 rfl) hk2) dX4_findAlone_10 ((hx.2.2.2.1 215 rfl).1 0 (3, 0) rfl) (by decide) rfl rfl rfl (Nat.le_of_ble_eq_true rfl) (by decide) (by decide) (Nat.le_refl _) (Nat.le_refl _) (fun _ _ hq => ?_)
  obtain ⟨rfl, rfl⟩ := hq
  try dsimp only
  refine V.if_eq 17 dX4_findAlone_13 (by decide) (fun c5 => ?_) (fun c5 => ?_)
  · rw [if_pos c5] at hf
    refine V.aload_n dX4_findAlone_17 rfl ?_
    refine V.iconst (v := 1) dX4_findAlone_18 (by decide) ?_
    refine V.putiE fl_X4_37 dX4_findAlone_19 (hx.1 214 (4, 0) rfl) (by decide) (fun h => by cases h) rfl rfl rfl (Nat.le_of_ble_eq_true rfl) (fun I6 e7 => ?_)
    rw [← e7] at hf
    try dsimp only at hf
    clear e7
    refine V.aload_n dX4_findAlone_22 rfl ?_
    refine V.iload dX4_findAlone_23 rfl ?_
    refine V.putiE fl_X4_41 dX4_findAlone_25 (hx.1 214 (4, 0) rfl) (by decide) (fun h => by cases h) rfl rfl rfl (Nat.le_of_ble_eq_true rfl) (fun I8 e9 => ?_)
    rw [← e9] at hf
    try dsimp only at hf
    clear e9
    refine V.aload_n dX4_findAlone_28 rfl ?_
    refine V.aload_n dX4_findAlone_29 rfl ?_
    refine V.aload_n dX4_findAlone_30 rfl ?_
    obtain ⟨I12, hk11, hf⟩ := bnd_some hf
    try dsimp only at hf
    refine V.inv cv_X4_44 (c_mu_findShortest hx hs_c hs_a hk11) dX4_findAlone_31 (hx.1 214 (4, 0) rfl) (by decide) rfl rfl rfl (Nat.le_of_ble_eq_true rfl) (by decide) (by decide) (Nat.le_refl _) (Nat.le_refl _) (fun _ _ hq => ?_)
    obtain ⟨rfl, P13, hp_, rfl⟩ := hq
    have hpx := PX.tr hpx hp_
    have hs_c := isCt.px hs_c hx hp_
    have hs_a := isSt.px hs_a hx hp_
    have hx := isSR.px hx hp_
    obtain rfl := Option.some.inj hf
    exact V.vret dX4_findAlone_34 rfl (Nat.le_refl _) (Nat.le_refl _) ⟨rfl, _, hpx, rfl⟩
  · rw [if_neg c5] at hf
    obtain rfl := Option.some.inj hf
    exact V.vret dX4_findAlone_16 rfl (Nat.le_refl _) (Nat.le_refl _) ⟨rfl, _, hpx, rfl⟩
theorem dX4_findOrder_0 : decode cX4_findOrder 0 = .ok (.aload_n 0, 1) := by decide +kernel
theorem dX4_findOrder_1 : decode cX4_findOrder 1 = .ok (.getfield 12, 3) := by decide +kernel
theorem dX4_findOrder_4 : decode cX4_findOrder 4 = .ok (.iload_n 3, 1) := by decide +kernel
theorem dX4_findOrder_5 : decode cX4_findOrder 5 = .ok (.iconst 1, 1) := by decide +kernel
theorem dX4_findOrder_6 : decode cX4_findOrder 6 = .ok (.iload 5, 2) := by decide +kernel
theorem dX4_findOrder_8 : decode cX4_findOrder 8 = .ok (.iconst 0, 1) := by decide +kernel
theorem dX4_findOrder_9 : decode cX4_findOrder 9 = .ok (.iconst 0, 1) := by decide +kernel
theorem dX4_findOrder_10 : decode cX4_findOrder 10 = .ok (.invokevirtual 33, 3) := by decide +kernel
theorem dX4_findOrder_13 : decode cX4_findOrder 13 = .ok (.ifCond .eq 4, 3) := by decide +kernel
theorem dX4_findOrder_16 : decode cX4_findOrder 16 = .ok (.return_, 1) := by decide +kernel
theorem dX4_findOrder_17 : decode cX4_findOrder 17 = .ok (.aload_n 0, 1) := by decide +kernel
theorem dX4_findOrder_18 : decode cX4_findOrder 18 = .ok (.iconst 0, 1) := by decide +kernel
theorem dX4_findOrder_19 : decode cX4_findOrder 19 = .ok (.putfield 37, 3) := by decide +kernel
theorem dX4_findOrder_22 : decode cX4_findOrder 22 = .ok (.aload_n 0, 1) := by decide +kernel
theorem dX4_findOrder_23 : decode cX4_findOrder 23 = .ok (.aload 4, 2) := by decide +kernel
theorem dX4_findOrder_25 : decode cX4_findOrder 25 = .ok (.getfield 48, 3) := by decide +kernel
theorem dX4_findOrder_28 : decode cX4_findOrder 28 = .ok (.bipush 6, 2) := by decide +kernel
theorem dX4_findOrder_30 : decode cX4_findOrder 30 = .ok (.invokestatic 53, 3) := by decide +kernel
theorem dX4_findOrder_33 : decode cX4_findOrder 33 = .ok (.putfield 59, 3) := by decide +kernel
theorem dX4_findOrder_36 : decode cX4_findOrder 36 = .ok (.iconst 0, 1) := by decide +kernel
theorem dX4_findOrder_37 : decode cX4_findOrder 37 = .ok (.istore 6, 2) := by decide +kernel
theorem dX4_findOrder_39 : decode cX4_findOrder 39 = .ok (.iload 6, 2) := by decide +kernel
theorem dX4_findOrder_41 : decode cX4_findOrder 41 = .ok (.aload_n 0, 1) := by decide +kernel
theorem dX4_findOrder_42 : decode cX4_findOrder 42 = .ok (.getfield 59, 3) := by decide +kernel
theorem dX4_findOrder_45 : decode cX4_findOrder 45 = .ok (.if_icmp .ge 25, 3) := by decide +kernel
theorem dX4_findOrder_48 : decode cX4_findOrder 48 = .ok (.aload_n 0, 1) := by decide +kernel
theorem dX4_findOrder_49 : decode cX4_findOrder 49 = .ok (.getfield 22, 3) := by decide +kernel
theorem dX4_findOrder_52 : decode cX4_findOrder 52 = .ok (.iload 6, 2) := by decide +kernel
theorem dX4_findOrder_54 : decode cX4_findOrder 54 = .ok (.aload 4, 2) := by decide +kernel
theorem dX4_findOrder_56 : decode cX4_findOrder 56 = .ok (.getfield 62, 3) := by decide +kernel
theorem dX4_findOrder_59 : decode cX4_findOrder 59 = .ok (.iload 6, 2) := by decide +kernel
theorem dX4_findOrder_61 : decode cX4_findOrder 61 = .ok (.laload, 1) := by decide +kernel
theorem dX4_findOrder_62 : decode cX4_findOrder 62 = .ok (.l2i, 1) := by decide +kernel
theorem dX4_findOrder_63 : decode cX4_findOrder 63 = .ok (.iastore, 1) := by decide +kernel
theorem dX4_findOrder_64 : decode cX4_findOrder 64 = .ok (.iinc 6 1, 3) := by decide +kernel
theorem dX4_findOrder_67 : decode cX4_findOrder 67 = .ok (.goto (-28), 3) := by decide +kernel
theorem dX4_findOrder_70 : decode cX4_findOrder 70 = .ok (.aload_n 0, 1) := by decide +kernel
theorem dX4_findOrder_71 : decode cX4_findOrder 71 = .ok (.aload_n 1, 1) := by decide +kernel
theorem dX4_findOrder_72 : decode cX4_findOrder 72 = .ok (.aload_n 2, 1) := by decide +kernel
theorem dX4_findOrder_73 : decode cX4_findOrder 73 = .ok (.invokevirtual 44, 3) := by decide +kernel
theorem dX4_findOrder_76 : decode cX4_findOrder 76 = .ok (.return_, 1) := by decide +kernel
def mu_findOrder_39 (F : Nat) (J : Nat → Nat → Int64) (x : Nat) (c : Nat) (a : Nat) (ty : Nat) (g3 : Int32) (g5 : Int32) : Nat → Int32 → (Nat → Nat → Int32) → Option (Int32 × (Nat → Nat → Int32))
  | 0, _, _ => none
  | k + 1, l6, I => if (I (x + 214) 8) ≤ l6 then (some (l6, I)) else (chk l6 40 (chk l6 6 (let I13 := uI I (x + 218) (Int32.toNatClampNeg l6) (Int64.toInt32 (J (ty + 1) (Int32.toNatClampNeg l6))); mu_findOrder_39 F J x c a ty g3 g5 k (l6 + 1) I13)))
def mu_findOrder (F : Nat) (T : Nat → Option (Nat × Nat)) (I : Nat → Nat → Int32) (J : Nat → Nat → Int64) (P : Nat → Nat → Option Nat) (x : Nat) (c : Nat) (a : Nat) (ty : Nat) (v3 : Int32) (v5 : Int32) : Option ((Nat → Nat → Int32)) := (mm_knows I (x + 215) v3 1 v5 0 0).bind (fun q1 => let u3 := q1.1; let I4 := q1.2; if u3 = 0 then (let I6 := uI I4 (x + 214) 5 0; let I8 := uI I6 (x + 214) 8 (imin (I6 ty 1) 6); (mu_findOrder_39 F J x c a ty v3 v5 F 0 I8).bind (fun q15 => let m17 := q15.1; let I18 := q15.2; (mu_findShortest F T I18 P x c a).bind (fun q19 => let I21 := q19; some I21))) else (some I4))
theorem l_mu_findOrder_39 {l : Launch} {D : va_G} {E : Nat → ClassId} {B : Nat → Prop} {n F : Nat} {Q : Option Value → HT → Prop} {T : Nat → Option (Nat × Nat)} {J : Nat → Nat → Int64} {P : Nat → Nat → Option Nat} {x : Nat} {c : Nat} {a : Nat} {ty : Nat} {g3 : Int32} {g5 : Int32} (hx : isSR T P x) (hs_c : isCt T P c) (hs_a : isSt T P a) (hs_ty : isTy T P ty)  (r : Int32 × (Nat → Nat → Int32)) : ∀ (k : Nat) (l6 : Int32) (I : (Nat → Nat → Int32)), mu_findOrder_39 F J x c a ty g3 g5 k l6 I = some r → V l D E B yX4_findOrder cX4_findOrder 7 none 22 0 0 Q 0 0 (n, T, r.2, J, P) 70 [(0, some (.ref (x + 214))), (1, some (.ref c)), (2, some (.ref a)), (3, some (.int g3)), (4, some (.ref ty)), (5, some (.int g5)), (6, some (.int (r.1)))] [] → V l D E B yX4_findOrder cX4_findOrder 7 none 22 0 0 Q 0 0 (n, T, I, J, P) 39 [(0, some (.ref (x + 214))), (1, some (.ref c)), (2, some (.ref a)), (3, some (.int g3)), (4, some (.ref ty)), (5, some (.int g5)), (6, some (.int l6))] [] := by
  intro k
  induction k with
  | zero =>
    intro l6 I hf hk
    cases hf
  | succ k ih =>
    intro l6 I hf hk
    unfold mu_findOrder_39 at hf
    refine V.iload dX4_findOrder_39 rfl ?_
    refine V.aload_n dX4_findOrder_41 rfl ?_
    refine V.getf fl_X4_59 dX4_findOrder_42 (hx.1 214 (4, 0) rfl) (by decide) rfl ?_
    refine V.icmp_ge 70 dX4_findOrder_45 (by decide) (fun c10 => ?_) (fun c10 => ?_)
    · rw [if_pos c10] at hf
      obtain rfl := Option.some.inj hf
      exact V.lo [(0, some (.ref (x + 214))), (1, some (.ref c)), (2, some (.ref a)), (3, some (.int g3)), (4, some (.ref ty)), (5, some (.int g5)), (6, some (.int l6))] (by simp only [Subs]; repeat' first | exact trivial | constructor | rfl) hk
    · rw [if_neg c10] at hf
      refine V.aload_n dX4_findOrder_48 rfl ?_
      refine V.getr fl_X4_22 dX4_findOrder_49 (hx.1 214 (4, 0) rfl) (hx.2.1 214 7 218 rfl) (by decide) rfl ?_
      refine V.iload dX4_findOrder_52 rfl ?_
      refine V.aload dX4_findOrder_54 rfl ?_
      refine V.getr fl_X4_62 dX4_findOrder_56 (hs_ty.1 0 (9, 0) rfl) (hs_ty.2 0 0 1 rfl) (by decide) rfl ?_
      refine V.iload dX4_findOrder_59 rfl ?_
      obtain ⟨hb11, hf⟩ := chk_some hf
      refine V.lald dX4_findOrder_61 (hs_ty.1 1 (22, 40) rfl) hb11 ?_
      refine V.l2i dX4_findOrder_62 ?_
      obtain ⟨hb12, hf⟩ := chk_some hf
      refine V.iastE dX4_findOrder_63 (hx.1 218 (20, 6) rfl) hb12 (fun I13 e14 => ?_)
      rw [← e14] at hf
      try dsimp only at hf
      clear e14
      refine V.iinc (v := (l6 + 1)) dX4_findOrder_64 rfl rfl (by first | exact rfl | exact trivial) ?_
      refine V.goto 39 dX4_findOrder_67 (by decide) ?_
      exact V.lo [(0, some (.ref (x + 214))), (1, some (.ref c)), (2, some (.ref a)), (3, some (.int g3)), (4, some (.ref ty)), (5, some (.int g5)), (6, some (.int (l6 + 1)))] (by simp only [Subs]; repeat' first | exact trivial | constructor | rfl) (ih _ _ hf hk)
theorem c_mu_findOrder {l : Launch} {D : va_G} {E : Nat → ClassId} {B : Nat → Prop} {n F : Nat} {T : Nat → Option (Nat × Nat)} {I : Nat → Nat → Int32} {J : Nat → Nat → Int64} {P : Nat → Nat → Option Nat} {x : Nat} {c : Nat} {a : Nat} {ty : Nat} {v3 : Int32} {v5 : Int32} {r : (Nat → Nat → Int32)} (hx : isSR T P x) (hs_c : isCt T P c) (hs_a : isSt T P a) (hs_ty : isTy T P ty) (hf : mu_findOrder F T I J P x c a ty v3 v5 = some r) : Ct l D E B yX4_findOrder cX4_findOrder 7 none 22 0 0 [.ref (x + 214), .ref c, .ref a, .int v3, .ref ty, .int v5] (n, T, I, J, P) (RetP x P (none) n T r J) := by
  unfold mu_findOrder at hf
  have hpx : PX x P P := PX.rf
  refine Ct.ofV (by decide) (Nat.le_of_ble_eq_true rfl) ?_
  refine V.aload_n dX4_findOrder_0 rfl ?_
  refine V.getr fl_X4_12 dX4_findOrder_1 (hx.1 214 (4, 0) rfl) (hx.2.1 214 0 215 rfl) (by decide) rfl ?_
  refine V.iload_n dX4_findOrder_4 rfl ?_
  refine V.iconst (v := 1) dX4_findOrder_5 (by decide) ?_
  refine V.iload dX4_findOrder_6 rfl ?_
  refine V.iconst (v := 0) dX4_findOrder_8 (by decide) ?_
  refine V.iconst (v := 0) dX4_findOrder_9 (by decide) ?_
  obtain ⟨⟨u3, I4⟩, hk2, hf⟩ := bnd_some hf
  try dsimp only at hf
  refine V.inv cv_X4_33 (c_mm_knows (hx.2.2.2.1 215 rfl) hk2) dX4_findOrder_10 ((hx.2.2.2.1 215 rfl).1 0 (3, 0) rfl) (by decide) rfl rfl rfl (Nat.le_of_ble_eq_true rfl) (by decide) (by decide) (Nat.le_refl _) (Nat.le_refl _) (fun _ _ hq => ?_)
  obtain ⟨rfl, rfl⟩ := hq
  try dsimp only
  refine V.if_eq 17 dX4_findOrder_13 (by decide) (fun c5 => ?_) (fun c5 => ?_)
  · rw [if_pos c5] at hf
    refine V.aload_n dX4_findOrder_17 rfl ?_
    refine V.iconst (v := 0) dX4_findOrder_18 (by decide) ?_
    refine V.putiE fl_X4_37 dX4_findOrder_19 (hx.1 214 (4, 0) rfl) (by decide) (fun h => by cases h) rfl rfl rfl (Nat.le_of_ble_eq_true rfl) (fun I6 e7 => ?_)
    rw [← e7] at hf
    try dsimp only at hf
    clear e7
    refine V.aload_n dX4_findOrder_22 rfl ?_
    refine V.aload dX4_findOrder_23 rfl ?_
    refine V.getf fl_X4_48 dX4_findOrder_25 (hs_ty.1 0 (9, 0) rfl) (by decide) rfl ?_
    refine V.bipush (v := 6) dX4_findOrder_28 (by decide) ?_
    refine V.ins cs_X4_53 (c_imin) dX4_findOrder_30 rfl rfl (Nat.le_of_ble_eq_true rfl) (by decide) (by decide) (Nat.le_refl _) (Nat.le_refl _) (fun _ _ hq => ?_)
    obtain ⟨rfl, rfl⟩ := hq
    refine V.putiE fl_X4_59 dX4_findOrder_33 (hx.1 214 (4, 0) rfl) (by decide) (fun h => by cases h) rfl rfl rfl (Nat.le_of_ble_eq_true rfl) (fun I8 e9 => ?_)
    rw [← e9] at hf
    try dsimp only at hf
    clear e9
    refine V.iconst (v := 0) dX4_findOrder_36 (by decide) ?_
    refine V.istore dX4_findOrder_37 (by decide) (by first | exact rfl | exact trivial) ?_
    obtain ⟨⟨m17, I18⟩, hk16, hf⟩ := bnd_some hf
    try dsimp only at hf
    refine V.lo [(0, some (.ref (x + 214))), (1, some (.ref c)), (2, some (.ref a)), (3, some (.int v3)), (4, some (.ref ty)), (5, some (.int v5)), (6, some (.int 0))] (by simp only [Subs]; repeat' first | exact trivial | constructor | rfl) (l_mu_findOrder_39 hx hs_c hs_a hs_ty _ F _ _ hk16 ?_)
    try dsimp only
    refine V.aload_n dX4_findOrder_70 rfl ?_
    refine V.aload_n dX4_findOrder_71 rfl ?_
    refine V.aload_n dX4_findOrder_72 rfl ?_
    obtain ⟨I21, hk20, hf⟩ := bnd_some hf
    try dsimp only at hf
    refine V.inv cv_X4_44 (c_mu_findShortest hx hs_c hs_a hk20) dX4_findOrder_73 (hx.1 214 (4, 0) rfl) (by decide) rfl rfl rfl (Nat.le_of_ble_eq_true rfl) (by decide) (by decide) (Nat.le_refl _) (Nat.le_refl _) (fun _ _ hq => ?_)
    obtain ⟨rfl, P22, hp_, rfl⟩ := hq
    have hpx := PX.tr hpx hp_
    have hs_c := isCt.px hs_c hx hp_
    have hs_a := isSt.px hs_a hx hp_
    have hs_ty := isTy.px hs_ty hx hp_
    have hx := isSR.px hx hp_
    obtain rfl := Option.some.inj hf
    exact V.vret dX4_findOrder_76 rfl (Nat.le_refl _) (Nat.le_refl _) ⟨rfl, _, hpx, rfl⟩
  · rw [if_neg c5] at hf
    obtain rfl := Option.some.inj hf
    exact V.vret dX4_findOrder_16 rfl (Nat.le_refl _) (Nat.le_refl _) ⟨rfl, _, hpx, rfl⟩
theorem dX4_waysAlone_0 : decode cX4_waysAlone 0 = .ok (.aload_n 0, 1) := by decide +kernel
theorem dX4_waysAlone_1 : decode cX4_waysAlone 1 = .ok (.aload_n 1, 1) := by decide +kernel
theorem dX4_waysAlone_2 : decode cX4_waysAlone 2 = .ok (.putfield 66, 3) := by decide +kernel
theorem dX4_waysAlone_5 : decode cX4_waysAlone 5 = .ok (.aload_n 0, 1) := by decide +kernel
theorem dX4_waysAlone_6 : decode cX4_waysAlone 6 = .ok (.getfield 25, 3) := by decide +kernel
theorem dX4_waysAlone_9 : decode cX4_waysAlone 9 = .ok (.iconst 0, 1) := by decide +kernel
theorem dX4_waysAlone_10 : decode cX4_waysAlone 10 = .ok (.aaload, 1) := by decide +kernel
theorem dX4_waysAlone_11 : decode cX4_waysAlone 11 = .ok (.aload_n 2, 1) := by decide +kernel
theorem dX4_waysAlone_12 : decode cX4_waysAlone 12 = .ok (.invokevirtual 70, 3) := by decide +kernel
theorem dX4_waysAlone_15 : decode cX4_waysAlone 15 = .ok (.aload_n 0, 1) := by decide +kernel
theorem dX4_waysAlone_16 : decode cX4_waysAlone 16 = .ok (.iconst 0, 1) := by decide +kernel
theorem dX4_waysAlone_17 : decode cX4_waysAlone 17 = .ok (.iload_n 3, 1) := by decide +kernel
theorem dX4_waysAlone_18 : decode cX4_waysAlone 18 = .ok (.iload 4, 2) := by decide +kernel
theorem dX4_waysAlone_20 : decode cX4_waysAlone 20 = .ok (.invokevirtual 106, 3) := by decide +kernel
theorem dX4_waysAlone_23 : decode cX4_waysAlone 23 = .ok (.ireturn, 1) := by decide +kernel
def mu_waysAlone (F : Nat) (T : Nat → Option (Nat × Nat)) (I : Nat → Nat → Int32) (P : Nat → Nat → Option Nat) (x : Nat) (c : Nat) (a : Nat) (v3 : Int32) (v4 : Int32) : Option (Int32 × (Nat → Nat → Int32)) := let P1 := uP P (x + 214) 4 (some c); (s_copyFrom I (x + (158 + 7 * (Int32.toNatClampNeg 0))) a).bind (fun q3 => let I5 := q3; (mu_waysB_f F T I5 P1 x c 0 v3 v4).bind (fun q6 => let u8 := q6.1; let I9 := q6.2; some (u8, I9)))
theorem c_mu_waysAlone {l : Launch} {D : va_G} {E : Nat → ClassId} {B : Nat → Prop} {n F : Nat} {T : Nat → Option (Nat × Nat)} {I : Nat → Nat → Int32} {J : Nat → Nat → Int64} {P : Nat → Nat → Option Nat} {x : Nat} {c : Nat} {a : Nat} {v3 : Int32} {v4 : Int32} {r : Int32 × (Nat → Nat → Int32)} (hx : isSR T P x) (hs_c : isCt T P c) (hs_a : isSt T P a) (hf : mu_waysAlone F T I P x c a v3 v4 = some r) : Ct l D E B yX4_waysAlone cX4_waysAlone 5 (some .int) 21 0 0 [.ref (x + 214), .ref c, .ref a, .int v3, .int v4] (n, T, I, J, P) (RetP x P (some (.int r.1)) n T r.2 J) := by
  unfold mu_waysAlone at hf
  have hpx : PX x P P := PX.rf
  refine Ct.ofV (by decide) (Nat.le_of_ble_eq_true rfl) ?_
  refine V.aload_n dX4_waysAlone_0 rfl ?_
  refine V.aload_n dX4_waysAlone_1 rfl ?_
  refine V.putrE fl_X4_66 dX4_waysAlone_2 (hx.1 214 (4, 0) rfl) (by decide) (fun h => by cases h) rfl rfl rfl (Nat.le_of_ble_eq_true rfl) (fun P1 e2 => ?_)
  rw [← e2] at hf
  try dsimp only at hf
  have hp_ : PX x P P1 := by rw [e2]; exact PX.m PX.rf
  have hm : P1 (x + 214) 4 = some c := by rw [e2]; exact uP_here
  have hpx := PX.tr hpx hp_
  have hs_c := isCt.px hs_c hx hp_
  have hs_a := isSt.px hs_a hx hp_
  have hx := isSR.px hx hp_
  refine V.aload_n dX4_waysAlone_5 rfl ?_
  refine V.getr fl_X4_25 dX4_waysAlone_6 (hx.1 214 (4, 0) rfl) (hx.2.1 214 1 157 rfl) (by decide) rfl ?_
  refine V.iconst (v := 0) dX4_waysAlone_9 (by decide) ?_
  refine V.aald dX4_waysAlone_10 (hx.1 157 (25, 8) rfl) (by decide) (vp_lit (by decide)) (hx.arr157 (i := 0) (vp_lit (by decide))) ?_
  refine V.aload_n dX4_waysAlone_11 rfl ?_
  obtain ⟨I5, hk4, hf⟩ := bnd_some hf
  try dsimp only at hf
  refine V.inv cv_X4_70 (c_s_copyFrom (hx.ob157 (i := 0) (vp_lit (by decide))) hs_a hk4) dX4_waysAlone_12 ((hx.ob157 (i := 0) (vp_lit (by decide))).1 0 (8, 0) rfl) (by decide) rfl rfl rfl (Nat.le_of_ble_eq_true rfl) (by decide) (by decide) (Nat.le_refl _) (Nat.le_refl _) (fun _ _ hq => ?_)
  obtain ⟨rfl, rfl⟩ := hq
  refine V.aload_n dX4_waysAlone_15 rfl ?_
  refine V.iconst (v := 0) dX4_waysAlone_16 (by decide) ?_
  refine V.iload_n dX4_waysAlone_17 rfl ?_
  refine V.iload dX4_waysAlone_18 rfl ?_
  obtain ⟨⟨u8, I9⟩, hk7, hf⟩ := bnd_some hf
  try dsimp only at hf
  refine V.inv cv_X4_106 (c_mu_waysB_f hx hs_c hm hk7) dX4_waysAlone_20 (hx.1 214 (4, 0) rfl) (by decide) rfl rfl rfl (Nat.le_of_ble_eq_true rfl) (by decide) (by decide) (Nat.le_refl _) (Nat.le_refl _) (fun _ _ hq => ?_)
  obtain ⟨rfl, rfl⟩ := hq
  try dsimp only
  obtain rfl := Option.some.inj hf
  exact V.iret dX4_waysAlone_23 rfl (Nat.le_refl _) (Nat.le_refl _) ⟨rfl, _, hpx, rfl⟩
theorem dX0_weigh_0 : decode cX0_weigh 0 = .ok (.aload_n 0, 1) := by decide +kernel
theorem dX0_weigh_1 : decode cX0_weigh 1 = .ok (.getfield 25, 3) := by decide +kernel
theorem dX0_weigh_4 : decode cX0_weigh 4 = .ok (.iload_n 1, 1) := by decide +kernel
theorem dX0_weigh_5 : decode cX0_weigh 5 = .ok (.aaload, 1) := by decide +kernel
theorem dX0_weigh_6 : decode cX0_weigh 6 = .ok (.astore 4, 2) := by decide +kernel
theorem dX0_weigh_8 : decode cX0_weigh 8 = .ok (.iload_n 1, 1) := by decide +kernel
theorem dX0_weigh_9 : decode cX0_weigh 9 = .ok (.aload_n 0, 1) := by decide +kernel
theorem dX0_weigh_10 : decode cX0_weigh 10 = .ok (.getfield 45, 3) := by decide +kernel
theorem dX0_weigh_13 : decode cX0_weigh 13 = .ok (.if_icmp .ge 18, 3) := by decide +kernel
theorem dX0_weigh_16 : decode cX0_weigh 16 = .ok (.iload_n 1, 1) := by decide +kernel
theorem dX0_weigh_17 : decode cX0_weigh 17 = .ok (.bipush 6, 2) := by decide +kernel
theorem dX0_weigh_19 : decode cX0_weigh 19 = .ok (.if_icmp .ge 12, 3) := by decide +kernel
theorem dX0_weigh_22 : decode cX0_weigh 22 = .ok (.aload 4, 2) := by decide +kernel
theorem dX0_weigh_24 : decode cX0_weigh 24 = .ok (.invokevirtual 69, 3) := by decide +kernel
theorem dX0_weigh_27 : decode cX0_weigh 27 = .ok (.iconst 2, 1) := by decide +kernel
theorem dX0_weigh_28 : decode cX0_weigh 28 = .ok (.if_icmp .ge 39, 3) := by decide +kernel
theorem dX0_weigh_31 : decode cX0_weigh 31 = .ok (.aload 4, 2) := by decide +kernel
theorem dX0_weigh_33 : decode cX0_weigh 33 = .ok (.invokevirtual 72, 3) := by decide +kernel
theorem dX0_weigh_36 : decode cX0_weigh 36 = .ok (.istore 5, 2) := by decide +kernel
theorem dX0_weigh_38 : decode cX0_weigh 38 = .ok (.iload 5, 2) := by decide +kernel
theorem dX0_weigh_40 : decode cX0_weigh 40 = .ok (.ifCond .lt 26, 3) := by decide +kernel
theorem dX0_weigh_43 : decode cX0_weigh 43 = .ok (.aload_n 0, 1) := by decide +kernel
theorem dX0_weigh_44 : decode cX0_weigh 44 = .ok (.getfield 18, 3) := by decide +kernel
theorem dX0_weigh_47 : decode cX0_weigh 47 = .ok (.iload 5, 2) := by decide +kernel
theorem dX0_weigh_49 : decode cX0_weigh 49 = .ok (.dup2, 1) := by decide +kernel
theorem dX0_weigh_50 : decode cX0_weigh 50 = .ok (.laload, 1) := by decide +kernel
theorem dX0_weigh_51 : decode cX0_weigh 51 = .ok (.lload_n 2, 1) := by decide +kernel
theorem dX0_weigh_52 : decode cX0_weigh 52 = .ok (.aload_n 0, 1) := by decide +kernel
theorem dX0_weigh_53 : decode cX0_weigh 53 = .ok (.getfield 22, 3) := by decide +kernel
theorem dX0_weigh_56 : decode cX0_weigh 56 = .ok (.aload_n 0, 1) := by decide +kernel
theorem dX0_weigh_57 : decode cX0_weigh 57 = .ok (.getfield 45, 3) := by decide +kernel
theorem dX0_weigh_60 : decode cX0_weigh 60 = .ok (.iload_n 1, 1) := by decide +kernel
theorem dX0_weigh_61 : decode cX0_weigh 61 = .ok (.isub, 1) := by decide +kernel
theorem dX0_weigh_62 : decode cX0_weigh 62 = .ok (.laload, 1) := by decide +kernel
theorem dX0_weigh_63 : decode cX0_weigh 63 = .ok (.lmul, 1) := by decide +kernel
theorem dX0_weigh_64 : decode cX0_weigh 64 = .ok (.ladd, 1) := by decide +kernel
theorem dX0_weigh_65 : decode cX0_weigh 65 = .ok (.lastore, 1) := by decide +kernel
theorem dX0_weigh_66 : decode cX0_weigh 66 = .ok (.return_, 1) := by decide +kernel
theorem dX0_weigh_67 : decode cX0_weigh 67 = .ok (.iconst 0, 1) := by decide +kernel
theorem dX0_weigh_68 : decode cX0_weigh 68 = .ok (.istore 5, 2) := by decide +kernel
theorem dX0_weigh_70 : decode cX0_weigh 70 = .ok (.iload 5, 2) := by decide +kernel
theorem dX0_weigh_72 : decode cX0_weigh 72 = .ok (.aload_n 0, 1) := by decide +kernel
theorem dX0_weigh_73 : decode cX0_weigh 73 = .ok (.getfield 29, 3) := by decide +kernel
theorem dX0_weigh_76 : decode cX0_weigh 76 = .ok (.getfield 75, 3) := by decide +kernel
theorem dX0_weigh_79 : decode cX0_weigh 79 = .ok (.if_icmp .ge 73, 3) := by decide +kernel
theorem dX0_weigh_82 : decode cX0_weigh 82 = .ok (.aload_n 0, 1) := by decide +kernel
theorem dX0_weigh_83 : decode cX0_weigh 83 = .ok (.getfield 29, 3) := by decide +kernel
theorem dX0_weigh_86 : decode cX0_weigh 86 = .ok (.getfield 78, 3) := by decide +kernel
theorem dX0_weigh_89 : decode cX0_weigh 89 = .ok (.iload 5, 2) := by decide +kernel
theorem dX0_weigh_91 : decode cX0_weigh 91 = .ok (.iaload, 1) := by decide +kernel
theorem dX0_weigh_92 : decode cX0_weigh 92 = .ok (.ifCond .le 54, 3) := by decide +kernel
theorem dX0_weigh_95 : decode cX0_weigh 95 = .ok (.aload_n 0, 1) := by decide +kernel
theorem dX0_weigh_96 : decode cX0_weigh 96 = .ok (.getfield 25, 3) := by decide +kernel
theorem dX0_weigh_99 : decode cX0_weigh 99 = .ok (.iload_n 1, 1) := by decide +kernel
theorem dX0_weigh_100 : decode cX0_weigh 100 = .ok (.iconst 1, 1) := by decide +kernel
theorem dX0_weigh_101 : decode cX0_weigh 101 = .ok (.iadd, 1) := by decide +kernel
theorem dX0_weigh_102 : decode cX0_weigh 102 = .ok (.aaload, 1) := by decide +kernel
theorem dX0_weigh_103 : decode cX0_weigh 103 = .ok (.aload 4, 2) := by decide +kernel
theorem dX0_weigh_105 : decode cX0_weigh 105 = .ok (.invokevirtual 59, 3) := by decide +kernel
theorem dX0_weigh_108 : decode cX0_weigh 108 = .ok (.aload_n 0, 1) := by decide +kernel
theorem dX0_weigh_109 : decode cX0_weigh 109 = .ok (.getfield 25, 3) := by decide +kernel
theorem dX0_weigh_112 : decode cX0_weigh 112 = .ok (.iload_n 1, 1) := by decide +kernel
theorem dX0_weigh_113 : decode cX0_weigh 113 = .ok (.iconst 1, 1) := by decide +kernel
theorem dX0_weigh_114 : decode cX0_weigh 114 = .ok (.iadd, 1) := by decide +kernel
theorem dX0_weigh_115 : decode cX0_weigh 115 = .ok (.aaload, 1) := by decide +kernel
theorem dX0_weigh_116 : decode cX0_weigh 116 = .ok (.aload_n 0, 1) := by decide +kernel
theorem dX0_weigh_117 : decode cX0_weigh 117 = .ok (.getfield 29, 3) := by decide +kernel
theorem dX0_weigh_120 : decode cX0_weigh 120 = .ok (.iload 5, 2) := by decide +kernel
theorem dX0_weigh_122 : decode cX0_weigh 122 = .ok (.iconst 0, 1) := by decide +kernel
theorem dX0_weigh_123 : decode cX0_weigh 123 = .ok (.invokevirtual 82, 3) := by decide +kernel
theorem dX0_weigh_126 : decode cX0_weigh 126 = .ok (.aload_n 0, 1) := by decide +kernel
theorem dX0_weigh_127 : decode cX0_weigh 127 = .ok (.iload_n 1, 1) := by decide +kernel
theorem dX0_weigh_128 : decode cX0_weigh 128 = .ok (.iconst 1, 1) := by decide +kernel
theorem dX0_weigh_129 : decode cX0_weigh 129 = .ok (.iadd, 1) := by decide +kernel
theorem dX0_weigh_130 : decode cX0_weigh 130 = .ok (.lload_n 2, 1) := by decide +kernel
theorem dX0_weigh_131 : decode cX0_weigh 131 = .ok (.aload_n 0, 1) := by decide +kernel
theorem dX0_weigh_132 : decode cX0_weigh 132 = .ok (.getfield 29, 3) := by decide +kernel
theorem dX0_weigh_135 : decode cX0_weigh 135 = .ok (.getfield 78, 3) := by decide +kernel
theorem dX0_weigh_138 : decode cX0_weigh 138 = .ok (.iload 5, 2) := by decide +kernel
theorem dX0_weigh_140 : decode cX0_weigh 140 = .ok (.iaload, 1) := by decide +kernel
theorem dX0_weigh_141 : decode cX0_weigh 141 = .ok (.i2l, 1) := by decide +kernel
theorem dX0_weigh_142 : decode cX0_weigh 142 = .ok (.lmul, 1) := by decide +kernel
theorem dX0_weigh_143 : decode cX0_weigh 143 = .ok (.invokevirtual 65, 3) := by decide +kernel
theorem dX0_weigh_146 : decode cX0_weigh 146 = .ok (.iinc 5 1, 3) := by decide +kernel
theorem dX0_weigh_149 : decode cX0_weigh 149 = .ok (.goto (-79), 3) := by decide +kernel
theorem dX0_weigh_152 : decode cX0_weigh 152 = .ok (.return_, 1) := by decide +kernel
def ch_weighB_70 (rec : Int32 → Int64 → (Nat → Nat → Int32) → (Nat → Nat → Int64) → Option ((Nat → Nat → Int32) × (Nat → Nat → Int64))) (F : Nat) (T : Nat → Option (Nat × Nat)) (P : Nat → Nat → Option Nat) (x : Nat) (c : Nat) (tb4 : Nat) (g1 : Int32) (g2 : Int64) : Nat → Int32 → (Nat → Nat → Int32) → (Nat → Nat → Int64) → Option (Int32 × (Nat → Nat → Int32) × (Nat → Nat → Int64))
  | 0, _, _, _ => none
  | k + 1, l5, I, J => if (I c 1) ≤ l5 then (some (l5, I, J)) else (chk l5 4 (if (I (c + 3) (Int32.toNatClampNeg l5)) ≤ 0 then (ch_weighB_70 rec F T P x c tb4 g1 g2 k (l5 + 1) I J) else (chk (g1 + 1) 8 ((s_copyFrom I (x + (158 + 7 * (Int32.toNatClampNeg (g1 + 1)))) tb4).bind (fun q25 => let I27 := q25; (s_playMinute F T I27 P (x + (158 + 7 * (Int32.toNatClampNeg (g1 + 1)))) c l5 0).bind (fun q28 => let I30 := q28; (rec (g1 + 1) (g2 * (Int32.toInt64 (I30 (c + 3) (Int32.toNatClampNeg l5)))) I30 J).bind (fun q31 => let I33 := q31.1; let J34 := q31.2; ch_weighB_70 rec F T P x c tb4 g1 g2 k (l5 + 1) I33 J34)))))))
def ch_weighB (rec : Int32 → Int64 → (Nat → Nat → Int32) → (Nat → Nat → Int64) → Option ((Nat → Nat → Int32) × (Nat → Nat → Int64))) (F : Nat) (T : Nat → Option (Nat × Nat)) (I : Nat → Nat → Int32) (J : Nat → Nat → Int64) (P : Nat → Nat → Option Nat) (x : Nat) (c : Nat) (v1 : Int32) (v2 : Int64) : Option ((Nat → Nat → Int32) × (Nat → Nat → Int64)) := chk v1 8 (if (I (x + 219) 6) ≤ v1 then ((s_firstInPlace F I (x + (158 + 7 * (Int32.toNatClampNeg v1)))).bind (fun q3 => let u5 := q3; if u5 < 0 then (some (I, J)) else (chk u5 6 (chk ((I (x + 219) 6) - v1) 7 (let J9 := uJ J (x + 222) (Int32.toNatClampNeg u5) ((J (x + 222) (Int32.toNatClampNeg u5)) + (v2 * (J (x + 223) (Int32.toNatClampNeg ((I (x + 219) 6) - v1))))); some (I, J9)))))) else (if 6 ≤ v1 then ((s_firstInPlace F I (x + (158 + 7 * (Int32.toNatClampNeg v1)))).bind (fun q12 => let u14 := q12; if u14 < 0 then (some (I, J)) else (chk u14 6 (chk ((I (x + 219) 6) - v1) 7 (let J18 := uJ J (x + 222) (Int32.toNatClampNeg u14) ((J (x + 222) (Int32.toNatClampNeg u14)) + (v2 * (J (x + 223) (Int32.toNatClampNeg ((I (x + 219) 6) - v1))))); some (I, J18)))))) else (if 2 ≤ (s_howManyUp I (x + (158 + 7 * (Int32.toNatClampNeg v1)))) then ((ch_weighB_70 rec F T P x c (x + (158 + 7 * (Int32.toNatClampNeg v1))) v1 v2 F 0 I J).bind (fun q35 => let m37 := q35.1; let I38 := q35.2.1; let J39 := q35.2.2; some (I38, J39))) else ((s_firstInPlace F I (x + (158 + 7 * (Int32.toNatClampNeg v1)))).bind (fun q40 => let u42 := q40; if u42 < 0 then (some (I, J)) else (chk u42 6 (chk ((I (x + 219) 6) - v1) 7 (let J46 := uJ J (x + 222) (Int32.toNatClampNeg u42) ((J (x + 222) (Int32.toNatClampNeg u42)) + (v2 * (J (x + 223) (Int32.toNatClampNeg ((I (x + 219) 6) - v1))))); some (I, J46)))))))))
def ch_weigh (F : Nat) (T : Nat → Option (Nat × Nat)) (P : Nat → Nat → Option Nat) (x : Nat) (c : Nat) : Nat → Int32 → Int64 → (Nat → Nat → Int32) → (Nat → Nat → Int64) → Option ((Nat → Nat → Int32) × (Nat → Nat → Int64))
  | 0, _, _, _, _ => none
  | kr + 1, a0, a1, I, J => ch_weighB (ch_weigh F T P x c kr) F T I J P x c a0 a1
def ch_weigh_H (l : Launch) (D : va_G) (E : Nat → ClassId) (B : Nat → Prop) (n F : Nat) (T : Nat → Option (Nat × Nat)) (P : Nat → Nat → Option Nat) (x : Nat) (c : Nat) (k : Nat) : Prop := (∀ {a0 : Int32} {a1 : Int64} {I : Nat → Nat → Int32} {J : Nat → Nat → Int64} {r : (Nat → Nat → Int32) × (Nat → Nat → Int64)}, isSR T P x →  isCt T P c →  P (x + 219) 5 = some c → ch_weigh F T P x c k a0 a1 I J = some r → Ct l D E B yX0_weigh cX0_weigh 6 none (10 + k) 0 0 [.ref (x + 219), .int a0, .long a1] (n, T, I, J, P) (Ret (none) (n, T, r.1, r.2, P)))
theorem l_ch_weighB_70 {l : Launch} {D : va_G} {E : Nat → ClassId} {B : Nat → Prop} {n F : Nat} {Q : Option Value → HT → Prop} {T : Nat → Option (Nat × Nat)} {P : Nat → Nat → Option Nat} {x : Nat} {c : Nat} {tb4 : Nat} {g1 : Int32} {g2 : Int64} (hx : isSR T P x) (hs_c : isCt T P c) (hh : P (x + 219) 5 = some c) (hs_tb4 : isSt T P tb4) {kr : Nat} (ih0 : ch_weigh_H l D E B n F T P x c kr) (r : Int32 × (Nat → Nat → Int32) × (Nat → Nat → Int64)) : ∀ (k : Nat) (l5 : Int32) (I : (Nat → Nat → Int32)) (J : (Nat → Nat → Int64)), ch_weighB_70 (ch_weigh F T P x c kr) F T P x c tb4 g1 g2 k l5 I J = some r → V l D E B yX0_weigh cX0_weigh 6 none (10 + (kr + 1)) 0 0 Q 0 0 (n, T, r.2.1, r.2.2, P) 152 [(0, some (.ref (x + 219))), (1, some (.int g1)), (2, some (.long g2)), (4, some (.ref tb4)), (5, some (.int (r.1)))] [] → V l D E B yX0_weigh cX0_weigh 6 none (10 + (kr + 1)) 0 0 Q 0 0 (n, T, I, J, P) 70 [(0, some (.ref (x + 219))), (1, some (.int g1)), (2, some (.long g2)), (4, some (.ref tb4)), (5, some (.int l5))] [] := by
  intro k
  induction k with
  | zero =>
    intro l5 I J hf hk
    cases hf
  | succ k ih =>
    intro l5 I J hf hk
    unfold ch_weighB_70 at hf
    refine V.iload dX0_weigh_70 rfl ?_
    refine V.aload_n dX0_weigh_72 rfl ?_
    refine V.getr fl_X0_29 dX0_weigh_73 (hx.1 219 (0, 0) rfl) hh (by decide) rfl ?_
    refine V.getf fl_X0_75 dX0_weigh_76 (hs_c.1.1 0 (1, 0) rfl) (by decide) rfl ?_
    refine V.icmp_ge 152 dX0_weigh_79 (by decide) (fun c21 => ?_) (fun c21 => ?_)
    · rw [if_pos c21] at hf
      obtain rfl := Option.some.inj hf
      exact V.lo [(0, some (.ref (x + 219))), (1, some (.int g1)), (2, some (.long g2)), (4, some (.ref tb4)), (5, some (.int l5))] (by simp only [Subs]; repeat' first | exact trivial | constructor | rfl) hk
    · rw [if_neg c21] at hf
      refine V.aload_n dX0_weigh_82 rfl ?_
      refine V.getr fl_X0_29 dX0_weigh_83 (hx.1 219 (0, 0) rfl) hh (by decide) rfl ?_
      refine V.getr fl_X0_78 dX0_weigh_86 (hs_c.1.1 0 (1, 0) rfl) (hs_c.1.2 0 6 3 rfl) (by decide) rfl ?_
      refine V.iload dX0_weigh_89 rfl ?_
      obtain ⟨hb22, hf⟩ := chk_some hf
      refine V.iald dX0_weigh_91 (hs_c.1.1 3 (20, 4) rfl) hb22 ?_
      refine V.if_le 146 dX0_weigh_92 (by decide) (fun c23 => ?_) (fun c23 => ?_)
      · rw [if_pos c23] at hf
        refine V.iinc (v := (l5 + 1)) dX0_weigh_146 rfl rfl (by first | exact rfl | exact trivial) ?_
        refine V.goto 70 dX0_weigh_149 (by decide) ?_
        exact V.lo [(0, some (.ref (x + 219))), (1, some (.int g1)), (2, some (.long g2)), (4, some (.ref tb4)), (5, some (.int (l5 + 1)))] (by simp only [Subs]; repeat' first | exact trivial | constructor | rfl) (ih _ _ _ hf hk)
      · rw [if_neg c23] at hf
        refine V.aload_n dX0_weigh_95 rfl ?_
        refine V.getr fl_X0_25 dX0_weigh_96 (hx.1 219 (0, 0) rfl) (hx.2.1 219 3 157 rfl) (by decide) rfl ?_
        refine V.iload_n dX0_weigh_99 rfl ?_
        refine V.iconst (v := 1) dX0_weigh_100 (by decide) ?_
        refine V.iadd dX0_weigh_101 ?_
        obtain ⟨hb24, hf⟩ := chk_some hf
        refine V.aald dX0_weigh_102 (hx.1 157 (25, 8) rfl) (by decide) hb24 (hx.arr157 (i := (g1 + 1)) hb24) ?_
        refine V.aload dX0_weigh_103 rfl ?_
        obtain ⟨I27, hk26, hf⟩ := bnd_some hf
        try dsimp only at hf
        refine V.inv cv_X0_59 (c_s_copyFrom (hx.ob157 (i := (g1 + 1)) hb24) hs_tb4 hk26) dX0_weigh_105 ((hx.ob157 (i := (g1 + 1)) hb24).1 0 (8, 0) rfl) (by decide) rfl rfl rfl (Nat.le_of_ble_eq_true rfl) (by omega) (by decide) (Nat.le_refl _) (Nat.le_refl _) (fun _ _ hq => ?_)
        obtain ⟨rfl, rfl⟩ := hq
        refine V.aload_n dX0_weigh_108 rfl ?_
        refine V.getr fl_X0_25 dX0_weigh_109 (hx.1 219 (0, 0) rfl) (hx.2.1 219 3 157 rfl) (by decide) rfl ?_
        refine V.iload_n dX0_weigh_112 rfl ?_
        refine V.iconst (v := 1) dX0_weigh_113 (by decide) ?_
        refine V.iadd dX0_weigh_114 ?_
        refine V.aald dX0_weigh_115 (hx.1 157 (25, 8) rfl) (by decide) hb24 (hx.arr157 (i := (g1 + 1)) hb24) ?_
        refine V.aload_n dX0_weigh_116 rfl ?_
        refine V.getr fl_X0_29 dX0_weigh_117 (hx.1 219 (0, 0) rfl) hh (by decide) rfl ?_
        refine V.iload dX0_weigh_120 rfl ?_
        refine V.iconst (v := 0) dX0_weigh_122 (by decide) ?_
        obtain ⟨I30, hk29, hf⟩ := bnd_some hf
        try dsimp only at hf
        refine V.inv cv_X0_82 (c_s_playMinute (hx.ob157 (i := (g1 + 1)) hb24) hs_c hk29) dX0_weigh_123 ((hx.ob157 (i := (g1 + 1)) hb24).1 0 (8, 0) rfl) (by decide) rfl rfl rfl (Nat.le_of_ble_eq_true rfl) (by omega) (by decide) (Nat.le_refl _) (Nat.le_refl _) (fun _ _ hq => ?_)
        obtain ⟨rfl, rfl⟩ := hq
        refine V.aload_n dX0_weigh_126 rfl ?_
        refine V.iload_n dX0_weigh_127 rfl ?_
        refine V.iconst (v := 1) dX0_weigh_128 (by decide) ?_
        refine V.iadd dX0_weigh_129 ?_
        refine V.lload_n dX0_weigh_130 rfl ?_
        refine V.aload_n dX0_weigh_131 rfl ?_
        refine V.getr fl_X0_29 dX0_weigh_132 (hx.1 219 (0, 0) rfl) hh (by decide) rfl ?_
        refine V.getr fl_X0_78 dX0_weigh_135 (hs_c.1.1 0 (1, 0) rfl) (hs_c.1.2 0 6 3 rfl) (by decide) rfl ?_
        refine V.iload dX0_weigh_138 rfl ?_
        refine V.iald dX0_weigh_140 (hs_c.1.1 3 (20, 4) rfl) hb22 ?_
        refine V.i2l dX0_weigh_141 ?_
        refine V.lmul dX0_weigh_142 ?_
        obtain ⟨⟨I33, J34⟩, hk32, hf⟩ := bnd_some hf
        try dsimp only at hf
        refine V.inv cv_X0_65 ((ih0) hx hs_c hh hk32) dX0_weigh_143 (hx.1 219 (0, 0) rfl) (by decide) rfl rfl rfl (Nat.le_of_ble_eq_true rfl) (by omega) (by decide) (Nat.le_refl _) (Nat.le_refl _) (fun _ _ hq => ?_)
        obtain ⟨rfl, rfl⟩ := hq
        try dsimp only
        refine V.iinc (v := (l5 + 1)) dX0_weigh_146 rfl rfl (by first | exact rfl | exact trivial) ?_
        refine V.goto 70 dX0_weigh_149 (by decide) ?_
        exact V.lo [(0, some (.ref (x + 219))), (1, some (.int g1)), (2, some (.long g2)), (4, some (.ref tb4)), (5, some (.int (l5 + 1)))] (by simp only [Subs]; repeat' first | exact trivial | constructor | rfl) (ih _ _ _ hf hk)
theorem s_ch_weighB {l : Launch} {D : va_G} {E : Nat → ClassId} {B : Nat → Prop} {n F : Nat} {T : Nat → Option (Nat × Nat)} {P : Nat → Nat → Option Nat} {x : Nat} {c : Nat} {kr : Nat} (ih0 : ch_weigh_H l D E B n F T P x c kr) {v1 : Int32} {v2 : Int64} {I : Nat → Nat → Int32} {J : Nat → Nat → Int64} {r : (Nat → Nat → Int32) × (Nat → Nat → Int64)} (hx : isSR T P x) (hs_c : isCt T P c) (hh : P (x + 219) 5 = some c) (hf : ch_weighB (ch_weigh F T P x c kr) F T I J P x c v1 v2 = some r) : Ct l D E B yX0_weigh cX0_weigh 6 none (10 + (kr + 1)) 0 0 [.ref (x + 219), .int v1, .long v2] (n, T, I, J, P) (Ret (none) (n, T, r.1, r.2, P)) := by
  unfold ch_weighB at hf
  refine Ct.ofV (by decide) (Nat.le_of_ble_eq_true rfl) ?_
  refine V.aload_n dX0_weigh_0 rfl ?_
  refine V.getr fl_X0_25 dX0_weigh_1 (hx.1 219 (0, 0) rfl) (hx.2.1 219 3 157 rfl) (by decide) rfl ?_
  refine V.iload_n dX0_weigh_4 rfl ?_
  obtain ⟨hb1, hf⟩ := chk_some hf
  refine V.aald dX0_weigh_5 (hx.1 157 (25, 8) rfl) (by decide) hb1 (hx.arr157 (i := v1) hb1) ?_
  refine V.astore dX0_weigh_6 (by decide) (by first | exact rfl | exact trivial) ?_
  refine V.iload_n dX0_weigh_8 rfl ?_
  refine V.aload_n dX0_weigh_9 rfl ?_
  refine V.getf fl_X0_45 dX0_weigh_10 (hx.1 219 (0, 0) rfl) (by decide) rfl ?_
  refine V.icmp_ge 31 dX0_weigh_13 (by decide) (fun c2 => ?_) (fun c2 => ?_)
  · rw [if_pos c2] at hf
    refine V.aload dX0_weigh_31 rfl ?_
    obtain ⟨u5, hk4, hf⟩ := bnd_some hf
    try dsimp only at hf
    refine V.inv cv_X0_72 (c_s_firstInPlace (hx.ob157 (i := v1) hb1) hk4) dX0_weigh_33 ((hx.ob157 (i := v1) hb1).1 0 (8, 0) rfl) (by decide) rfl rfl rfl (Nat.le_of_ble_eq_true rfl) (by omega) (by decide) (Nat.le_refl _) (Nat.le_refl _) (fun _ _ hq => ?_)
    obtain ⟨rfl, rfl⟩ := hq
    refine V.istore dX0_weigh_36 (by decide) (by first | exact rfl | exact trivial) ?_
    refine V.iload dX0_weigh_38 rfl ?_
    refine V.if_lt 66 dX0_weigh_40 (by decide) (fun c6 => ?_) (fun c6 => ?_)
    · rw [if_pos c6] at hf
      obtain rfl := Option.some.inj hf
      exact V.vret dX0_weigh_66 rfl (Nat.le_refl _) (Nat.le_refl _) ⟨rfl, rfl⟩
    · rw [if_neg c6] at hf
      refine V.aload_n dX0_weigh_43 rfl ?_
      refine V.getr fl_X0_18 dX0_weigh_44 (hx.1 219 (0, 0) rfl) (hx.2.1 219 1 222 rfl) (by decide) rfl ?_
      refine V.iload dX0_weigh_47 rfl ?_
      refine V.dup2 dX0_weigh_49 rfl rfl ?_
      obtain ⟨hb7, hf⟩ := chk_some hf
      refine V.lald dX0_weigh_50 (hx.1 222 (22, 6) rfl) hb7 ?_
      refine V.lload_n dX0_weigh_51 rfl ?_
      refine V.aload_n dX0_weigh_52 rfl ?_
      refine V.getr fl_X0_22 dX0_weigh_53 (hx.1 219 (0, 0) rfl) (hx.2.1 219 4 223 rfl) (by decide) rfl ?_
      refine V.aload_n dX0_weigh_56 rfl ?_
      refine V.getf fl_X0_45 dX0_weigh_57 (hx.1 219 (0, 0) rfl) (by decide) rfl ?_
      refine V.iload_n dX0_weigh_60 rfl ?_
      refine V.isub dX0_weigh_61 ?_
      obtain ⟨hb8, hf⟩ := chk_some hf
      refine V.lald dX0_weigh_62 (hx.1 223 (22, 7) rfl) hb8 ?_
      refine V.lmul dX0_weigh_63 ?_
      refine V.ladd dX0_weigh_64 ?_
      refine V.lastE dX0_weigh_65 (hx.1 222 (22, 6) rfl) hb7 (fun J9 e10 => ?_)
      rw [← e10] at hf
      try dsimp only at hf
      clear e10
      obtain rfl := Option.some.inj hf
      exact V.vret dX0_weigh_66 rfl (Nat.le_refl _) (Nat.le_refl _) ⟨rfl, rfl⟩
  · rw [if_neg c2] at hf
    refine V.iload_n dX0_weigh_16 rfl ?_
    refine V.bipush (v := 6) dX0_weigh_17 (by decide) ?_
    refine V.icmp_ge 31 dX0_weigh_19 (by decide) (fun c11 => ?_) (fun c11 => ?_)
    · rw [if_pos c11] at hf
      refine V.aload dX0_weigh_31 rfl ?_
      obtain ⟨u14, hk13, hf⟩ := bnd_some hf
      try dsimp only at hf
      refine V.inv cv_X0_72 (c_s_firstInPlace (hx.ob157 (i := v1) hb1) hk13) dX0_weigh_33 ((hx.ob157 (i := v1) hb1).1 0 (8, 0) rfl) (by decide) rfl rfl rfl (Nat.le_of_ble_eq_true rfl) (by omega) (by decide) (Nat.le_refl _) (Nat.le_refl _) (fun _ _ hq => ?_)
      obtain ⟨rfl, rfl⟩ := hq
      refine V.istore dX0_weigh_36 (by decide) (by first | exact rfl | exact trivial) ?_
      refine V.iload dX0_weigh_38 rfl ?_
      refine V.if_lt 66 dX0_weigh_40 (by decide) (fun c15 => ?_) (fun c15 => ?_)
      · rw [if_pos c15] at hf
        obtain rfl := Option.some.inj hf
        exact V.vret dX0_weigh_66 rfl (Nat.le_refl _) (Nat.le_refl _) ⟨rfl, rfl⟩
      · rw [if_neg c15] at hf
        refine V.aload_n dX0_weigh_43 rfl ?_
        refine V.getr fl_X0_18 dX0_weigh_44 (hx.1 219 (0, 0) rfl) (hx.2.1 219 1 222 rfl) (by decide) rfl ?_
        refine V.iload dX0_weigh_47 rfl ?_
        refine V.dup2 dX0_weigh_49 rfl rfl ?_
        obtain ⟨hb16, hf⟩ := chk_some hf
        refine V.lald dX0_weigh_50 (hx.1 222 (22, 6) rfl) hb16 ?_
        refine V.lload_n dX0_weigh_51 rfl ?_
        refine V.aload_n dX0_weigh_52 rfl ?_
        refine V.getr fl_X0_22 dX0_weigh_53 (hx.1 219 (0, 0) rfl) (hx.2.1 219 4 223 rfl) (by decide) rfl ?_
        refine V.aload_n dX0_weigh_56 rfl ?_
        refine V.getf fl_X0_45 dX0_weigh_57 (hx.1 219 (0, 0) rfl) (by decide) rfl ?_
        refine V.iload_n dX0_weigh_60 rfl ?_
        refine V.isub dX0_weigh_61 ?_
        obtain ⟨hb17, hf⟩ := chk_some hf
        refine V.lald dX0_weigh_62 (hx.1 223 (22, 7) rfl) hb17 ?_
        refine V.lmul dX0_weigh_63 ?_
        refine V.ladd dX0_weigh_64 ?_
        refine V.lastE dX0_weigh_65 (hx.1 222 (22, 6) rfl) hb16 (fun J18 e19 => ?_)
        rw [← e19] at hf
        try dsimp only at hf
        clear e19
        obtain rfl := Option.some.inj hf
        exact V.vret dX0_weigh_66 rfl (Nat.le_refl _) (Nat.le_refl _) ⟨rfl, rfl⟩
    · rw [if_neg c11] at hf
      refine V.aload dX0_weigh_22 rfl ?_
      refine V.inv cv_X0_69 (c_s_howManyUp (hx.ob157 (i := v1) hb1)) dX0_weigh_24 ((hx.ob157 (i := v1) hb1).1 0 (8, 0) rfl) (by decide) rfl rfl rfl (Nat.le_of_ble_eq_true rfl) (by omega) (by decide) (Nat.le_refl _) (Nat.le_refl _) (fun _ _ hq => ?_)
      obtain ⟨rfl, rfl⟩ := hq
      refine V.iconst (v := 2) dX0_weigh_27 (by decide) ?_
      refine V.icmp_ge 67 dX0_weigh_28 (by decide) (fun c20 => ?_) (fun c20 => ?_)
      · rw [if_pos c20] at hf
        refine V.iconst (v := 0) dX0_weigh_67 (by decide) ?_
        refine V.istore dX0_weigh_68 (by decide) (by first | exact rfl | exact trivial) ?_
        obtain ⟨⟨m37, I38, J39⟩, hk36, hf⟩ := bnd_some hf
        try dsimp only at hf
        refine V.lo [(0, some (.ref (x + 219))), (1, some (.int v1)), (2, some (.long v2)), (4, some (.ref (x + (158 + 7 * (Int32.toNatClampNeg v1))))), (5, some (.int 0))] (by simp only [Subs]; repeat' first | exact trivial | constructor | rfl) (l_ch_weighB_70 hx hs_c hh (hx.ob157 (i := v1) hb1) ih0 _ F _ _ _ hk36 ?_)
        try dsimp only
        obtain rfl := Option.some.inj hf
        exact V.vret dX0_weigh_152 rfl (Nat.le_refl _) (Nat.le_refl _) ⟨rfl, rfl⟩
      · rw [if_neg c20] at hf
        refine V.aload dX0_weigh_31 rfl ?_
        obtain ⟨u42, hk41, hf⟩ := bnd_some hf
        try dsimp only at hf
        refine V.inv cv_X0_72 (c_s_firstInPlace (hx.ob157 (i := v1) hb1) hk41) dX0_weigh_33 ((hx.ob157 (i := v1) hb1).1 0 (8, 0) rfl) (by decide) rfl rfl rfl (Nat.le_of_ble_eq_true rfl) (by omega) (by decide) (Nat.le_refl _) (Nat.le_refl _) (fun _ _ hq => ?_)
        obtain ⟨rfl, rfl⟩ := hq
        refine V.istore dX0_weigh_36 (by decide) (by first | exact rfl | exact trivial) ?_
        refine V.iload dX0_weigh_38 rfl ?_
        refine V.if_lt 66 dX0_weigh_40 (by decide) (fun c43 => ?_) (fun c43 => ?_)
        · rw [if_pos c43] at hf
          obtain rfl := Option.some.inj hf
          exact V.vret dX0_weigh_66 rfl (Nat.le_refl _) (Nat.le_refl _) ⟨rfl, rfl⟩
        · rw [if_neg c43] at hf
          refine V.aload_n dX0_weigh_43 rfl ?_
          refine V.getr fl_X0_18 dX0_weigh_44 (hx.1 219 (0, 0) rfl) (hx.2.1 219 1 222 rfl) (by decide) rfl ?_
          refine V.iload dX0_weigh_47 rfl ?_
          refine V.dup2 dX0_weigh_49 rfl rfl ?_
          obtain ⟨hb44, hf⟩ := chk_some hf
          refine V.lald dX0_weigh_50 (hx.1 222 (22, 6) rfl) hb44 ?_
          refine V.lload_n dX0_weigh_51 rfl ?_
          refine V.aload_n dX0_weigh_52 rfl ?_
          refine V.getr fl_X0_22 dX0_weigh_53 (hx.1 219 (0, 0) rfl) (hx.2.1 219 4 223 rfl) (by decide) rfl ?_
          refine V.aload_n dX0_weigh_56 rfl ?_
          refine V.getf fl_X0_45 dX0_weigh_57 (hx.1 219 (0, 0) rfl) (by decide) rfl ?_
          refine V.iload_n dX0_weigh_60 rfl ?_
          refine V.isub dX0_weigh_61 ?_
          obtain ⟨hb45, hf⟩ := chk_some hf
          refine V.lald dX0_weigh_62 (hx.1 223 (22, 7) rfl) hb45 ?_
          refine V.lmul dX0_weigh_63 ?_
          refine V.ladd dX0_weigh_64 ?_
          refine V.lastE dX0_weigh_65 (hx.1 222 (22, 6) rfl) hb44 (fun J46 e47 => ?_)
          rw [← e47] at hf
          try dsimp only at hf
          clear e47
          obtain rfl := Option.some.inj hf
          exact V.vret dX0_weigh_66 rfl (Nat.le_refl _) (Nat.le_refl _) ⟨rfl, rfl⟩
theorem ch_weigh_all {l : Launch} {D : va_G} {E : Nat → ClassId} {B : Nat → Prop} {n F : Nat} {T : Nat → Option (Nat × Nat)} {P : Nat → Nat → Option Nat} {x : Nat} {c : Nat} : ∀ k, ch_weigh_H l D E B n F T P x c k := by
  intro k
  induction k with
  | zero =>
    exact fun _ _ _ hf => by cases hf
  | succ kr ih0 =>
    exact fun hx hs_c hh hf => s_ch_weighB ih0 hx hs_c hh hf
def ch_weighB_f (F : Nat) (T : Nat → Option (Nat × Nat)) (I : Nat → Nat → Int32) (J : Nat → Nat → Int64) (P : Nat → Nat → Option Nat) (x : Nat) (c : Nat) (v1 : Int32) (v2 : Int64) : Option ((Nat → Nat → Int32) × (Nat → Nat → Int64)) := ch_weigh F T P x c 10 v1 v2 I J
theorem c_ch_weighB_f {l : Launch} {D : va_G} {E : Nat → ClassId} {B : Nat → Prop} {n F : Nat} {T : Nat → Option (Nat × Nat)} {P : Nat → Nat → Option Nat} {x : Nat} {c : Nat} {v1 : Int32} {v2 : Int64} {I : Nat → Nat → Int32} {J : Nat → Nat → Int64} {r : (Nat → Nat → Int32) × (Nat → Nat → Int64)} (hx : isSR T P x) (hs_c : isCt T P c) (hh : P (x + 219) 5 = some c) (hf : ch_weighB_f F T I J P x c v1 v2 = some r) : Ct l D E B yX0_weigh cX0_weigh 6 none 20 0 0 [.ref (x + 219), .int v1, .long v2] (n, T, I, J, P) (Ret (none) (n, T, r.1, r.2, P)) := (ch_weigh_all 10) hx hs_c hh hf
theorem dX0_find_0 : decode cX0_find 0 = .ok (.aload_n 0, 1) := by decide +kernel
theorem dX0_find_1 : decode cX0_find 1 = .ok (.aload_n 1, 1) := by decide +kernel
theorem dX0_find_2 : decode cX0_find 2 = .ok (.putfield 29, 3) := by decide +kernel
theorem dX0_find_5 : decode cX0_find 5 = .ok (.aload_n 0, 1) := by decide +kernel
theorem dX0_find_6 : decode cX0_find 6 = .ok (.getfield 29, 3) := by decide +kernel
theorem dX0_find_9 : decode cX0_find 9 = .ok (.invokevirtual 33, 3) := by decide +kernel
theorem dX0_find_12 : decode cX0_find 12 = .ok (.istore 4, 2) := by decide +kernel
theorem dX0_find_14 : decode cX0_find 14 = .ok (.aload_n 0, 1) := by decide +kernel
theorem dX0_find_15 : decode cX0_find 15 = .ok (.iload 4, 2) := by decide +kernel
theorem dX0_find_17 : decode cX0_find 17 = .ok (.ifCond .ne 7, 3) := by decide +kernel
theorem dX0_find_20 : decode cX0_find 20 = .ok (.iconst 0, 1) := by decide +kernel
theorem dX0_find_21 : decode cX0_find 21 = .ok (.goto 9, 3) := by decide +kernel
theorem dX0_find_24 : decode cX0_find 24 = .ok (.iload_n 3, 1) := by decide +kernel
theorem dX0_find_25 : decode cX0_find 25 = .ok (.bipush 6, 2) := by decide +kernel
theorem dX0_find_27 : decode cX0_find 27 = .ok (.invokestatic 39, 3) := by decide +kernel
theorem dX0_find_30 : decode cX0_find 30 = .ok (.putfield 45, 3) := by decide +kernel
theorem dX0_find_33 : decode cX0_find 33 = .ok (.aload_n 0, 1) := by decide +kernel
theorem dX0_find_34 : decode cX0_find 34 = .ok (.getfield 22, 3) := by decide +kernel
theorem dX0_find_37 : decode cX0_find 37 = .ok (.iconst 0, 1) := by decide +kernel
theorem dX0_find_38 : decode cX0_find 38 = .ok (.lconst 1, 1) := by decide +kernel
theorem dX0_find_39 : decode cX0_find 39 = .ok (.lastore, 1) := by decide +kernel
theorem dX0_find_40 : decode cX0_find 40 = .ok (.iconst 1, 1) := by decide +kernel
theorem dX0_find_41 : decode cX0_find 41 = .ok (.istore 5, 2) := by decide +kernel
theorem dX0_find_43 : decode cX0_find 43 = .ok (.iload 5, 2) := by decide +kernel
theorem dX0_find_45 : decode cX0_find 45 = .ok (.bipush 6, 2) := by decide +kernel
theorem dX0_find_47 : decode cX0_find 47 = .ok (.if_icmp .gt 29, 3) := by decide +kernel
theorem dX0_find_50 : decode cX0_find 50 = .ok (.aload_n 0, 1) := by decide +kernel
theorem dX0_find_51 : decode cX0_find 51 = .ok (.getfield 22, 3) := by decide +kernel
theorem dX0_find_54 : decode cX0_find 54 = .ok (.iload 5, 2) := by decide +kernel
theorem dX0_find_56 : decode cX0_find 56 = .ok (.aload_n 0, 1) := by decide +kernel
theorem dX0_find_57 : decode cX0_find 57 = .ok (.getfield 22, 3) := by decide +kernel
theorem dX0_find_60 : decode cX0_find 60 = .ok (.iload 5, 2) := by decide +kernel
theorem dX0_find_62 : decode cX0_find 62 = .ok (.iconst 1, 1) := by decide +kernel
theorem dX0_find_63 : decode cX0_find 63 = .ok (.isub, 1) := by decide +kernel
theorem dX0_find_64 : decode cX0_find 64 = .ok (.laload, 1) := by decide +kernel
theorem dX0_find_65 : decode cX0_find 65 = .ok (.iload 4, 2) := by decide +kernel
theorem dX0_find_67 : decode cX0_find 67 = .ok (.i2l, 1) := by decide +kernel
theorem dX0_find_68 : decode cX0_find 68 = .ok (.lmul, 1) := by decide +kernel
theorem dX0_find_69 : decode cX0_find 69 = .ok (.lastore, 1) := by decide +kernel
theorem dX0_find_70 : decode cX0_find 70 = .ok (.iinc 5 1, 3) := by decide +kernel
theorem dX0_find_73 : decode cX0_find 73 = .ok (.goto (-30), 3) := by decide +kernel
theorem dX0_find_76 : decode cX0_find 76 = .ok (.aload_n 0, 1) := by decide +kernel
theorem dX0_find_77 : decode cX0_find 77 = .ok (.aload_n 0, 1) := by decide +kernel
theorem dX0_find_78 : decode cX0_find 78 = .ok (.getfield 22, 3) := by decide +kernel
theorem dX0_find_81 : decode cX0_find 81 = .ok (.aload_n 0, 1) := by decide +kernel
theorem dX0_find_82 : decode cX0_find 82 = .ok (.getfield 45, 3) := by decide +kernel
theorem dX0_find_85 : decode cX0_find 85 = .ok (.laload, 1) := by decide +kernel
theorem dX0_find_86 : decode cX0_find 86 = .ok (.putfield 49, 3) := by decide +kernel
theorem dX0_find_89 : decode cX0_find 89 = .ok (.aload_n 0, 1) := by decide +kernel
theorem dX0_find_90 : decode cX0_find 90 = .ok (.getfield 18, 3) := by decide +kernel
theorem dX0_find_93 : decode cX0_find 93 = .ok (.lconst 0, 1) := by decide +kernel
theorem dX0_find_94 : decode cX0_find 94 = .ok (.invokestatic 53, 3) := by decide +kernel
theorem dX0_find_97 : decode cX0_find 97 = .ok (.aload_n 0, 1) := by decide +kernel
theorem dX0_find_98 : decode cX0_find 98 = .ok (.getfield 25, 3) := by decide +kernel
theorem dX0_find_101 : decode cX0_find 101 = .ok (.iconst 0, 1) := by decide +kernel
theorem dX0_find_102 : decode cX0_find 102 = .ok (.aaload, 1) := by decide +kernel
theorem dX0_find_103 : decode cX0_find 103 = .ok (.aload_n 2, 1) := by decide +kernel
theorem dX0_find_104 : decode cX0_find 104 = .ok (.invokevirtual 59, 3) := by decide +kernel
theorem dX0_find_107 : decode cX0_find 107 = .ok (.aload_n 0, 1) := by decide +kernel
theorem dX0_find_108 : decode cX0_find 108 = .ok (.iconst 0, 1) := by decide +kernel
theorem dX0_find_109 : decode cX0_find 109 = .ok (.lconst 1, 1) := by decide +kernel
theorem dX0_find_110 : decode cX0_find 110 = .ok (.invokevirtual 65, 3) := by decide +kernel
theorem dX0_find_113 : decode cX0_find 113 = .ok (.return_, 1) := by decide +kernel
def ch_find_43 (F : Nat) (x : Nat) (c : Nat) (a : Nat) (g3 : Int32) (g4 : Int32) : Nat → Int32 → (Nat → Nat → Int64) → Option (Int32 × (Nat → Nat → Int64))
  | 0, _, _ => none
  | k + 1, l5, J => if 6 < l5 then (some (l5, J)) else (chk (l5 - 1) 7 (chk l5 7 (let J14 := uJ J (x + 223) (Int32.toNatClampNeg l5) ((J (x + 223) (Int32.toNatClampNeg (l5 - 1))) * (Int32.toInt64 g4)); ch_find_43 F x c a g3 g4 k (l5 + 1) J14)))
def ch_find (F : Nat) (T : Nat → Option (Nat × Nat)) (I : Nat → Nat → Int32) (J : Nat → Nat → Int64) (P : Nat → Nat → Option Nat) (x : Nat) (c : Nat) (a : Nat) (v3 : Int32) : Option ((Nat → Nat → Int32) × (Nat → Nat → Int64)) := let P1 := uP P (x + 219) 5 (some c); (ct_allOdds F I c).bind (fun q3 => let u5 := q3; if u5 = 0 then (let I33 := uI I (x + 219) 6 0; let J35 := uJ J (x + 223) (Int32.toNatClampNeg 0) 1; (ch_find_43 F x c a v3 u5 F 1 J35).bind (fun q37 => let m39 := q37.1; let J40 := q37.2; chk (I33 (x + 219) 6) 7 (let J42 := uJ J40 (x + 219) 2 (J40 (x + 223) (Int32.toNatClampNeg (I33 (x + 219) 6))); (fillJ F T J42 (x + 222) 0).bind (fun q44 => let J46 := q44; (s_copyFrom I33 (x + (158 + 7 * (Int32.toNatClampNeg 0))) a).bind (fun q47 => let I49 := q47; (ch_weighB_f F T I49 J46 P1 x c 0 1).bind (fun q50 => let I52 := q50.1; let J53 := q50.2; some (I52, J53))))))) else (let I7 := uI I (x + 219) 6 (imin v3 6); let J9 := uJ J (x + 223) (Int32.toNatClampNeg 0) 1; (ch_find_43 F x c a v3 u5 F 1 J9).bind (fun q16 => let m18 := q16.1; let J19 := q16.2; chk (I7 (x + 219) 6) 7 (let J21 := uJ J19 (x + 219) 2 (J19 (x + 223) (Int32.toNatClampNeg (I7 (x + 219) 6))); (fillJ F T J21 (x + 222) 0).bind (fun q23 => let J25 := q23; (s_copyFrom I7 (x + (158 + 7 * (Int32.toNatClampNeg 0))) a).bind (fun q26 => let I28 := q26; (ch_weighB_f F T I28 J25 P1 x c 0 1).bind (fun q29 => let I31 := q29.1; let J32 := q29.2; some (I31, J32))))))))
theorem l_ch_find_43 {l : Launch} {D : va_G} {E : Nat → ClassId} {B : Nat → Prop} {n F : Nat} {Q : Option Value → HT → Prop} {T : Nat → Option (Nat × Nat)} {I : Nat → Nat → Int32} {P : Nat → Nat → Option Nat} {x : Nat} {c : Nat} {a : Nat} {g3 : Int32} {g4 : Int32} (hx : isSR T P x) (hs_c : isCt T P c) (hs_a : isSt T P a) (hh : P (x + 219) 5 = some c)  (r : Int32 × (Nat → Nat → Int64)) : ∀ (k : Nat) (l5 : Int32) (J : (Nat → Nat → Int64)), ch_find_43 F x c a g3 g4 k l5 J = some r → V l D E B yX0_find cX0_find 6 none 21 0 0 Q 0 0 (n, T, I, r.2, P) 76 [(0, some (.ref (x + 219))), (1, some (.ref c)), (2, some (.ref a)), (3, some (.int g3)), (4, some (.int g4)), (5, some (.int (r.1)))] [] → V l D E B yX0_find cX0_find 6 none 21 0 0 Q 0 0 (n, T, I, J, P) 43 [(0, some (.ref (x + 219))), (1, some (.ref c)), (2, some (.ref a)), (3, some (.int g3)), (4, some (.int g4)), (5, some (.int l5))] [] := by
  intro k
  induction k with
  | zero =>
    intro l5 J hf hk
    cases hf
  | succ k ih =>
    intro l5 J hf hk
    unfold ch_find_43 at hf
    refine V.iload dX0_find_43 rfl ?_
    refine V.bipush (v := 6) dX0_find_45 (by decide) ?_
    refine V.icmp_gt 76 dX0_find_47 (by decide) (fun c11 => ?_) (fun c11 => ?_)
    · rw [if_pos c11] at hf
      obtain rfl := Option.some.inj hf
      exact V.lo [(0, some (.ref (x + 219))), (1, some (.ref c)), (2, some (.ref a)), (3, some (.int g3)), (4, some (.int g4)), (5, some (.int l5))] (by simp only [Subs]; repeat' first | exact trivial | constructor | rfl) hk
    · rw [if_neg c11] at hf
      refine V.aload_n dX0_find_50 rfl ?_
      refine V.getr fl_X0_22 dX0_find_51 (hx.1 219 (0, 0) rfl) (hx.2.1 219 4 223 rfl) (by decide) rfl ?_
      refine V.iload dX0_find_54 rfl ?_
      refine V.aload_n dX0_find_56 rfl ?_
      refine V.getr fl_X0_22 dX0_find_57 (hx.1 219 (0, 0) rfl) (hx.2.1 219 4 223 rfl) (by decide) rfl ?_
      refine V.iload dX0_find_60 rfl ?_
      refine V.iconst (v := 1) dX0_find_62 (by decide) ?_
      refine V.isub dX0_find_63 ?_
      obtain ⟨hb12, hf⟩ := chk_some hf
      refine V.lald dX0_find_64 (hx.1 223 (22, 7) rfl) hb12 ?_
      refine V.iload dX0_find_65 rfl ?_
      refine V.i2l dX0_find_67 ?_
      refine V.lmul dX0_find_68 ?_
      obtain ⟨hb13, hf⟩ := chk_some hf
      refine V.lastE dX0_find_69 (hx.1 223 (22, 7) rfl) hb13 (fun J14 e15 => ?_)
      rw [← e15] at hf
      try dsimp only at hf
      clear e15
      refine V.iinc (v := (l5 + 1)) dX0_find_70 rfl rfl (by first | exact rfl | exact trivial) ?_
      refine V.goto 43 dX0_find_73 (by decide) ?_
      exact V.lo [(0, some (.ref (x + 219))), (1, some (.ref c)), (2, some (.ref a)), (3, some (.int g3)), (4, some (.int g4)), (5, some (.int (l5 + 1)))] (by simp only [Subs]; repeat' first | exact trivial | constructor | rfl) (ih _ _ hf hk)
theorem c_ch_find {l : Launch} {D : va_G} {E : Nat → ClassId} {B : Nat → Prop} {n F : Nat} {T : Nat → Option (Nat × Nat)} {I : Nat → Nat → Int32} {J : Nat → Nat → Int64} {P : Nat → Nat → Option Nat} {x : Nat} {c : Nat} {a : Nat} {v3 : Int32} {r : (Nat → Nat → Int32) × (Nat → Nat → Int64)} (hx : isSR T P x) (hs_c : isCt T P c) (hs_a : isSt T P a) (hf : ch_find F T I J P x c a v3 = some r) : Ct l D E B yX0_find cX0_find 6 none 21 0 0 [.ref (x + 219), .ref c, .ref a, .int v3] (n, T, I, J, P) (RetP x P (none) n T r.1 r.2) := by
  unfold ch_find at hf
  have hpx : PX x P P := PX.rf
  refine Ct.ofV (by decide) (Nat.le_of_ble_eq_true rfl) ?_
  refine V.aload_n dX0_find_0 rfl ?_
  refine V.aload_n dX0_find_1 rfl ?_
  refine V.putrE fl_X0_29 dX0_find_2 (hx.1 219 (0, 0) rfl) (by decide) (fun h => by cases h) rfl rfl rfl (Nat.le_of_ble_eq_true rfl) (fun P1 e2 => ?_)
  rw [← e2] at hf
  try dsimp only at hf
  have hp_ : PX x P P1 := by rw [e2]; exact PX.a PX.rf
  have hh : P1 (x + 219) 5 = some c := by rw [e2]; exact uP_here
  have hpx := PX.tr hpx hp_
  have hs_c := isCt.px hs_c hx hp_
  have hs_a := isSt.px hs_a hx hp_
  have hx := isSR.px hx hp_
  refine V.aload_n dX0_find_5 rfl ?_
  refine V.getr fl_X0_29 dX0_find_6 (hx.1 219 (0, 0) rfl) hh (by decide) rfl ?_
  obtain ⟨u5, hk4, hf⟩ := bnd_some hf
  try dsimp only at hf
  refine V.inv cv_X0_33 (c_ct_allOdds hs_c hk4) dX0_find_9 (hs_c.1.1 0 (1, 0) rfl) (by decide) rfl rfl rfl (Nat.le_of_ble_eq_true rfl) (by decide) (by decide) (Nat.le_refl _) (Nat.le_refl _) (fun _ _ hq => ?_)
  obtain ⟨rfl, rfl⟩ := hq
  refine V.istore dX0_find_12 (by decide) (by first | exact rfl | exact trivial) ?_
  refine V.aload_n dX0_find_14 rfl ?_
  refine V.iload dX0_find_15 rfl ?_
  refine V.if_ne 24 dX0_find_17 (by decide) (fun c6 => ?_) (fun c6 => ?_)
  · rw [if_neg c6] at hf
    refine V.iload_n dX0_find_24 rfl ?_
    refine V.bipush (v := 6) dX0_find_25 (by decide) ?_
    refine V.ins cs_X0_39 (c_imin) dX0_find_27 rfl rfl (Nat.le_of_ble_eq_true rfl) (by decide) (by decide) (Nat.le_refl _) (Nat.le_refl _) (fun _ _ hq => ?_)
    obtain ⟨rfl, rfl⟩ := hq
    refine V.putiE fl_X0_45 dX0_find_30 (hx.1 219 (0, 0) rfl) (by decide) (fun h => by cases h) rfl rfl rfl (Nat.le_of_ble_eq_true rfl) (fun I7 e8 => ?_)
    rw [← e8] at hf
    try dsimp only at hf
    clear e8
    refine V.aload_n dX0_find_33 rfl ?_
    refine V.getr fl_X0_22 dX0_find_34 (hx.1 219 (0, 0) rfl) (hx.2.1 219 4 223 rfl) (by decide) rfl ?_
    refine V.iconst (v := 0) dX0_find_37 (by decide) ?_
    refine V.lconst (v := 1) dX0_find_38 (by decide) ?_
    refine V.lastE dX0_find_39 (hx.1 223 (22, 7) rfl) (vp_lit (by decide)) (fun J9 e10 => ?_)
    rw [← e10] at hf
    try dsimp only at hf
    clear e10
    refine V.iconst (v := 1) dX0_find_40 (by decide) ?_
    refine V.istore dX0_find_41 (by decide) (by first | exact rfl | exact trivial) ?_
    obtain ⟨⟨m18, J19⟩, hk17, hf⟩ := bnd_some hf
    try dsimp only at hf
    refine V.lo [(0, some (.ref (x + 219))), (1, some (.ref c)), (2, some (.ref a)), (3, some (.int v3)), (4, some (.int u5)), (5, some (.int 1))] (by simp only [Subs]; repeat' first | exact trivial | constructor | rfl) (l_ch_find_43 hx hs_c hs_a hh _ F _ _ hk17 ?_)
    try dsimp only
    refine V.aload_n dX0_find_76 rfl ?_
    refine V.aload_n dX0_find_77 rfl ?_
    refine V.getr fl_X0_22 dX0_find_78 (hx.1 219 (0, 0) rfl) (hx.2.1 219 4 223 rfl) (by decide) rfl ?_
    refine V.aload_n dX0_find_81 rfl ?_
    refine V.getf fl_X0_45 dX0_find_82 (hx.1 219 (0, 0) rfl) (by decide) rfl ?_
    obtain ⟨hb20, hf⟩ := chk_some hf
    refine V.lald dX0_find_85 (hx.1 223 (22, 7) rfl) hb20 ?_
    refine V.putlE fl_X0_49 dX0_find_86 (hx.1 219 (0, 0) rfl) (by decide) (fun h => by cases h) rfl rfl rfl (Nat.le_of_ble_eq_true rfl) (fun J21 e22 => ?_)
    rw [← e22] at hf
    try dsimp only at hf
    clear e22
    refine V.aload_n dX0_find_89 rfl ?_
    refine V.getr fl_X0_18 dX0_find_90 (hx.1 219 (0, 0) rfl) (hx.2.1 219 1 222 rfl) (by decide) rfl ?_
    refine V.lconst (v := 0) dX0_find_93 (by decide) ?_
    obtain ⟨J25, hk24, hf⟩ := bnd_some hf
    try dsimp only at hf
    refine V.ins cs_X0_53 (c_fillJ (lenT_of (hx.1 222 (22, 6) rfl)) hk24) dX0_find_94 rfl rfl (Nat.le_of_ble_eq_true rfl) (by decide) (by decide) (Nat.le_refl _) (Nat.le_refl _) (fun _ _ hq => ?_)
    obtain ⟨rfl, rfl⟩ := hq
    refine V.aload_n dX0_find_97 rfl ?_
    refine V.getr fl_X0_25 dX0_find_98 (hx.1 219 (0, 0) rfl) (hx.2.1 219 3 157 rfl) (by decide) rfl ?_
    refine V.iconst (v := 0) dX0_find_101 (by decide) ?_
    refine V.aald dX0_find_102 (hx.1 157 (25, 8) rfl) (by decide) (vp_lit (by decide)) (hx.arr157 (i := 0) (vp_lit (by decide))) ?_
    refine V.aload_n dX0_find_103 rfl ?_
    obtain ⟨I28, hk27, hf⟩ := bnd_some hf
    try dsimp only at hf
    refine V.inv cv_X0_59 (c_s_copyFrom (hx.ob157 (i := 0) (vp_lit (by decide))) hs_a hk27) dX0_find_104 ((hx.ob157 (i := 0) (vp_lit (by decide))).1 0 (8, 0) rfl) (by decide) rfl rfl rfl (Nat.le_of_ble_eq_true rfl) (by decide) (by decide) (Nat.le_refl _) (Nat.le_refl _) (fun _ _ hq => ?_)
    obtain ⟨rfl, rfl⟩ := hq
    refine V.aload_n dX0_find_107 rfl ?_
    refine V.iconst (v := 0) dX0_find_108 (by decide) ?_
    refine V.lconst (v := 1) dX0_find_109 (by decide) ?_
    obtain ⟨⟨I31, J32⟩, hk30, hf⟩ := bnd_some hf
    try dsimp only at hf
    refine V.inv cv_X0_65 (c_ch_weighB_f hx hs_c hh hk30) dX0_find_110 (hx.1 219 (0, 0) rfl) (by decide) rfl rfl rfl (Nat.le_of_ble_eq_true rfl) (by decide) (by decide) (Nat.le_refl _) (Nat.le_refl _) (fun _ _ hq => ?_)
    obtain ⟨rfl, rfl⟩ := hq
    try dsimp only
    obtain rfl := Option.some.inj hf
    exact V.vret dX0_find_113 rfl (Nat.le_refl _) (Nat.le_refl _) ⟨rfl, _, hpx, rfl⟩
  · rw [if_pos c6] at hf
    refine V.iconst (v := 0) dX0_find_20 (by decide) ?_
    refine V.goto 30 dX0_find_21 (by decide) ?_
    refine V.putiE fl_X0_45 dX0_find_30 (hx.1 219 (0, 0) rfl) (by decide) (fun h => by cases h) rfl rfl rfl (Nat.le_of_ble_eq_true rfl) (fun I33 e34 => ?_)
    rw [← e34] at hf
    try dsimp only at hf
    clear e34
    refine V.aload_n dX0_find_33 rfl ?_
    refine V.getr fl_X0_22 dX0_find_34 (hx.1 219 (0, 0) rfl) (hx.2.1 219 4 223 rfl) (by decide) rfl ?_
    refine V.iconst (v := 0) dX0_find_37 (by decide) ?_
    refine V.lconst (v := 1) dX0_find_38 (by decide) ?_
    refine V.lastE dX0_find_39 (hx.1 223 (22, 7) rfl) (vp_lit (by decide)) (fun J35 e36 => ?_)
    rw [← e36] at hf
    try dsimp only at hf
    clear e36
    refine V.iconst (v := 1) dX0_find_40 (by decide) ?_
    refine V.istore dX0_find_41 (by decide) (by first | exact rfl | exact trivial) ?_
    obtain ⟨⟨m39, J40⟩, hk38, hf⟩ := bnd_some hf
    try dsimp only at hf
    refine V.lo [(0, some (.ref (x + 219))), (1, some (.ref c)), (2, some (.ref a)), (3, some (.int v3)), (4, some (.int u5)), (5, some (.int 1))] (by simp only [Subs]; repeat' first | exact trivial | constructor | rfl) (l_ch_find_43 hx hs_c hs_a hh _ F _ _ hk38 ?_)
    try dsimp only
    refine V.aload_n dX0_find_76 rfl ?_
    refine V.aload_n dX0_find_77 rfl ?_
    refine V.getr fl_X0_22 dX0_find_78 (hx.1 219 (0, 0) rfl) (hx.2.1 219 4 223 rfl) (by decide) rfl ?_
    refine V.aload_n dX0_find_81 rfl ?_
    refine V.getf fl_X0_45 dX0_find_82 (hx.1 219 (0, 0) rfl) (by decide) rfl ?_
    obtain ⟨hb41, hf⟩ := chk_some hf
    refine V.lald dX0_find_85 (hx.1 223 (22, 7) rfl) hb41 ?_
    refine V.putlE fl_X0_49 dX0_find_86 (hx.1 219 (0, 0) rfl) (by decide) (fun h => by cases h) rfl rfl rfl (Nat.le_of_ble_eq_true rfl) (fun J42 e43 => ?_)
    rw [← e43] at hf
    try dsimp only at hf
    clear e43
    refine V.aload_n dX0_find_89 rfl ?_
    refine V.getr fl_X0_18 dX0_find_90 (hx.1 219 (0, 0) rfl) (hx.2.1 219 1 222 rfl) (by decide) rfl ?_
    refine V.lconst (v := 0) dX0_find_93 (by decide) ?_
    obtain ⟨J46, hk45, hf⟩ := bnd_some hf
    try dsimp only at hf
    refine V.ins cs_X0_53 (c_fillJ (lenT_of (hx.1 222 (22, 6) rfl)) hk45) dX0_find_94 rfl rfl (Nat.le_of_ble_eq_true rfl) (by decide) (by decide) (Nat.le_refl _) (Nat.le_refl _) (fun _ _ hq => ?_)
    obtain ⟨rfl, rfl⟩ := hq
    refine V.aload_n dX0_find_97 rfl ?_
    refine V.getr fl_X0_25 dX0_find_98 (hx.1 219 (0, 0) rfl) (hx.2.1 219 3 157 rfl) (by decide) rfl ?_
    refine V.iconst (v := 0) dX0_find_101 (by decide) ?_
    refine V.aald dX0_find_102 (hx.1 157 (25, 8) rfl) (by decide) (vp_lit (by decide)) (hx.arr157 (i := 0) (vp_lit (by decide))) ?_
    refine V.aload_n dX0_find_103 rfl ?_
    obtain ⟨I49, hk48, hf⟩ := bnd_some hf
    try dsimp only at hf
    refine V.inv cv_X0_59 (c_s_copyFrom (hx.ob157 (i := 0) (vp_lit (by decide))) hs_a hk48) dX0_find_104 ((hx.ob157 (i := 0) (vp_lit (by decide))).1 0 (8, 0) rfl) (by decide) rfl rfl rfl (Nat.le_of_ble_eq_true rfl) (by decide) (by decide) (Nat.le_refl _) (Nat.le_refl _) (fun _ _ hq => ?_)
    obtain ⟨rfl, rfl⟩ := hq
    refine V.aload_n dX0_find_107 rfl ?_
    refine V.iconst (v := 0) dX0_find_108 (by decide) ?_
    refine V.lconst (v := 1) dX0_find_109 (by decide) ?_
    obtain ⟨⟨I52, J53⟩, hk51, hf⟩ := bnd_some hf
    try dsimp only at hf
    refine V.inv cv_X0_65 (c_ch_weighB_f hx hs_c hh hk51) dX0_find_110 (hx.1 219 (0, 0) rfl) (by decide) rfl rfl rfl (Nat.le_of_ble_eq_true rfl) (by decide) (by decide) (Nat.le_refl _) (Nat.le_refl _) (fun _ _ hq => ?_)
    obtain ⟨rfl, rfl⟩ := hq
    try dsimp only
    obtain rfl := Option.some.inj hf
    exact V.vret dX0_find_113 rfl (Nat.le_refl _) (Nat.le_refl _) ⟨rfl, _, hpx, rfl⟩
theorem dX11_alone_0 : decode cX11_alone 0 = .ok (.aload_n 0, 1) := by decide +kernel
theorem dX11_alone_1 : decode cX11_alone 1 = .ok (.iload_n 1, 1) := by decide +kernel
theorem dX11_alone_2 : decode cX11_alone 2 = .ok (.invokevirtual 305, 3) := by decide +kernel
theorem dX11_alone_5 : decode cX11_alone 5 = .ok (.istore_n 2, 1) := by decide +kernel
theorem dX11_alone_6 : decode cX11_alone 6 = .ok (.iload_n 2, 1) := by decide +kernel
theorem dX11_alone_7 : decode cX11_alone 7 = .ok (.ifCond .eq 5, 3) := by decide +kernel
theorem dX11_alone_10 : decode cX11_alone 10 = .ok (.iload_n 2, 1) := by decide +kernel
theorem dX11_alone_11 : decode cX11_alone 11 = .ok (.ireturn, 1) := by decide +kernel
theorem dX11_alone_12 : decode cX11_alone 12 = .ok (.aload_n 0, 1) := by decide +kernel
theorem dX11_alone_13 : decode cX11_alone 13 = .ok (.getfield 89, 3) := by decide +kernel
theorem dX11_alone_16 : decode cX11_alone 16 = .ok (.aload_n 0, 1) := by decide +kernel
theorem dX11_alone_17 : decode cX11_alone 17 = .ok (.getfield 23, 3) := by decide +kernel
theorem dX11_alone_20 : decode cX11_alone 20 = .ok (.aload_n 0, 1) := by decide +kernel
theorem dX11_alone_21 : decode cX11_alone 21 = .ok (.getfield 30, 3) := by decide +kernel
theorem dX11_alone_24 : decode cX11_alone 24 = .ok (.aload_n 0, 1) := by decide +kernel
theorem dX11_alone_25 : decode cX11_alone 25 = .ok (.getfield 55, 3) := by decide +kernel
theorem dX11_alone_28 : decode cX11_alone 28 = .ok (.iload_n 1, 1) := by decide +kernel
theorem dX11_alone_29 : decode cX11_alone 29 = .ok (.invokevirtual 308, 3) := by decide +kernel
theorem dX11_alone_32 : decode cX11_alone 32 = .ok (.aload_n 0, 1) := by decide +kernel
theorem dX11_alone_33 : decode cX11_alone 33 = .ok (.getfield 89, 3) := by decide +kernel
theorem dX11_alone_36 : decode cX11_alone 36 = .ok (.getfield 312, 3) := by decide +kernel
theorem dX11_alone_39 : decode cX11_alone 39 = .ok (.ireturn, 1) := by decide +kernel
def x_alone (F : Nat) (T : Nat → Option (Nat × Nat)) (I : Nat → Nat → Int32) (P : Nat → Nat → Option Nat) (x : Nat) (c : Nat) (v1 : Int32) : Option (Int32 × (Nat → Nat → Int32)) := let x1 := (x_codeOfOneUp I x c v1); if x1 = 0 then ((mu_findAlone F T I P x c (x + 12) (I x 9) v1).bind (fun q4 => let I6 := q4; some ((I6 (x + 214) 3), I6))) else (some (x1, I))
theorem c_x_alone {l : Launch} {D : va_G} {E : Nat → ClassId} {B : Nat → Prop} {n F : Nat} {T : Nat → Option (Nat × Nat)} {I : Nat → Nat → Int32} {J : Nat → Nat → Int64} {P : Nat → Nat → Option Nat} {x : Nat} {c : Nat} {v1 : Int32} {r : Int32 × (Nat → Nat → Int32)} (hx : isSR T P x) (hs_c : isCt T P c) (hc : P x 3 = some c) (hf : x_alone F T I P x c v1 = some r) : Ct l D E B yX11_alone cX11_alone 3 (some .int) 23 0 0 [.ref x, .int v1] (n, T, I, J, P) (RetP x P (some (.int r.1)) n T r.2 J) := by
  unfold x_alone at hf
  have hpx : PX x P P := PX.rf
  refine Ct.ofV (by decide) (Nat.le_of_ble_eq_true rfl) ?_
  refine V.aload_n dX11_alone_0 rfl ?_
  refine V.iload_n dX11_alone_1 rfl ?_
  refine V.inv cv_X11_305 (c_x_codeOfOneUp hx hs_c hc) dX11_alone_2 (hx.1 0 (11, 0) rfl) (by decide) rfl rfl rfl (Nat.le_of_ble_eq_true rfl) (by decide) (by decide) (Nat.le_refl _) (Nat.le_refl _) (fun _ _ hq => ?_)
  obtain ⟨rfl, rfl⟩ := hq
  refine V.istore_n dX11_alone_5 rfl (by decide) (by first | exact rfl | exact trivial) ?_
  obtain ⟨x1, e2⟩ : ∃ zz_, zz_ = (x_codeOfOneUp I x c v1) := ⟨_, rfl⟩
  rw [← e2] at hf ⊢
  try dsimp only at hf
  refine V.iload_n dX11_alone_6 rfl ?_
  refine V.if_eq 12 dX11_alone_7 (by decide) (fun c3 => ?_) (fun c3 => ?_)
  · rw [if_pos c3] at hf
    refine V.aload_n dX11_alone_12 rfl ?_
    refine V.getr fl_X11_89 dX11_alone_13 (hx.1 0 (11, 0) rfl) (hx.2.1 0 14 214 rfl) (by decide) rfl ?_
    refine V.aload_n dX11_alone_16 rfl ?_
    refine V.getr fl_X11_23 dX11_alone_17 (hx.1 0 (11, 0) rfl) hc (by decide) rfl ?_
    refine V.aload_n dX11_alone_20 rfl ?_
    refine V.getr fl_X11_30 dX11_alone_21 (hx.1 0 (11, 0) rfl) (hx.2.1 0 4 12 rfl) (by decide) rfl ?_
    refine V.aload_n dX11_alone_24 rfl ?_
    refine V.getf fl_X11_55 dX11_alone_25 (hx.1 0 (11, 0) rfl) (by decide) rfl ?_
    refine V.iload_n dX11_alone_28 rfl ?_
    obtain ⟨I6, hk5, hf⟩ := bnd_some hf
    try dsimp only at hf
    refine V.inv cv_X11_308 (c_mu_findAlone hx hs_c (hx.2.2.1 12 rfl) hk5) dX11_alone_29 (hx.1 214 (4, 0) rfl) (by decide) rfl rfl rfl (Nat.le_of_ble_eq_true rfl) (by decide) (by decide) (Nat.le_refl _) (Nat.le_refl _) (fun _ _ hq => ?_)
    obtain ⟨rfl, P7, hp_, rfl⟩ := hq
    have hpx := PX.tr hpx hp_
    have hs_c := isCt.px hs_c hx hp_
    have hx := isSR.px hx hp_
    have hc := (hp_ x 3 (by omega) (by omega)).trans hc
    refine V.aload_n dX11_alone_32 rfl ?_
    refine V.getr fl_X11_89 dX11_alone_33 (hx.1 0 (11, 0) rfl) (hx.2.1 0 14 214 rfl) (by decide) rfl ?_
    refine V.getf fl_X11_312 dX11_alone_36 (hx.1 214 (4, 0) rfl) (by decide) rfl ?_
    obtain rfl := Option.some.inj hf
    exact V.iret dX11_alone_39 rfl (Nat.le_refl _) (Nat.le_refl _) ⟨rfl, _, hpx, rfl⟩
  · rw [if_neg c3] at hf
    refine V.iload_n dX11_alone_10 rfl ?_
    obtain rfl := Option.some.inj hf
    exact V.iret dX11_alone_11 rfl (Nat.le_refl _) (Nat.le_refl _) ⟨rfl, _, hpx, rfl⟩
theorem dX11_aloneBy_0 : decode cX11_aloneBy 0 = .ok (.aload_n 0, 1) := by decide +kernel
theorem dX11_aloneBy_1 : decode cX11_aloneBy 1 = .ok (.iload_n 1, 1) := by decide +kernel
theorem dX11_aloneBy_2 : decode cX11_aloneBy 2 = .ok (.invokevirtual 305, 3) := by decide +kernel
theorem dX11_aloneBy_5 : decode cX11_aloneBy 5 = .ok (.istore_n 3, 1) := by decide +kernel
theorem dX11_aloneBy_6 : decode cX11_aloneBy 6 = .ok (.iload_n 3, 1) := by decide +kernel
theorem dX11_aloneBy_7 : decode cX11_aloneBy 7 = .ok (.ifCond .eq 5, 3) := by decide +kernel
theorem dX11_aloneBy_10 : decode cX11_aloneBy 10 = .ok (.iload_n 3, 1) := by decide +kernel
theorem dX11_aloneBy_11 : decode cX11_aloneBy 11 = .ok (.ireturn, 1) := by decide +kernel
theorem dX11_aloneBy_12 : decode cX11_aloneBy 12 = .ok (.iload_n 2, 1) := by decide +kernel
theorem dX11_aloneBy_13 : decode cX11_aloneBy 13 = .ok (.ifCond .ge 6, 3) := by decide +kernel
theorem dX11_aloneBy_16 : decode cX11_aloneBy 16 = .ok (.bipush (-3), 2) := by decide +kernel
theorem dX11_aloneBy_18 : decode cX11_aloneBy 18 = .ok (.ireturn, 1) := by decide +kernel
theorem dX11_aloneBy_19 : decode cX11_aloneBy 19 = .ok (.aload_n 0, 1) := by decide +kernel
theorem dX11_aloneBy_20 : decode cX11_aloneBy 20 = .ok (.getfield 89, 3) := by decide +kernel
theorem dX11_aloneBy_23 : decode cX11_aloneBy 23 = .ok (.aload_n 0, 1) := by decide +kernel
theorem dX11_aloneBy_24 : decode cX11_aloneBy 24 = .ok (.getfield 23, 3) := by decide +kernel
theorem dX11_aloneBy_27 : decode cX11_aloneBy 27 = .ok (.aload_n 0, 1) := by decide +kernel
theorem dX11_aloneBy_28 : decode cX11_aloneBy 28 = .ok (.getfield 30, 3) := by decide +kernel
theorem dX11_aloneBy_31 : decode cX11_aloneBy 31 = .ok (.aload_n 0, 1) := by decide +kernel
theorem dX11_aloneBy_32 : decode cX11_aloneBy 32 = .ok (.getfield 55, 3) := by decide +kernel
theorem dX11_aloneBy_35 : decode cX11_aloneBy 35 = .ok (.iload_n 1, 1) := by decide +kernel
theorem dX11_aloneBy_36 : decode cX11_aloneBy 36 = .ok (.invokevirtual 308, 3) := by decide +kernel
theorem dX11_aloneBy_39 : decode cX11_aloneBy 39 = .ok (.aload_n 0, 1) := by decide +kernel
theorem dX11_aloneBy_40 : decode cX11_aloneBy 40 = .ok (.getfield 89, 3) := by decide +kernel
theorem dX11_aloneBy_43 : decode cX11_aloneBy 43 = .ok (.iload_n 2, 1) := by decide +kernel
theorem dX11_aloneBy_44 : decode cX11_aloneBy 44 = .ok (.invokevirtual 313, 3) := by decide +kernel
theorem dX11_aloneBy_47 : decode cX11_aloneBy 47 = .ok (.ireturn, 1) := by decide +kernel
def x_aloneBy (F : Nat) (T : Nat → Option (Nat × Nat)) (I : Nat → Nat → Int32) (P : Nat → Nat → Option Nat) (x : Nat) (c : Nat) (v1 : Int32) (v2 : Int32) : Option (Int32 × (Nat → Nat → Int32)) := let x1 := (x_codeOfOneUp I x c v1); if x1 = 0 then (if 0 ≤ v2 then ((mu_findAlone F T I P x c (x + 12) (I x 9) v1).bind (fun q5 => let I7 := q5; (mu_tuneAt I7 x v2).bind (fun q9 => let u11 := q9; some (u11, I7)))) else (some ((-3), I))) else (some (x1, I))
theorem c_x_aloneBy {l : Launch} {D : va_G} {E : Nat → ClassId} {B : Nat → Prop} {n F : Nat} {T : Nat → Option (Nat × Nat)} {I : Nat → Nat → Int32} {J : Nat → Nat → Int64} {P : Nat → Nat → Option Nat} {x : Nat} {c : Nat} {v1 : Int32} {v2 : Int32} {r : Int32 × (Nat → Nat → Int32)} (hx : isSR T P x) (hs_c : isCt T P c) (hc : P x 3 = some c) (hf : x_aloneBy F T I P x c v1 v2 = some r) : Ct l D E B yX11_aloneBy cX11_aloneBy 4 (some .int) 23 0 0 [.ref x, .int v1, .int v2] (n, T, I, J, P) (RetP x P (some (.int r.1)) n T r.2 J) := by
  unfold x_aloneBy at hf
  have hpx : PX x P P := PX.rf
  refine Ct.ofV (by decide) (Nat.le_of_ble_eq_true rfl) ?_
  refine V.aload_n dX11_aloneBy_0 rfl ?_
  refine V.iload_n dX11_aloneBy_1 rfl ?_
  refine V.inv cv_X11_305 (c_x_codeOfOneUp hx hs_c hc) dX11_aloneBy_2 (hx.1 0 (11, 0) rfl) (by decide) rfl rfl rfl (Nat.le_of_ble_eq_true rfl) (by decide) (by decide) (Nat.le_refl _) (Nat.le_refl _) (fun _ _ hq => ?_)
  obtain ⟨rfl, rfl⟩ := hq
  refine V.istore_n dX11_aloneBy_5 rfl (by decide) (by first | exact rfl | exact trivial) ?_
  obtain ⟨x1, e2⟩ : ∃ zz_, zz_ = (x_codeOfOneUp I x c v1) := ⟨_, rfl⟩
  rw [← e2] at hf ⊢
  try dsimp only at hf
  refine V.iload_n dX11_aloneBy_6 rfl ?_
  refine V.if_eq 12 dX11_aloneBy_7 (by decide) (fun c3 => ?_) (fun c3 => ?_)
  · rw [if_pos c3] at hf
    refine V.iload_n dX11_aloneBy_12 rfl ?_
    refine V.if_ge 19 dX11_aloneBy_13 (by decide) (fun c4 => ?_) (fun c4 => ?_)
    · rw [if_pos c4] at hf
      refine V.aload_n dX11_aloneBy_19 rfl ?_
      refine V.getr fl_X11_89 dX11_aloneBy_20 (hx.1 0 (11, 0) rfl) (hx.2.1 0 14 214 rfl) (by decide) rfl ?_
      refine V.aload_n dX11_aloneBy_23 rfl ?_
      refine V.getr fl_X11_23 dX11_aloneBy_24 (hx.1 0 (11, 0) rfl) hc (by decide) rfl ?_
      refine V.aload_n dX11_aloneBy_27 rfl ?_
      refine V.getr fl_X11_30 dX11_aloneBy_28 (hx.1 0 (11, 0) rfl) (hx.2.1 0 4 12 rfl) (by decide) rfl ?_
      refine V.aload_n dX11_aloneBy_31 rfl ?_
      refine V.getf fl_X11_55 dX11_aloneBy_32 (hx.1 0 (11, 0) rfl) (by decide) rfl ?_
      refine V.iload_n dX11_aloneBy_35 rfl ?_
      obtain ⟨I7, hk6, hf⟩ := bnd_some hf
      try dsimp only at hf
      refine V.inv cv_X11_308 (c_mu_findAlone hx hs_c (hx.2.2.1 12 rfl) hk6) dX11_aloneBy_36 (hx.1 214 (4, 0) rfl) (by decide) rfl rfl rfl (Nat.le_of_ble_eq_true rfl) (by decide) (by decide) (Nat.le_refl _) (Nat.le_refl _) (fun _ _ hq => ?_)
      obtain ⟨rfl, P8, hp_, rfl⟩ := hq
      have hpx := PX.tr hpx hp_
      have hs_c := isCt.px hs_c hx hp_
      have hx := isSR.px hx hp_
      have hc := (hp_ x 3 (by omega) (by omega)).trans hc
      refine V.aload_n dX11_aloneBy_39 rfl ?_
      refine V.getr fl_X11_89 dX11_aloneBy_40 (hx.1 0 (11, 0) rfl) (hx.2.1 0 14 214 rfl) (by decide) rfl ?_
      refine V.iload_n dX11_aloneBy_43 rfl ?_
      obtain ⟨u11, hk10, hf⟩ := bnd_some hf
      try dsimp only at hf
      refine V.inv cv_X11_313 (c_mu_tuneAt hx hk10) dX11_aloneBy_44 (hx.1 214 (4, 0) rfl) (by decide) rfl rfl rfl (Nat.le_of_ble_eq_true rfl) (by decide) (by decide) (Nat.le_refl _) (Nat.le_refl _) (fun _ _ hq => ?_)
      obtain ⟨rfl, rfl⟩ := hq
      obtain rfl := Option.some.inj hf
      exact V.iret dX11_aloneBy_47 rfl (Nat.le_refl _) (Nat.le_refl _) ⟨rfl, _, hpx, rfl⟩
    · rw [if_neg c4] at hf
      refine V.bipush (v := -3) dX11_aloneBy_16 (by decide) ?_
      obtain rfl := Option.some.inj hf
      exact V.iret dX11_aloneBy_18 rfl (Nat.le_refl _) (Nat.le_refl _) ⟨rfl, _, hpx, rfl⟩
  · rw [if_neg c3] at hf
    refine V.iload_n dX11_aloneBy_10 rfl ?_
    obtain rfl := Option.some.inj hf
    exact V.iret dX11_aloneBy_11 rfl (Nat.le_refl _) (Nat.le_refl _) ⟨rfl, _, hpx, rfl⟩
theorem dX11_ways_0 : decode cX11_ways 0 = .ok (.aload_n 0, 1) := by decide +kernel
theorem dX11_ways_1 : decode cX11_ways 1 = .ok (.iload_n 1, 1) := by decide +kernel
theorem dX11_ways_2 : decode cX11_ways 2 = .ok (.invokevirtual 305, 3) := by decide +kernel
theorem dX11_ways_5 : decode cX11_ways 5 = .ok (.istore_n 3, 1) := by decide +kernel
theorem dX11_ways_6 : decode cX11_ways 6 = .ok (.iload_n 3, 1) := by decide +kernel
theorem dX11_ways_7 : decode cX11_ways 7 = .ok (.ifCond .eq 5, 3) := by decide +kernel
theorem dX11_ways_10 : decode cX11_ways 10 = .ok (.iload_n 3, 1) := by decide +kernel
theorem dX11_ways_11 : decode cX11_ways 11 = .ok (.ireturn, 1) := by decide +kernel
theorem dX11_ways_12 : decode cX11_ways 12 = .ok (.iload_n 2, 1) := by decide +kernel
theorem dX11_ways_13 : decode cX11_ways 13 = .ok (.ifCond .lt 9, 3) := by decide +kernel
theorem dX11_ways_16 : decode cX11_ways 16 = .ok (.iload_n 2, 1) := by decide +kernel
theorem dX11_ways_17 : decode cX11_ways 17 = .ok (.bipush 7, 2) := by decide +kernel
theorem dX11_ways_19 : decode cX11_ways 19 = .ok (.if_icmp .le 6, 3) := by decide +kernel
theorem dX11_ways_22 : decode cX11_ways 22 = .ok (.bipush (-3), 2) := by decide +kernel
theorem dX11_ways_24 : decode cX11_ways 24 = .ok (.ireturn, 1) := by decide +kernel
theorem dX11_ways_25 : decode cX11_ways 25 = .ok (.aload_n 0, 1) := by decide +kernel
theorem dX11_ways_26 : decode cX11_ways 26 = .ok (.getfield 89, 3) := by decide +kernel
theorem dX11_ways_29 : decode cX11_ways 29 = .ok (.aload_n 0, 1) := by decide +kernel
theorem dX11_ways_30 : decode cX11_ways 30 = .ok (.getfield 23, 3) := by decide +kernel
theorem dX11_ways_33 : decode cX11_ways 33 = .ok (.aload_n 0, 1) := by decide +kernel
theorem dX11_ways_34 : decode cX11_ways 34 = .ok (.getfield 30, 3) := by decide +kernel
theorem dX11_ways_37 : decode cX11_ways 37 = .ok (.iload_n 1, 1) := by decide +kernel
theorem dX11_ways_38 : decode cX11_ways 38 = .ok (.iload_n 2, 1) := by decide +kernel
theorem dX11_ways_39 : decode cX11_ways 39 = .ok (.invokevirtual 316, 3) := by decide +kernel
theorem dX11_ways_42 : decode cX11_ways 42 = .ok (.ireturn, 1) := by decide +kernel
def x_ways (F : Nat) (T : Nat → Option (Nat × Nat)) (I : Nat → Nat → Int32) (P : Nat → Nat → Option Nat) (x : Nat) (c : Nat) (v1 : Int32) (v2 : Int32) : Option (Int32 × (Nat → Nat → Int32)) := let x1 := (x_codeOfOneUp I x c v1); if x1 = 0 then (if v2 < 0 then (some ((-3), I)) else (if v2 ≤ 7 then ((mu_waysAlone F T I P x c (x + 12) v1 v2).bind (fun q6 => let u8 := q6.1; let I9 := q6.2; some (u8, I9))) else (some ((-3), I)))) else (some (x1, I))
theorem c_x_ways {l : Launch} {D : va_G} {E : Nat → ClassId} {B : Nat → Prop} {n F : Nat} {T : Nat → Option (Nat × Nat)} {I : Nat → Nat → Int32} {J : Nat → Nat → Int64} {P : Nat → Nat → Option Nat} {x : Nat} {c : Nat} {v1 : Int32} {v2 : Int32} {r : Int32 × (Nat → Nat → Int32)} (hx : isSR T P x) (hs_c : isCt T P c) (hc : P x 3 = some c) (hf : x_ways F T I P x c v1 v2 = some r) : Ct l D E B yX11_ways cX11_ways 4 (some .int) 22 0 0 [.ref x, .int v1, .int v2] (n, T, I, J, P) (RetP x P (some (.int r.1)) n T r.2 J) := by
  unfold x_ways at hf
  have hpx : PX x P P := PX.rf
  refine Ct.ofV (by decide) (Nat.le_of_ble_eq_true rfl) ?_
  refine V.aload_n dX11_ways_0 rfl ?_
  refine V.iload_n dX11_ways_1 rfl ?_
  refine V.inv cv_X11_305 (c_x_codeOfOneUp hx hs_c hc) dX11_ways_2 (hx.1 0 (11, 0) rfl) (by decide) rfl rfl rfl (Nat.le_of_ble_eq_true rfl) (by decide) (by decide) (Nat.le_refl _) (Nat.le_refl _) (fun _ _ hq => ?_)
  obtain ⟨rfl, rfl⟩ := hq
  refine V.istore_n dX11_ways_5 rfl (by decide) (by first | exact rfl | exact trivial) ?_
  obtain ⟨x1, e2⟩ : ∃ zz_, zz_ = (x_codeOfOneUp I x c v1) := ⟨_, rfl⟩
  rw [← e2] at hf ⊢
  try dsimp only at hf
  refine V.iload_n dX11_ways_6 rfl ?_
  refine V.if_eq 12 dX11_ways_7 (by decide) (fun c3 => ?_) (fun c3 => ?_)
  · rw [if_pos c3] at hf
    refine V.iload_n dX11_ways_12 rfl ?_
    refine V.if_lt 22 dX11_ways_13 (by decide) (fun c4 => ?_) (fun c4 => ?_)
    · rw [if_pos c4] at hf
      refine V.bipush (v := -3) dX11_ways_22 (by decide) ?_
      obtain rfl := Option.some.inj hf
      exact V.iret dX11_ways_24 rfl (Nat.le_refl _) (Nat.le_refl _) ⟨rfl, _, hpx, rfl⟩
    · rw [if_neg c4] at hf
      refine V.iload_n dX11_ways_16 rfl ?_
      refine V.bipush (v := 7) dX11_ways_17 (by decide) ?_
      refine V.icmp_le 25 dX11_ways_19 (by decide) (fun c5 => ?_) (fun c5 => ?_)
      · rw [if_pos c5] at hf
        refine V.aload_n dX11_ways_25 rfl ?_
        refine V.getr fl_X11_89 dX11_ways_26 (hx.1 0 (11, 0) rfl) (hx.2.1 0 14 214 rfl) (by decide) rfl ?_
        refine V.aload_n dX11_ways_29 rfl ?_
        refine V.getr fl_X11_23 dX11_ways_30 (hx.1 0 (11, 0) rfl) hc (by decide) rfl ?_
        refine V.aload_n dX11_ways_33 rfl ?_
        refine V.getr fl_X11_30 dX11_ways_34 (hx.1 0 (11, 0) rfl) (hx.2.1 0 4 12 rfl) (by decide) rfl ?_
        refine V.iload_n dX11_ways_37 rfl ?_
        refine V.iload_n dX11_ways_38 rfl ?_
        obtain ⟨⟨u8, I9⟩, hk7, hf⟩ := bnd_some hf
        try dsimp only at hf
        refine V.inv cv_X11_316 (c_mu_waysAlone hx hs_c (hx.2.2.1 12 rfl) hk7) dX11_ways_39 (hx.1 214 (4, 0) rfl) (by decide) rfl rfl rfl (Nat.le_of_ble_eq_true rfl) (by decide) (by decide) (Nat.le_refl _) (Nat.le_refl _) (fun _ _ hq => ?_)
        obtain ⟨rfl, P10, hp_, rfl⟩ := hq
        have hpx := PX.tr hpx hp_
        have hs_c := isCt.px hs_c hx hp_
        have hx := isSR.px hx hp_
        have hc := (hp_ x 3 (by omega) (by omega)).trans hc
        try dsimp only
        obtain rfl := Option.some.inj hf
        exact V.iret dX11_ways_42 rfl (Nat.le_refl _) (Nat.le_refl _) ⟨rfl, _, hpx, rfl⟩
      · rw [if_neg c5] at hf
        refine V.bipush (v := -3) dX11_ways_22 (by decide) ?_
        obtain rfl := Option.some.inj hf
        exact V.iret dX11_ways_24 rfl (Nat.le_refl _) (Nat.le_refl _) ⟨rfl, _, hpx, rfl⟩
  · rw [if_neg c3] at hf
    refine V.iload_n dX11_ways_10 rfl ?_
    obtain rfl := Option.some.inj hf
    exact V.iret dX11_ways_11 rfl (Nat.le_refl _) (Nat.le_refl _) ⟨rfl, _, hpx, rfl⟩
theorem dX11_sits_0 : decode cX11_sits 0 = .ok (.aload_n 0, 1) := by decide +kernel
theorem dX11_sits_1 : decode cX11_sits 1 = .ok (.iload_n 1, 1) := by decide +kernel
theorem dX11_sits_2 : decode cX11_sits 2 = .ok (.invokevirtual 320, 3) := by decide +kernel
theorem dX11_sits_5 : decode cX11_sits 5 = .ok (.istore_n 2, 1) := by decide +kernel
theorem dX11_sits_6 : decode cX11_sits 6 = .ok (.iload_n 2, 1) := by decide +kernel
theorem dX11_sits_7 : decode cX11_sits 7 = .ok (.ifCond .eq 5, 3) := by decide +kernel
theorem dX11_sits_10 : decode cX11_sits 10 = .ok (.iload_n 2, 1) := by decide +kernel
theorem dX11_sits_11 : decode cX11_sits 11 = .ok (.ireturn, 1) := by decide +kernel
theorem dX11_sits_12 : decode cX11_sits 12 = .ok (.aload_n 0, 1) := by decide +kernel
theorem dX11_sits_13 : decode cX11_sits 13 = .ok (.getfield 89, 3) := by decide +kernel
theorem dX11_sits_16 : decode cX11_sits 16 = .ok (.aload_n 0, 1) := by decide +kernel
theorem dX11_sits_17 : decode cX11_sits 17 = .ok (.getfield 23, 3) := by decide +kernel
theorem dX11_sits_20 : decode cX11_sits 20 = .ok (.aload_n 0, 1) := by decide +kernel
theorem dX11_sits_21 : decode cX11_sits 21 = .ok (.getfield 30, 3) := by decide +kernel
theorem dX11_sits_24 : decode cX11_sits 24 = .ok (.aload_n 0, 1) := by decide +kernel
theorem dX11_sits_25 : decode cX11_sits 25 = .ok (.getfield 55, 3) := by decide +kernel
theorem dX11_sits_28 : decode cX11_sits 28 = .ok (.aload_n 0, 1) := by decide +kernel
theorem dX11_sits_29 : decode cX11_sits 29 = .ok (.getfield 43, 3) := by decide +kernel
theorem dX11_sits_32 : decode cX11_sits 32 = .ok (.iload_n 1, 1) := by decide +kernel
theorem dX11_sits_33 : decode cX11_sits 33 = .ok (.aaload, 1) := by decide +kernel
theorem dX11_sits_34 : decode cX11_sits 34 = .ok (.iload_n 1, 1) := by decide +kernel
theorem dX11_sits_35 : decode cX11_sits 35 = .ok (.invokevirtual 323, 3) := by decide +kernel
theorem dX11_sits_38 : decode cX11_sits 38 = .ok (.aload_n 0, 1) := by decide +kernel
theorem dX11_sits_39 : decode cX11_sits 39 = .ok (.getfield 89, 3) := by decide +kernel
theorem dX11_sits_42 : decode cX11_sits 42 = .ok (.getfield 312, 3) := by decide +kernel
theorem dX11_sits_45 : decode cX11_sits 45 = .ok (.ireturn, 1) := by decide +kernel
def x_sits (F : Nat) (T : Nat → Option (Nat × Nat)) (I : Nat → Nat → Int32) (J : Nat → Nat → Int64) (P : Nat → Nat → Option Nat) (x : Nat) (c : Nat) (v1 : Int32) : Option (Int32 × (Nat → Nat → Int32)) := (x_codeOfOrder F I J x c v1).bind (fun q1 => let u3 := q1; if u3 = 0 then (chk v1 4 ((mu_findOrder F T I J P x c (x + 12) (x + (135 + 2 * (Int32.toNatClampNeg v1))) (I x 9) v1).bind (fun q6 => let I8 := q6; some ((I8 (x + 214) 3), I8)))) else (some (u3, I)))
theorem c_x_sits {l : Launch} {D : va_G} {E : Nat → ClassId} {B : Nat → Prop} {n F : Nat} {T : Nat → Option (Nat × Nat)} {I : Nat → Nat → Int32} {J : Nat → Nat → Int64} {P : Nat → Nat → Option Nat} {x : Nat} {c : Nat} {v1 : Int32} {r : Int32 × (Nat → Nat → Int32)} (hx : isSR T P x) (hs_c : isCt T P c) (hc : P x 3 = some c) (hf : x_sits F T I J P x c v1 = some r) : Ct l D E B yX11_sits cX11_sits 3 (some .int) 23 0 0 [.ref x, .int v1] (n, T, I, J, P) (RetP x P (some (.int r.1)) n T r.2 J) := by
  unfold x_sits at hf
  have hpx : PX x P P := PX.rf
  refine Ct.ofV (by decide) (Nat.le_of_ble_eq_true rfl) ?_
  refine V.aload_n dX11_sits_0 rfl ?_
  refine V.iload_n dX11_sits_1 rfl ?_
  obtain ⟨u3, hk2, hf⟩ := bnd_some hf
  try dsimp only at hf
  refine V.inv cv_X11_320 (c_x_codeOfOrder hx hs_c hc hk2) dX11_sits_2 (hx.1 0 (11, 0) rfl) (by decide) rfl rfl rfl (Nat.le_of_ble_eq_true rfl) (by decide) (by decide) (Nat.le_refl _) (Nat.le_refl _) (fun _ _ hq => ?_)
  obtain ⟨rfl, rfl⟩ := hq
  refine V.istore_n dX11_sits_5 rfl (by decide) (by first | exact rfl | exact trivial) ?_
  refine V.iload_n dX11_sits_6 rfl ?_
  refine V.if_eq 12 dX11_sits_7 (by decide) (fun c4 => ?_) (fun c4 => ?_)
  · rw [if_pos c4] at hf
    refine V.aload_n dX11_sits_12 rfl ?_
    refine V.getr fl_X11_89 dX11_sits_13 (hx.1 0 (11, 0) rfl) (hx.2.1 0 14 214 rfl) (by decide) rfl ?_
    refine V.aload_n dX11_sits_16 rfl ?_
    refine V.getr fl_X11_23 dX11_sits_17 (hx.1 0 (11, 0) rfl) hc (by decide) rfl ?_
    refine V.aload_n dX11_sits_20 rfl ?_
    refine V.getr fl_X11_30 dX11_sits_21 (hx.1 0 (11, 0) rfl) (hx.2.1 0 4 12 rfl) (by decide) rfl ?_
    refine V.aload_n dX11_sits_24 rfl ?_
    refine V.getf fl_X11_55 dX11_sits_25 (hx.1 0 (11, 0) rfl) (by decide) rfl ?_
    refine V.aload_n dX11_sits_28 rfl ?_
    refine V.getr fl_X11_43 dX11_sits_29 (hx.1 0 (11, 0) rfl) (hx.2.1 0 6 91 rfl) (by decide) rfl ?_
    refine V.iload_n dX11_sits_32 rfl ?_
    obtain ⟨hb5, hf⟩ := chk_some hf
    refine V.aald dX11_sits_33 (hx.1 91 (26, 4) rfl) (by decide) hb5 (hx.arr91 (i := v1) hb5) ?_
    refine V.iload_n dX11_sits_34 rfl ?_
    obtain ⟨I8, hk7, hf⟩ := bnd_some hf
    try dsimp only at hf
    refine V.inv cv_X11_323 (c_mu_findOrder hx hs_c (hx.2.2.1 12 rfl) (hx.ob91 (i := v1) hb5) hk7) dX11_sits_35 (hx.1 214 (4, 0) rfl) (by decide) rfl rfl rfl (Nat.le_of_ble_eq_true rfl) (by decide) (by decide) (Nat.le_refl _) (Nat.le_refl _) (fun _ _ hq => ?_)
    obtain ⟨rfl, P9, hp_, rfl⟩ := hq
    have hpx := PX.tr hpx hp_
    have hs_c := isCt.px hs_c hx hp_
    have hx := isSR.px hx hp_
    have hc := (hp_ x 3 (by omega) (by omega)).trans hc
    refine V.aload_n dX11_sits_38 rfl ?_
    refine V.getr fl_X11_89 dX11_sits_39 (hx.1 0 (11, 0) rfl) (hx.2.1 0 14 214 rfl) (by decide) rfl ?_
    refine V.getf fl_X11_312 dX11_sits_42 (hx.1 214 (4, 0) rfl) (by decide) rfl ?_
    obtain rfl := Option.some.inj hf
    exact V.iret dX11_sits_45 rfl (Nat.le_refl _) (Nat.le_refl _) ⟨rfl, _, hpx, rfl⟩
  · rw [if_neg c4] at hf
    refine V.iload_n dX11_sits_10 rfl ?_
    obtain rfl := Option.some.inj hf
    exact V.iret dX11_sits_11 rfl (Nat.le_refl _) (Nat.le_refl _) ⟨rfl, _, hpx, rfl⟩
theorem dX11_sitsBy_0 : decode cX11_sitsBy 0 = .ok (.aload_n 0, 1) := by decide +kernel
theorem dX11_sitsBy_1 : decode cX11_sitsBy 1 = .ok (.iload_n 1, 1) := by decide +kernel
theorem dX11_sitsBy_2 : decode cX11_sitsBy 2 = .ok (.invokevirtual 320, 3) := by decide +kernel
theorem dX11_sitsBy_5 : decode cX11_sitsBy 5 = .ok (.istore_n 3, 1) := by decide +kernel
theorem dX11_sitsBy_6 : decode cX11_sitsBy 6 = .ok (.iload_n 3, 1) := by decide +kernel
theorem dX11_sitsBy_7 : decode cX11_sitsBy 7 = .ok (.ifCond .eq 5, 3) := by decide +kernel
theorem dX11_sitsBy_10 : decode cX11_sitsBy 10 = .ok (.iload_n 3, 1) := by decide +kernel
theorem dX11_sitsBy_11 : decode cX11_sitsBy 11 = .ok (.ireturn, 1) := by decide +kernel
theorem dX11_sitsBy_12 : decode cX11_sitsBy 12 = .ok (.iload_n 2, 1) := by decide +kernel
theorem dX11_sitsBy_13 : decode cX11_sitsBy 13 = .ok (.ifCond .ge 6, 3) := by decide +kernel
theorem dX11_sitsBy_16 : decode cX11_sitsBy 16 = .ok (.bipush (-3), 2) := by decide +kernel
theorem dX11_sitsBy_18 : decode cX11_sitsBy 18 = .ok (.ireturn, 1) := by decide +kernel
theorem dX11_sitsBy_19 : decode cX11_sitsBy 19 = .ok (.aload_n 0, 1) := by decide +kernel
theorem dX11_sitsBy_20 : decode cX11_sitsBy 20 = .ok (.getfield 89, 3) := by decide +kernel
theorem dX11_sitsBy_23 : decode cX11_sitsBy 23 = .ok (.aload_n 0, 1) := by decide +kernel
theorem dX11_sitsBy_24 : decode cX11_sitsBy 24 = .ok (.getfield 23, 3) := by decide +kernel
theorem dX11_sitsBy_27 : decode cX11_sitsBy 27 = .ok (.aload_n 0, 1) := by decide +kernel
theorem dX11_sitsBy_28 : decode cX11_sitsBy 28 = .ok (.getfield 30, 3) := by decide +kernel
theorem dX11_sitsBy_31 : decode cX11_sitsBy 31 = .ok (.aload_n 0, 1) := by decide +kernel
theorem dX11_sitsBy_32 : decode cX11_sitsBy 32 = .ok (.getfield 55, 3) := by decide +kernel
theorem dX11_sitsBy_35 : decode cX11_sitsBy 35 = .ok (.aload_n 0, 1) := by decide +kernel
theorem dX11_sitsBy_36 : decode cX11_sitsBy 36 = .ok (.getfield 43, 3) := by decide +kernel
theorem dX11_sitsBy_39 : decode cX11_sitsBy 39 = .ok (.iload_n 1, 1) := by decide +kernel
theorem dX11_sitsBy_40 : decode cX11_sitsBy 40 = .ok (.aaload, 1) := by decide +kernel
theorem dX11_sitsBy_41 : decode cX11_sitsBy 41 = .ok (.iload_n 1, 1) := by decide +kernel
theorem dX11_sitsBy_42 : decode cX11_sitsBy 42 = .ok (.invokevirtual 323, 3) := by decide +kernel
theorem dX11_sitsBy_45 : decode cX11_sitsBy 45 = .ok (.aload_n 0, 1) := by decide +kernel
theorem dX11_sitsBy_46 : decode cX11_sitsBy 46 = .ok (.getfield 89, 3) := by decide +kernel
theorem dX11_sitsBy_49 : decode cX11_sitsBy 49 = .ok (.iload_n 2, 1) := by decide +kernel
theorem dX11_sitsBy_50 : decode cX11_sitsBy 50 = .ok (.invokevirtual 313, 3) := by decide +kernel
theorem dX11_sitsBy_53 : decode cX11_sitsBy 53 = .ok (.ireturn, 1) := by decide +kernel
def x_sitsBy (F : Nat) (T : Nat → Option (Nat × Nat)) (I : Nat → Nat → Int32) (J : Nat → Nat → Int64) (P : Nat → Nat → Option Nat) (x : Nat) (c : Nat) (v1 : Int32) (v2 : Int32) : Option (Int32 × (Nat → Nat → Int32)) := (x_codeOfOrder F I J x c v1).bind (fun q1 => let u3 := q1; if u3 = 0 then (if 0 ≤ v2 then (chk v1 4 ((mu_findOrder F T I J P x c (x + 12) (x + (135 + 2 * (Int32.toNatClampNeg v1))) (I x 9) v1).bind (fun q7 => let I9 := q7; (mu_tuneAt I9 x v2).bind (fun q11 => let u13 := q11; some (u13, I9))))) else (some ((-3), I))) else (some (u3, I)))
theorem c_x_sitsBy {l : Launch} {D : va_G} {E : Nat → ClassId} {B : Nat → Prop} {n F : Nat} {T : Nat → Option (Nat × Nat)} {I : Nat → Nat → Int32} {J : Nat → Nat → Int64} {P : Nat → Nat → Option Nat} {x : Nat} {c : Nat} {v1 : Int32} {v2 : Int32} {r : Int32 × (Nat → Nat → Int32)} (hx : isSR T P x) (hs_c : isCt T P c) (hc : P x 3 = some c) (hf : x_sitsBy F T I J P x c v1 v2 = some r) : Ct l D E B yX11_sitsBy cX11_sitsBy 4 (some .int) 23 0 0 [.ref x, .int v1, .int v2] (n, T, I, J, P) (RetP x P (some (.int r.1)) n T r.2 J) := by
  unfold x_sitsBy at hf
  have hpx : PX x P P := PX.rf
  refine Ct.ofV (by decide) (Nat.le_of_ble_eq_true rfl) ?_
  refine V.aload_n dX11_sitsBy_0 rfl ?_
  refine V.iload_n dX11_sitsBy_1 rfl ?_
  obtain ⟨u3, hk2, hf⟩ := bnd_some hf
  try dsimp only at hf
  refine V.inv cv_X11_320 (c_x_codeOfOrder hx hs_c hc hk2) dX11_sitsBy_2 (hx.1 0 (11, 0) rfl) (by decide) rfl rfl rfl (Nat.le_of_ble_eq_true rfl) (by decide) (by decide) (Nat.le_refl _) (Nat.le_refl _) (fun _ _ hq => ?_)
  obtain ⟨rfl, rfl⟩ := hq
  refine V.istore_n dX11_sitsBy_5 rfl (by decide) (by first | exact rfl | exact trivial) ?_
  refine V.iload_n dX11_sitsBy_6 rfl ?_
  refine V.if_eq 12 dX11_sitsBy_7 (by decide) (fun c4 => ?_) (fun c4 => ?_)
  · rw [if_pos c4] at hf
    refine V.iload_n dX11_sitsBy_12 rfl ?_
    refine V.if_ge 19 dX11_sitsBy_13 (by decide) (fun c5 => ?_) (fun c5 => ?_)
    · rw [if_pos c5] at hf
      refine V.aload_n dX11_sitsBy_19 rfl ?_
      refine V.getr fl_X11_89 dX11_sitsBy_20 (hx.1 0 (11, 0) rfl) (hx.2.1 0 14 214 rfl) (by decide) rfl ?_
      refine V.aload_n dX11_sitsBy_23 rfl ?_
      refine V.getr fl_X11_23 dX11_sitsBy_24 (hx.1 0 (11, 0) rfl) hc (by decide) rfl ?_
      refine V.aload_n dX11_sitsBy_27 rfl ?_
      refine V.getr fl_X11_30 dX11_sitsBy_28 (hx.1 0 (11, 0) rfl) (hx.2.1 0 4 12 rfl) (by decide) rfl ?_
      refine V.aload_n dX11_sitsBy_31 rfl ?_
      refine V.getf fl_X11_55 dX11_sitsBy_32 (hx.1 0 (11, 0) rfl) (by decide) rfl ?_
      refine V.aload_n dX11_sitsBy_35 rfl ?_
      refine V.getr fl_X11_43 dX11_sitsBy_36 (hx.1 0 (11, 0) rfl) (hx.2.1 0 6 91 rfl) (by decide) rfl ?_
      refine V.iload_n dX11_sitsBy_39 rfl ?_
      obtain ⟨hb6, hf⟩ := chk_some hf
      refine V.aald dX11_sitsBy_40 (hx.1 91 (26, 4) rfl) (by decide) hb6 (hx.arr91 (i := v1) hb6) ?_
      refine V.iload_n dX11_sitsBy_41 rfl ?_
      obtain ⟨I9, hk8, hf⟩ := bnd_some hf
      try dsimp only at hf
      refine V.inv cv_X11_323 (c_mu_findOrder hx hs_c (hx.2.2.1 12 rfl) (hx.ob91 (i := v1) hb6) hk8) dX11_sitsBy_42 (hx.1 214 (4, 0) rfl) (by decide) rfl rfl rfl (Nat.le_of_ble_eq_true rfl) (by decide) (by decide) (Nat.le_refl _) (Nat.le_refl _) (fun _ _ hq => ?_)
      obtain ⟨rfl, P10, hp_, rfl⟩ := hq
      have hpx := PX.tr hpx hp_
      have hs_c := isCt.px hs_c hx hp_
      have hx := isSR.px hx hp_
      have hc := (hp_ x 3 (by omega) (by omega)).trans hc
      refine V.aload_n dX11_sitsBy_45 rfl ?_
      refine V.getr fl_X11_89 dX11_sitsBy_46 (hx.1 0 (11, 0) rfl) (hx.2.1 0 14 214 rfl) (by decide) rfl ?_
      refine V.iload_n dX11_sitsBy_49 rfl ?_
      obtain ⟨u13, hk12, hf⟩ := bnd_some hf
      try dsimp only at hf
      refine V.inv cv_X11_313 (c_mu_tuneAt hx hk12) dX11_sitsBy_50 (hx.1 214 (4, 0) rfl) (by decide) rfl rfl rfl (Nat.le_of_ble_eq_true rfl) (by decide) (by decide) (Nat.le_refl _) (Nat.le_refl _) (fun _ _ hq => ?_)
      obtain ⟨rfl, rfl⟩ := hq
      obtain rfl := Option.some.inj hf
      exact V.iret dX11_sitsBy_53 rfl (Nat.le_refl _) (Nat.le_refl _) ⟨rfl, _, hpx, rfl⟩
    · rw [if_neg c5] at hf
      refine V.bipush (v := -3) dX11_sitsBy_16 (by decide) ?_
      obtain rfl := Option.some.inj hf
      exact V.iret dX11_sitsBy_18 rfl (Nat.le_refl _) (Nat.le_refl _) ⟨rfl, _, hpx, rfl⟩
  · rw [if_neg c4] at hf
    refine V.iload_n dX11_sitsBy_10 rfl ?_
    obtain rfl := Option.some.inj hf
    exact V.iret dX11_sitsBy_11 rfl (Nat.le_refl _) (Nat.le_refl _) ⟨rfl, _, hpx, rfl⟩
theorem dX11_lists_0 : decode cX11_lists 0 = .ok (.aload_n 0, 1) := by decide +kernel
theorem dX11_lists_1 : decode cX11_lists 1 = .ok (.iload_n 1, 1) := by decide +kernel
theorem dX11_lists_2 : decode cX11_lists 2 = .ok (.invokevirtual 211, 3) := by decide +kernel
theorem dX11_lists_5 : decode cX11_lists 5 = .ok (.ifCond .ne 11, 3) := by decide +kernel
theorem dX11_lists_8 : decode cX11_lists 8 = .ok (.aload_n 0, 1) := by decide +kernel
theorem dX11_lists_9 : decode cX11_lists 9 = .ok (.iload_n 2, 1) := by decide +kernel
theorem dX11_lists_10 : decode cX11_lists 10 = .ok (.invokevirtual 127, 3) := by decide +kernel
theorem dX11_lists_13 : decode cX11_lists 13 = .ok (.ifCond .eq 6, 3) := by decide +kernel
theorem dX11_lists_16 : decode cX11_lists 16 = .ok (.bipush (-2), 2) := by decide +kernel
theorem dX11_lists_18 : decode cX11_lists 18 = .ok (.ireturn, 1) := by decide +kernel
theorem dX11_lists_19 : decode cX11_lists 19 = .ok (.aload_n 0, 1) := by decide +kernel
theorem dX11_lists_20 : decode cX11_lists 20 = .ok (.getfield 43, 3) := by decide +kernel
theorem dX11_lists_23 : decode cX11_lists 23 = .ok (.iload_n 1, 1) := by decide +kernel
theorem dX11_lists_24 : decode cX11_lists 24 = .ok (.aaload, 1) := by decide +kernel
theorem dX11_lists_25 : decode cX11_lists 25 = .ok (.astore_n 3, 1) := by decide +kernel
theorem dX11_lists_26 : decode cX11_lists 26 = .ok (.aload_n 3, 1) := by decide +kernel
theorem dX11_lists_27 : decode cX11_lists 27 = .ok (.invokevirtual 214, 3) := by decide +kernel
theorem dX11_lists_30 : decode cX11_lists 30 = .ok (.ifCond .eq 6, 3) := by decide +kernel
theorem dX11_lists_33 : decode cX11_lists 33 = .ok (.bipush (-6), 2) := by decide +kernel
theorem dX11_lists_35 : decode cX11_lists 35 = .ok (.ireturn, 1) := by decide +kernel
theorem dX11_lists_36 : decode cX11_lists 36 = .ok (.aload_n 0, 1) := by decide +kernel
theorem dX11_lists_37 : decode cX11_lists 37 = .ok (.getfield 30, 3) := by decide +kernel
theorem dX11_lists_40 : decode cX11_lists 40 = .ok (.iload_n 2, 1) := by decide +kernel
theorem dX11_lists_41 : decode cX11_lists 41 = .ok (.invokevirtual 139, 3) := by decide +kernel
theorem dX11_lists_44 : decode cX11_lists 44 = .ok (.ifCond .ne 6, 3) := by decide +kernel
theorem dX11_lists_47 : decode cX11_lists 47 = .ok (.bipush (-5), 2) := by decide +kernel
theorem dX11_lists_49 : decode cX11_lists 49 = .ok (.ireturn, 1) := by decide +kernel
theorem dX11_lists_50 : decode cX11_lists 50 = .ok (.aload_n 0, 1) := by decide +kernel
theorem dX11_lists_51 : decode cX11_lists 51 = .ok (.getfield 89, 3) := by decide +kernel
theorem dX11_lists_54 : decode cX11_lists 54 = .ok (.aload_n 0, 1) := by decide +kernel
theorem dX11_lists_55 : decode cX11_lists 55 = .ok (.getfield 23, 3) := by decide +kernel
theorem dX11_lists_58 : decode cX11_lists 58 = .ok (.aload_n 0, 1) := by decide +kernel
theorem dX11_lists_59 : decode cX11_lists 59 = .ok (.getfield 30, 3) := by decide +kernel
theorem dX11_lists_62 : decode cX11_lists 62 = .ok (.aload_n 0, 1) := by decide +kernel
theorem dX11_lists_63 : decode cX11_lists 63 = .ok (.getfield 55, 3) := by decide +kernel
theorem dX11_lists_66 : decode cX11_lists 66 = .ok (.iload_n 2, 1) := by decide +kernel
theorem dX11_lists_67 : decode cX11_lists 67 = .ok (.invokevirtual 308, 3) := by decide +kernel
theorem dX11_lists_70 : decode cX11_lists 70 = .ok (.aload_n 0, 1) := by decide +kernel
theorem dX11_lists_71 : decode cX11_lists 71 = .ok (.getfield 89, 3) := by decide +kernel
theorem dX11_lists_74 : decode cX11_lists 74 = .ok (.getfield 312, 3) := by decide +kernel
theorem dX11_lists_77 : decode cX11_lists 77 = .ok (.iconst (-1), 1) := by decide +kernel
theorem dX11_lists_78 : decode cX11_lists 78 = .ok (.if_icmp .ne 6, 3) := by decide +kernel
theorem dX11_lists_81 : decode cX11_lists 81 = .ok (.bipush (-5), 2) := by decide +kernel
theorem dX11_lists_83 : decode cX11_lists 83 = .ok (.ireturn, 1) := by decide +kernel
theorem dX11_lists_84 : decode cX11_lists 84 = .ok (.aload_n 0, 1) := by decide +kernel
theorem dX11_lists_85 : decode cX11_lists 85 = .ok (.getfield 89, 3) := by decide +kernel
theorem dX11_lists_88 : decode cX11_lists 88 = .ok (.getfield 312, 3) := by decide +kernel
theorem dX11_lists_91 : decode cX11_lists 91 = .ok (.aload_n 3, 1) := by decide +kernel
theorem dX11_lists_92 : decode cX11_lists 92 = .ok (.getfield 222, 3) := by decide +kernel
theorem dX11_lists_95 : decode cX11_lists 95 = .ok (.invokestatic 268, 3) := by decide +kernel
theorem dX11_lists_98 : decode cX11_lists 98 = .ok (.istore 4, 2) := by decide +kernel
theorem dX11_lists_100 : decode cX11_lists 100 = .ok (.iconst 0, 1) := by decide +kernel
theorem dX11_lists_101 : decode cX11_lists 101 = .ok (.istore 5, 2) := by decide +kernel
theorem dX11_lists_103 : decode cX11_lists 103 = .ok (.iload 5, 2) := by decide +kernel
theorem dX11_lists_105 : decode cX11_lists 105 = .ok (.iload 4, 2) := by decide +kernel
theorem dX11_lists_107 : decode cX11_lists 107 = .ok (.if_icmp .ge 26, 3) := by decide +kernel
theorem dX11_lists_110 : decode cX11_lists 110 = .ok (.aload_n 3, 1) := by decide +kernel
theorem dX11_lists_111 : decode cX11_lists 111 = .ok (.getfield 225, 3) := by decide +kernel
theorem dX11_lists_114 : decode cX11_lists 114 = .ok (.iload 5, 2) := by decide +kernel
theorem dX11_lists_116 : decode cX11_lists 116 = .ok (.aload_n 0, 1) := by decide +kernel
theorem dX11_lists_117 : decode cX11_lists 117 = .ok (.getfield 89, 3) := by decide +kernel
theorem dX11_lists_120 : decode cX11_lists 120 = .ok (.iload 5, 2) := by decide +kernel
theorem dX11_lists_122 : decode cX11_lists 122 = .ok (.invokevirtual 313, 3) := by decide +kernel
theorem dX11_lists_125 : decode cX11_lists 125 = .ok (.i2l, 1) := by decide +kernel
theorem dX11_lists_126 : decode cX11_lists 126 = .ok (.lastore, 1) := by decide +kernel
theorem dX11_lists_127 : decode cX11_lists 127 = .ok (.iinc 5 1, 3) := by decide +kernel
theorem dX11_lists_130 : decode cX11_lists 130 = .ok (.goto (-27), 3) := by decide +kernel
theorem dX11_lists_133 : decode cX11_lists 133 = .ok (.aload_n 0, 1) := by decide +kernel
theorem dX11_lists_134 : decode cX11_lists 134 = .ok (.dup, 1) := by decide +kernel
theorem dX11_lists_135 : decode cX11_lists 135 = .ok (.getfield 55, 3) := by decide +kernel
theorem dX11_lists_138 : decode cX11_lists 138 = .ok (.iconst 1, 1) := by decide +kernel
theorem dX11_lists_139 : decode cX11_lists 139 = .ok (.iadd, 1) := by decide +kernel
theorem dX11_lists_140 : decode cX11_lists 140 = .ok (.putfield 55, 3) := by decide +kernel
theorem dX11_lists_143 : decode cX11_lists 143 = .ok (.iload 4, 2) := by decide +kernel
theorem dX11_lists_145 : decode cX11_lists 145 = .ok (.ireturn, 1) := by decide +kernel
def x_lists_103 (F : Nat) (I : Nat → Nat → Int32) (x : Nat) (c : Nat) (tb3 : Nat) (g1 : Int32) (g2 : Int32) (g4 : Int32) : Nat → Int32 → (Nat → Nat → Int64) → Option (Int32 × (Nat → Nat → Int64))
  | 0, _, _ => none
  | k + 1, l5, J => if g4 ≤ l5 then (some (l5, J)) else ((mu_tuneAt I x l5).bind (fun q14 => let u16 := q14; chk l5 40 (let J18 := uJ J (tb3 + 1) (Int32.toNatClampNeg l5) (Int32.toInt64 u16); x_lists_103 F I x c tb3 g1 g2 g4 k (l5 + 1) J18)))
def x_lists (F : Nat) (T : Nat → Option (Nat × Nat)) (I : Nat → Nat → Int32) (J : Nat → Nat → Int64) (P : Nat → Nat → Option Nat) (x : Nat) (c : Nat) (v1 : Int32) (v2 : Int32) : Option (Int32 × (Nat → Nat → Int32) × (Nat → Nat → Int64)) := if (x_noTray x v1) = 0 then (if (x_noPerson I x c v2) = 0 then (chk v1 4 (if (ty_isMissing I (x + (135 + 2 * (Int32.toNatClampNeg v1)))) = 0 then (if (s_isUp I (x + 12) v2) = 0 then (some ((-5), I, J)) else ((mu_findAlone F T I P x c (x + 12) (I x 9) v2).bind (fun q6 => let I8 := q6; if (I8 (x + 214) 3) = (-1) then (some ((-5), I8, J)) else (let x11 := (imin (I8 (x + 214) 3) (I8 (x + (135 + 2 * (Int32.toNatClampNeg v1))) 1)); (x_lists_103 F I8 x c (x + (135 + 2 * (Int32.toNatClampNeg v1))) v1 v2 x11 F 0 J).bind (fun q20 => let m22 := q20.1; let J23 := q20.2; let I24 := uI I8 x 9 ((I8 x 9) + 1); some (x11, I24, J23)))))) else (some ((-6), I, J)))) else (some ((-2), I, J))) else (some ((-2), I, J))
theorem l_x_lists_103 {l : Launch} {D : va_G} {E : Nat → ClassId} {B : Nat → Prop} {n F : Nat} {Q : Option Value → HT → Prop} {T : Nat → Option (Nat × Nat)} {I : Nat → Nat → Int32} {P : Nat → Nat → Option Nat} {x : Nat} {c : Nat} {tb3 : Nat} {g1 : Int32} {g2 : Int32} {g4 : Int32} (hx : isSR T P x) (hs_c : isCt T P c) (hc : P x 3 = some c) (hs_tb3 : isTy T P tb3)  (r : Int32 × (Nat → Nat → Int64)) : ∀ (k : Nat) (l5 : Int32) (J : (Nat → Nat → Int64)), x_lists_103 F I x c tb3 g1 g2 g4 k l5 J = some r → V l D E B yX11_lists cX11_lists 6 (some .int) 23 0 0 Q 0 0 (n, T, I, r.2, P) 133 [(0, some (.ref x)), (1, some (.int g1)), (2, some (.int g2)), (3, some (.ref tb3)), (4, some (.int g4)), (5, some (.int (r.1)))] [] → V l D E B yX11_lists cX11_lists 6 (some .int) 23 0 0 Q 0 0 (n, T, I, J, P) 103 [(0, some (.ref x)), (1, some (.int g1)), (2, some (.int g2)), (3, some (.ref tb3)), (4, some (.int g4)), (5, some (.int l5))] [] := by
  intro k
  induction k with
  | zero =>
    intro l5 J hf hk
    cases hf
  | succ k ih =>
    intro l5 J hf hk
    unfold x_lists_103 at hf
    refine V.iload dX11_lists_103 rfl ?_
    refine V.iload dX11_lists_105 rfl ?_
    refine V.icmp_ge 133 dX11_lists_107 (by decide) (fun c13 => ?_) (fun c13 => ?_)
    · rw [if_pos c13] at hf
      obtain rfl := Option.some.inj hf
      exact V.lo [(0, some (.ref x)), (1, some (.int g1)), (2, some (.int g2)), (3, some (.ref tb3)), (4, some (.int g4)), (5, some (.int l5))] (by simp only [Subs]; repeat' first | exact trivial | constructor | rfl) hk
    · rw [if_neg c13] at hf
      refine V.aload_n dX11_lists_110 rfl ?_
      refine V.getr fl_X11_225 dX11_lists_111 (hs_tb3.1 0 (9, 0) rfl) (hs_tb3.2 0 0 1 rfl) (by decide) rfl ?_
      refine V.iload dX11_lists_114 rfl ?_
      refine V.aload_n dX11_lists_116 rfl ?_
      refine V.getr fl_X11_89 dX11_lists_117 (hx.1 0 (11, 0) rfl) (hx.2.1 0 14 214 rfl) (by decide) rfl ?_
      refine V.iload dX11_lists_120 rfl ?_
      obtain ⟨u16, hk15, hf⟩ := bnd_some hf
      try dsimp only at hf
      refine V.inv cv_X11_313 (c_mu_tuneAt hx hk15) dX11_lists_122 (hx.1 214 (4, 0) rfl) (by decide) rfl rfl rfl (Nat.le_of_ble_eq_true rfl) (by decide) (by decide) (Nat.le_refl _) (Nat.le_refl _) (fun _ _ hq => ?_)
      obtain ⟨rfl, rfl⟩ := hq
      refine V.i2l dX11_lists_125 ?_
      obtain ⟨hb17, hf⟩ := chk_some hf
      refine V.lastE dX11_lists_126 (hs_tb3.1 1 (22, 40) rfl) hb17 (fun J18 e19 => ?_)
      rw [← e19] at hf
      try dsimp only at hf
      clear e19
      refine V.iinc (v := (l5 + 1)) dX11_lists_127 rfl rfl (by first | exact rfl | exact trivial) ?_
      refine V.goto 103 dX11_lists_130 (by decide) ?_
      exact V.lo [(0, some (.ref x)), (1, some (.int g1)), (2, some (.int g2)), (3, some (.ref tb3)), (4, some (.int g4)), (5, some (.int (l5 + 1)))] (by simp only [Subs]; repeat' first | exact trivial | constructor | rfl) (ih _ _ hf hk)
theorem c_x_lists {l : Launch} {D : va_G} {E : Nat → ClassId} {B : Nat → Prop} {n F : Nat} {T : Nat → Option (Nat × Nat)} {I : Nat → Nat → Int32} {J : Nat → Nat → Int64} {P : Nat → Nat → Option Nat} {x : Nat} {c : Nat} {v1 : Int32} {v2 : Int32} {r : Int32 × (Nat → Nat → Int32) × (Nat → Nat → Int64)} (hx : isSR T P x) (hs_c : isCt T P c) (hc : P x 3 = some c) (hf : x_lists F T I J P x c v1 v2 = some r) : Ct l D E B yX11_lists cX11_lists 6 (some .int) 23 0 0 [.ref x, .int v1, .int v2] (n, T, I, J, P) (RetP x P (some (.int r.1)) n T r.2.1 r.2.2) := by
  unfold x_lists at hf
  have hpx : PX x P P := PX.rf
  refine Ct.ofV (by decide) (Nat.le_of_ble_eq_true rfl) ?_
  refine V.aload_n dX11_lists_0 rfl ?_
  refine V.iload_n dX11_lists_1 rfl ?_
  refine V.inv cv_X11_211 (c_x_noTray hx) dX11_lists_2 (hx.1 0 (11, 0) rfl) (by decide) rfl rfl rfl (Nat.le_of_ble_eq_true rfl) (by decide) (by decide) (Nat.le_refl _) (Nat.le_refl _) (fun _ _ hq => ?_)
  obtain ⟨rfl, rfl⟩ := hq
  refine V.if_ne 16 dX11_lists_5 (by decide) (fun c1 => ?_) (fun c1 => ?_)
  · rw [if_neg c1] at hf
    refine V.bipush (v := -2) dX11_lists_16 (by decide) ?_
    obtain rfl := Option.some.inj hf
    exact V.iret dX11_lists_18 rfl (Nat.le_refl _) (Nat.le_refl _) ⟨rfl, _, hpx, rfl⟩
  · rw [if_pos c1] at hf
    refine V.aload_n dX11_lists_8 rfl ?_
    refine V.iload_n dX11_lists_9 rfl ?_
    refine V.inv cv_X11_127 (c_x_noPerson hx hs_c hc) dX11_lists_10 (hx.1 0 (11, 0) rfl) (by decide) rfl rfl rfl (Nat.le_of_ble_eq_true rfl) (by decide) (by decide) (Nat.le_refl _) (Nat.le_refl _) (fun _ _ hq => ?_)
    obtain ⟨rfl, rfl⟩ := hq
    refine V.if_eq 19 dX11_lists_13 (by decide) (fun c2 => ?_) (fun c2 => ?_)
    · rw [if_pos c2] at hf
      refine V.aload_n dX11_lists_19 rfl ?_
      refine V.getr fl_X11_43 dX11_lists_20 (hx.1 0 (11, 0) rfl) (hx.2.1 0 6 91 rfl) (by decide) rfl ?_
      refine V.iload_n dX11_lists_23 rfl ?_
      obtain ⟨hb3, hf⟩ := chk_some hf
      refine V.aald dX11_lists_24 (hx.1 91 (26, 4) rfl) (by decide) hb3 (hx.arr91 (i := v1) hb3) ?_
      refine V.astore_n dX11_lists_25 rfl (by decide) (by first | exact rfl | exact trivial) ?_
      refine V.aload_n dX11_lists_26 rfl ?_
      refine V.inv cv_X11_214 (c_ty_isMissing (hx.ob91 (i := v1) hb3)) dX11_lists_27 ((hx.ob91 (i := v1) hb3).1 0 (9, 0) rfl) (by decide) rfl rfl rfl (Nat.le_of_ble_eq_true rfl) (by decide) (by decide) (Nat.le_refl _) (Nat.le_refl _) (fun _ _ hq => ?_)
      obtain ⟨rfl, rfl⟩ := hq
      refine V.if_eq 36 dX11_lists_30 (by decide) (fun c4 => ?_) (fun c4 => ?_)
      · rw [if_pos c4] at hf
        refine V.aload_n dX11_lists_36 rfl ?_
        refine V.getr fl_X11_30 dX11_lists_37 (hx.1 0 (11, 0) rfl) (hx.2.1 0 4 12 rfl) (by decide) rfl ?_
        refine V.iload_n dX11_lists_40 rfl ?_
        refine V.inv cv_X11_139 (c_s_isUp (hx.2.2.1 12 rfl)) dX11_lists_41 ((hx.2.2.1 12 rfl).1 0 (8, 0) rfl) (by decide) rfl rfl rfl (Nat.le_of_ble_eq_true rfl) (by decide) (by decide) (Nat.le_refl _) (Nat.le_refl _) (fun _ _ hq => ?_)
        obtain ⟨rfl, rfl⟩ := hq
        refine V.if_ne 50 dX11_lists_44 (by decide) (fun c5 => ?_) (fun c5 => ?_)
        · rw [if_neg c5] at hf
          refine V.aload_n dX11_lists_50 rfl ?_
          refine V.getr fl_X11_89 dX11_lists_51 (hx.1 0 (11, 0) rfl) (hx.2.1 0 14 214 rfl) (by decide) rfl ?_
          refine V.aload_n dX11_lists_54 rfl ?_
          refine V.getr fl_X11_23 dX11_lists_55 (hx.1 0 (11, 0) rfl) hc (by decide) rfl ?_
          refine V.aload_n dX11_lists_58 rfl ?_
          refine V.getr fl_X11_30 dX11_lists_59 (hx.1 0 (11, 0) rfl) (hx.2.1 0 4 12 rfl) (by decide) rfl ?_
          refine V.aload_n dX11_lists_62 rfl ?_
          refine V.getf fl_X11_55 dX11_lists_63 (hx.1 0 (11, 0) rfl) (by decide) rfl ?_
          refine V.iload_n dX11_lists_66 rfl ?_
          obtain ⟨I8, hk7, hf⟩ := bnd_some hf
          try dsimp only at hf
          refine V.inv cv_X11_308 (c_mu_findAlone hx hs_c (hx.2.2.1 12 rfl) hk7) dX11_lists_67 (hx.1 214 (4, 0) rfl) (by decide) rfl rfl rfl (Nat.le_of_ble_eq_true rfl) (by decide) (by decide) (Nat.le_refl _) (Nat.le_refl _) (fun _ _ hq => ?_)
          obtain ⟨rfl, P9, hp_, rfl⟩ := hq
          have hpx := PX.tr hpx hp_
          have hs_c := isCt.px hs_c hx hp_
          have hx := isSR.px hx hp_
          have hc := (hp_ x 3 (by omega) (by omega)).trans hc
          refine V.aload_n dX11_lists_70 rfl ?_
          refine V.getr fl_X11_89 dX11_lists_71 (hx.1 0 (11, 0) rfl) (hx.2.1 0 14 214 rfl) (by decide) rfl ?_
          refine V.getf fl_X11_312 dX11_lists_74 (hx.1 214 (4, 0) rfl) (by decide) rfl ?_
          refine V.iconst (v := -1) dX11_lists_77 (by decide) ?_
          refine V.icmp_ne 84 dX11_lists_78 (by decide) (fun c10 => ?_) (fun c10 => ?_)
          · rw [if_neg c10] at hf
            refine V.aload_n dX11_lists_84 rfl ?_
            refine V.getr fl_X11_89 dX11_lists_85 (hx.1 0 (11, 0) rfl) (hx.2.1 0 14 214 rfl) (by decide) rfl ?_
            refine V.getf fl_X11_312 dX11_lists_88 (hx.1 214 (4, 0) rfl) (by decide) rfl ?_
            refine V.aload_n dX11_lists_91 rfl ?_
            refine V.getf fl_X11_222 dX11_lists_92 ((hx.ob91 (i := v1) hb3).1 0 (9, 0) rfl) (by decide) rfl ?_
            refine V.ins cs_X11_268 (c_imin) dX11_lists_95 rfl rfl (Nat.le_of_ble_eq_true rfl) (by decide) (by decide) (Nat.le_refl _) (Nat.le_refl _) (fun _ _ hq => ?_)
            obtain ⟨rfl, rfl⟩ := hq
            refine V.istore dX11_lists_98 (by decide) (by first | exact rfl | exact trivial) ?_
            obtain ⟨x11, e12⟩ : ∃ zz_, zz_ = (imin (I8 (x + 214) 3) (I8 (x + (135 + 2 * (Int32.toNatClampNeg v1))) 1)) := ⟨_, rfl⟩
            rw [← e12] at hf ⊢
            try dsimp only at hf
            refine V.iconst (v := 0) dX11_lists_100 (by decide) ?_
            refine V.istore dX11_lists_101 (by decide) (by first | exact rfl | exact trivial) ?_
            obtain ⟨⟨m22, J23⟩, hk21, hf⟩ := bnd_some hf
            try dsimp only at hf
            refine V.lo [(0, some (.ref x)), (1, some (.int v1)), (2, some (.int v2)), (3, some (.ref (x + (135 + 2 * (Int32.toNatClampNeg v1))))), (4, some (.int x11)), (5, some (.int 0))] (by simp only [Subs]; repeat' first | exact trivial | constructor | rfl) (l_x_lists_103 hx hs_c hc (hx.ob91 (i := v1) hb3) _ F _ _ hk21 ?_)
            try dsimp only
            refine V.aload_n dX11_lists_133 rfl ?_
            refine V.dup dX11_lists_134 rfl ?_
            refine V.getf fl_X11_55 dX11_lists_135 (hx.1 0 (11, 0) rfl) (by decide) rfl ?_
            refine V.iconst (v := 1) dX11_lists_138 (by decide) ?_
            refine V.iadd dX11_lists_139 ?_
            refine V.putiE fl_X11_55 dX11_lists_140 (hx.1 0 (11, 0) rfl) (by decide) (fun h => by cases h) rfl rfl rfl (Nat.le_of_ble_eq_true rfl) (fun I24 e25 => ?_)
            rw [← e25] at hf
            try dsimp only at hf
            clear e25
            refine V.iload dX11_lists_143 rfl ?_
            obtain rfl := Option.some.inj hf
            exact V.iret dX11_lists_145 rfl (Nat.le_refl _) (Nat.le_refl _) ⟨rfl, _, hpx, rfl⟩
          · rw [if_pos c10] at hf
            refine V.bipush (v := -5) dX11_lists_81 (by decide) ?_
            obtain rfl := Option.some.inj hf
            exact V.iret dX11_lists_83 rfl (Nat.le_refl _) (Nat.le_refl _) ⟨rfl, _, hpx, rfl⟩
        · rw [if_pos c5] at hf
          refine V.bipush (v := -5) dX11_lists_47 (by decide) ?_
          obtain rfl := Option.some.inj hf
          exact V.iret dX11_lists_49 rfl (Nat.le_refl _) (Nat.le_refl _) ⟨rfl, _, hpx, rfl⟩
      · rw [if_neg c4] at hf
        refine V.bipush (v := -6) dX11_lists_33 (by decide) ?_
        obtain rfl := Option.some.inj hf
        exact V.iret dX11_lists_35 rfl (Nat.le_refl _) (Nat.le_refl _) ⟨rfl, _, hpx, rfl⟩
    · rw [if_neg c2] at hf
      refine V.bipush (v := -2) dX11_lists_16 (by decide) ?_
      obtain rfl := Option.some.inj hf
      exact V.iret dX11_lists_18 rfl (Nat.le_refl _) (Nat.le_refl _) ⟨rfl, _, hpx, rfl⟩
theorem dX11_findChances_0 : decode cX11_findChances 0 = .ok (.aload_n 0, 1) := by decide +kernel
theorem dX11_findChances_1 : decode cX11_findChances 1 = .ok (.getfield 96, 3) := by decide +kernel
theorem dX11_findChances_4 : decode cX11_findChances 4 = .ok (.getfield 410, 3) := by decide +kernel
theorem dX11_findChances_7 : decode cX11_findChances 7 = .ok (.aload_n 0, 1) := by decide +kernel
theorem dX11_findChances_8 : decode cX11_findChances 8 = .ok (.getfield 55, 3) := by decide +kernel
theorem dX11_findChances_11 : decode cX11_findChances 11 = .ok (.iload_n 1, 1) := by decide +kernel
theorem dX11_findChances_12 : decode cX11_findChances 12 = .ok (.iconst 0, 1) := by decide +kernel
theorem dX11_findChances_13 : decode cX11_findChances 13 = .ok (.iconst 0, 1) := by decide +kernel
theorem dX11_findChances_14 : decode cX11_findChances 14 = .ok (.iconst 0, 1) := by decide +kernel
theorem dX11_findChances_15 : decode cX11_findChances 15 = .ok (.invokevirtual 340, 3) := by decide +kernel
theorem dX11_findChances_18 : decode cX11_findChances 18 = .ok (.ifCond .ne 19, 3) := by decide +kernel
theorem dX11_findChances_21 : decode cX11_findChances 21 = .ok (.aload_n 0, 1) := by decide +kernel
theorem dX11_findChances_22 : decode cX11_findChances 22 = .ok (.getfield 96, 3) := by decide +kernel
theorem dX11_findChances_25 : decode cX11_findChances 25 = .ok (.aload_n 0, 1) := by decide +kernel
theorem dX11_findChances_26 : decode cX11_findChances 26 = .ok (.getfield 23, 3) := by decide +kernel
theorem dX11_findChances_29 : decode cX11_findChances 29 = .ok (.aload_n 0, 1) := by decide +kernel
theorem dX11_findChances_30 : decode cX11_findChances 30 = .ok (.getfield 30, 3) := by decide +kernel
theorem dX11_findChances_33 : decode cX11_findChances 33 = .ok (.iload_n 1, 1) := by decide +kernel
theorem dX11_findChances_34 : decode cX11_findChances 34 = .ok (.invokevirtual 411, 3) := by decide +kernel
theorem dX11_findChances_37 : decode cX11_findChances 37 = .ok (.return_, 1) := by decide +kernel
def x_findChances (F : Nat) (T : Nat → Option (Nat × Nat)) (I : Nat → Nat → Int32) (J : Nat → Nat → Int64) (P : Nat → Nat → Option Nat) (x : Nat) (c : Nat) (v1 : Int32) : Option ((Nat → Nat → Int32) × (Nat → Nat → Int64)) := (mm_knows I (x + 220) (I x 9) v1 0 0 0).bind (fun q1 => let u3 := q1.1; let I4 := q1.2; if u3 = 0 then ((ch_find F T I4 J P x c (x + 12) v1).bind (fun q6 => let I8 := q6.1; let J9 := q6.2; some (I8, J9))) else (some (I4, J)))
theorem c_x_findChances {l : Launch} {D : va_G} {E : Nat → ClassId} {B : Nat → Prop} {n F : Nat} {T : Nat → Option (Nat × Nat)} {I : Nat → Nat → Int32} {J : Nat → Nat → Int64} {P : Nat → Nat → Option Nat} {x : Nat} {c : Nat} {v1 : Int32} {r : (Nat → Nat → Int32) × (Nat → Nat → Int64)} (hx : isSR T P x) (hs_c : isCt T P c) (hc : P x 3 = some c) (hf : x_findChances F T I J P x c v1 = some r) : Ct l D E B yX11_findChances cX11_findChances 2 none 22 0 0 [.ref x, .int v1] (n, T, I, J, P) (RetP x P (none) n T r.1 r.2) := by
  unfold x_findChances at hf
  have hpx : PX x P P := PX.rf
  refine Ct.ofV (by decide) (Nat.le_of_ble_eq_true rfl) ?_
  refine V.aload_n dX11_findChances_0 rfl ?_
  refine V.getr fl_X11_96 dX11_findChances_1 (hx.1 0 (11, 0) rfl) (hx.2.1 0 15 219 rfl) (by decide) rfl ?_
  refine V.getr fl_X11_410 dX11_findChances_4 (hx.1 219 (0, 0) rfl) (hx.2.1 219 0 220 rfl) (by decide) rfl ?_
  refine V.aload_n dX11_findChances_7 rfl ?_
  refine V.getf fl_X11_55 dX11_findChances_8 (hx.1 0 (11, 0) rfl) (by decide) rfl ?_
  refine V.iload_n dX11_findChances_11 rfl ?_
  refine V.iconst (v := 0) dX11_findChances_12 (by decide) ?_
  refine V.iconst (v := 0) dX11_findChances_13 (by decide) ?_
  refine V.iconst (v := 0) dX11_findChances_14 (by decide) ?_
  obtain ⟨⟨u3, I4⟩, hk2, hf⟩ := bnd_some hf
  try dsimp only at hf
  refine V.inv cv_X11_340 (c_mm_knows (hx.2.2.2.1 220 rfl) hk2) dX11_findChances_15 ((hx.2.2.2.1 220 rfl).1 0 (3, 0) rfl) (by decide) rfl rfl rfl (Nat.le_of_ble_eq_true rfl) (by decide) (by decide) (Nat.le_refl _) (Nat.le_refl _) (fun _ _ hq => ?_)
  obtain ⟨rfl, rfl⟩ := hq
  try dsimp only
  refine V.if_ne 37 dX11_findChances_18 (by decide) (fun c5 => ?_) (fun c5 => ?_)
  · rw [if_neg c5] at hf
    obtain rfl := Option.some.inj hf
    exact V.vret dX11_findChances_37 rfl (Nat.le_refl _) (Nat.le_refl _) ⟨rfl, _, hpx, rfl⟩
  · rw [if_pos c5] at hf
    refine V.aload_n dX11_findChances_21 rfl ?_
    refine V.getr fl_X11_96 dX11_findChances_22 (hx.1 0 (11, 0) rfl) (hx.2.1 0 15 219 rfl) (by decide) rfl ?_
    refine V.aload_n dX11_findChances_25 rfl ?_
    refine V.getr fl_X11_23 dX11_findChances_26 (hx.1 0 (11, 0) rfl) hc (by decide) rfl ?_
    refine V.aload_n dX11_findChances_29 rfl ?_
    refine V.getr fl_X11_30 dX11_findChances_30 (hx.1 0 (11, 0) rfl) (hx.2.1 0 4 12 rfl) (by decide) rfl ?_
    refine V.iload_n dX11_findChances_33 rfl ?_
    obtain ⟨⟨I8, J9⟩, hk7, hf⟩ := bnd_some hf
    try dsimp only at hf
    refine V.inv cv_X11_411 (c_ch_find hx hs_c (hx.2.2.1 12 rfl) hk7) dX11_findChances_34 (hx.1 219 (0, 0) rfl) (by decide) rfl rfl rfl (Nat.le_of_ble_eq_true rfl) (by decide) (by decide) (Nat.le_refl _) (Nat.le_refl _) (fun _ _ hq => ?_)
    obtain ⟨rfl, P10, hp_, rfl⟩ := hq
    have hpx := PX.tr hpx hp_
    have hs_c := isCt.px hs_c hx hp_
    have hx := isSR.px hx hp_
    have hc := (hp_ x 3 (by omega) (by omega)).trans hc
    try dsimp only
    obtain rfl := Option.some.inj hf
    exact V.vret dX11_findChances_37 rfl (Nat.le_refl _) (Nat.le_refl _) ⟨rfl, _, hpx, rfl⟩
theorem dX11_chance_0 : decode cX11_chance 0 = .ok (.aload_n 0, 1) := by decide +kernel
theorem dX11_chance_1 : decode cX11_chance 1 = .ok (.iload_n 1, 1) := by decide +kernel
theorem dX11_chance_2 : decode cX11_chance 2 = .ok (.invokevirtual 127, 3) := by decide +kernel
theorem dX11_chance_5 : decode cX11_chance 5 = .ok (.ifCond .ne 12, 3) := by decide +kernel
theorem dX11_chance_8 : decode cX11_chance 8 = .ok (.iload_n 3, 1) := by decide +kernel
theorem dX11_chance_9 : decode cX11_chance 9 = .ok (.ifCond .lt 8, 3) := by decide +kernel
theorem dX11_chance_12 : decode cX11_chance 12 = .ok (.iload_n 3, 1) := by decide +kernel
theorem dX11_chance_13 : decode cX11_chance 13 = .ok (.iconst 1, 1) := by decide +kernel
theorem dX11_chance_14 : decode cX11_chance 14 = .ok (.if_icmp .le 7, 3) := by decide +kernel
theorem dX11_chance_17 : decode cX11_chance 17 = .ok (.ldc2_w 392, 3) := by decide +kernel
theorem dX11_chance_20 : decode cX11_chance 20 = .ok (.lreturn, 1) := by decide +kernel
theorem dX11_chance_21 : decode cX11_chance 21 = .ok (.iload_n 2, 1) := by decide +kernel
theorem dX11_chance_22 : decode cX11_chance 22 = .ok (.ifCond .lt 9, 3) := by decide +kernel
theorem dX11_chance_25 : decode cX11_chance 25 = .ok (.iload_n 2, 1) := by decide +kernel
theorem dX11_chance_26 : decode cX11_chance 26 = .ok (.bipush 6, 2) := by decide +kernel
theorem dX11_chance_28 : decode cX11_chance 28 = .ok (.if_icmp .le 7, 3) := by decide +kernel
theorem dX11_chance_31 : decode cX11_chance 31 = .ok (.ldc2_w 394, 3) := by decide +kernel
theorem dX11_chance_34 : decode cX11_chance 34 = .ok (.lreturn, 1) := by decide +kernel
theorem dX11_chance_35 : decode cX11_chance 35 = .ok (.aload_n 0, 1) := by decide +kernel
theorem dX11_chance_36 : decode cX11_chance 36 = .ok (.iload_n 2, 1) := by decide +kernel
theorem dX11_chance_37 : decode cX11_chance 37 = .ok (.invokevirtual 396, 3) := by decide +kernel
theorem dX11_chance_40 : decode cX11_chance 40 = .ok (.aload_n 0, 1) := by decide +kernel
theorem dX11_chance_41 : decode cX11_chance 41 = .ok (.getfield 96, 3) := by decide +kernel
theorem dX11_chance_44 : decode cX11_chance 44 = .ok (.getfield 399, 3) := by decide +kernel
theorem dX11_chance_47 : decode cX11_chance 47 = .ok (.iload_n 1, 1) := by decide +kernel
theorem dX11_chance_48 : decode cX11_chance 48 = .ok (.laload, 1) := by decide +kernel
theorem dX11_chance_49 : decode cX11_chance 49 = .ok (.lstore 4, 2) := by decide +kernel
theorem dX11_chance_51 : decode cX11_chance 51 = .ok (.aload_n 0, 1) := by decide +kernel
theorem dX11_chance_52 : decode cX11_chance 52 = .ok (.getfield 96, 3) := by decide +kernel
theorem dX11_chance_55 : decode cX11_chance 55 = .ok (.getfield 402, 3) := by decide +kernel
theorem dX11_chance_58 : decode cX11_chance 58 = .ok (.lstore 6, 2) := by decide +kernel
theorem dX11_chance_60 : decode cX11_chance 60 = .ok (.lload 4, 2) := by decide +kernel
theorem dX11_chance_62 : decode cX11_chance 62 = .ok (.lload 6, 2) := by decide +kernel
theorem dX11_chance_64 : decode cX11_chance 64 = .ok (.invokestatic 406, 3) := by decide +kernel
theorem dX11_chance_67 : decode cX11_chance 67 = .ok (.lstore 8, 2) := by decide +kernel
theorem dX11_chance_69 : decode cX11_chance 69 = .ok (.lload 8, 2) := by decide +kernel
theorem dX11_chance_71 : decode cX11_chance 71 = .ok (.lconst 1, 1) := by decide +kernel
theorem dX11_chance_72 : decode cX11_chance 72 = .ok (.lcmp, 1) := by decide +kernel
theorem dX11_chance_73 : decode cX11_chance 73 = .ok (.ifCond .ge 7, 3) := by decide +kernel
theorem dX11_chance_76 : decode cX11_chance 76 = .ok (.ldc2_w 249, 3) := by decide +kernel
theorem dX11_chance_79 : decode cX11_chance 79 = .ok (.lreturn, 1) := by decide +kernel
theorem dX11_chance_80 : decode cX11_chance 80 = .ok (.iload_n 3, 1) := by decide +kernel
theorem dX11_chance_81 : decode cX11_chance 81 = .ok (.ifCond .ne 11, 3) := by decide +kernel
theorem dX11_chance_84 : decode cX11_chance 84 = .ok (.lload 4, 2) := by decide +kernel
theorem dX11_chance_86 : decode cX11_chance 86 = .ok (.lload 8, 2) := by decide +kernel
theorem dX11_chance_88 : decode cX11_chance 88 = .ok (.ldiv, 1) := by decide +kernel
theorem dX11_chance_89 : decode cX11_chance 89 = .ok (.goto 8, 3) := by decide +kernel
theorem dX11_chance_92 : decode cX11_chance 92 = .ok (.lload 6, 2) := by decide +kernel
theorem dX11_chance_94 : decode cX11_chance 94 = .ok (.lload 8, 2) := by decide +kernel
theorem dX11_chance_96 : decode cX11_chance 96 = .ok (.ldiv, 1) := by decide +kernel
theorem dX11_chance_97 : decode cX11_chance 97 = .ok (.lreturn, 1) := by decide +kernel
def x_chance (F : Nat) (T : Nat → Option (Nat × Nat)) (I : Nat → Nat → Int32) (J : Nat → Nat → Int64) (P : Nat → Nat → Option Nat) (x : Nat) (c : Nat) (v1 : Int32) (v2 : Int32) (v3 : Int32) : Option (Int64 × (Nat → Nat → Int32) × (Nat → Nat → Int64)) := if (x_noPerson I x c v1) = 0 then (if v3 < 0 then (some ((-2), I, J)) else (if v3 ≤ 1 then (if v2 < 0 then (some ((-3), I, J)) else (if v2 ≤ 6 then ((x_findChances F T I J P x c v2).bind (fun q6 => let I8 := q6.1; let J9 := q6.2; chk v1 6 (let x12 := (J9 (x + 222) (Int32.toNatClampNeg v1)); let x14 := (J9 (x + 219) 2); (x_commonDivisor F x12 x14).bind (fun q16 => let u18 := q16; if 0 ≤ (lg_cmp u18 1) then (if v3 = 0 then (nzl u18 (some ((x12 / u18), I8, J9))) else (nzl u18 (some ((x14 / u18), I8, J9)))) else (some ((-1), I8, J9)))))) else (some ((-3), I, J)))) else (some ((-2), I, J)))) else (some ((-2), I, J))
theorem c_x_chance {l : Launch} {D : va_G} {E : Nat → ClassId} {B : Nat → Prop} {n F : Nat} {T : Nat → Option (Nat × Nat)} {I : Nat → Nat → Int32} {J : Nat → Nat → Int64} {P : Nat → Nat → Option Nat} {x : Nat} {c : Nat} {v1 : Int32} {v2 : Int32} {v3 : Int32} {r : Int64 × (Nat → Nat → Int32) × (Nat → Nat → Int64)} (hx : isSR T P x) (hs_c : isCt T P c) (hc : P x 3 = some c) (hf : x_chance F T I J P x c v1 v2 v3 = some r) : Ct l D E B yX11_chance cX11_chance 10 (some .long) 23 0 0 [.ref x, .int v1, .int v2, .int v3] (n, T, I, J, P) (RetP x P (some (.long r.1)) n T r.2.1 r.2.2) := by
  unfold x_chance at hf
  have hpx : PX x P P := PX.rf
  refine Ct.ofV (by decide) (Nat.le_of_ble_eq_true rfl) ?_
  refine V.aload_n dX11_chance_0 rfl ?_
  refine V.iload_n dX11_chance_1 rfl ?_
  refine V.inv cv_X11_127 (c_x_noPerson hx hs_c hc) dX11_chance_2 (hx.1 0 (11, 0) rfl) (by decide) rfl rfl rfl (Nat.le_of_ble_eq_true rfl) (by decide) (by decide) (Nat.le_refl _) (Nat.le_refl _) (fun _ _ hq => ?_)
  obtain ⟨rfl, rfl⟩ := hq
  refine V.if_ne 17 dX11_chance_5 (by decide) (fun c1 => ?_) (fun c1 => ?_)
  · rw [if_neg c1] at hf
    refine V.ldc2 dX11_chance_17 kc_X11_392 ?_
    obtain rfl := Option.some.inj hf
    exact V.lret dX11_chance_20 rfl (Nat.le_refl _) (Nat.le_refl _) ⟨rfl, _, hpx, rfl⟩
  · rw [if_pos c1] at hf
    refine V.iload_n dX11_chance_8 rfl ?_
    refine V.if_lt 17 dX11_chance_9 (by decide) (fun c2 => ?_) (fun c2 => ?_)
    · rw [if_pos c2] at hf
      refine V.ldc2 dX11_chance_17 kc_X11_392 ?_
      obtain rfl := Option.some.inj hf
      exact V.lret dX11_chance_20 rfl (Nat.le_refl _) (Nat.le_refl _) ⟨rfl, _, hpx, rfl⟩
    · rw [if_neg c2] at hf
      refine V.iload_n dX11_chance_12 rfl ?_
      refine V.iconst (v := 1) dX11_chance_13 (by decide) ?_
      refine V.icmp_le 21 dX11_chance_14 (by decide) (fun c3 => ?_) (fun c3 => ?_)
      · rw [if_pos c3] at hf
        refine V.iload_n dX11_chance_21 rfl ?_
        refine V.if_lt 31 dX11_chance_22 (by decide) (fun c4 => ?_) (fun c4 => ?_)
        · rw [if_pos c4] at hf
          refine V.ldc2 dX11_chance_31 kc_X11_394 ?_
          obtain rfl := Option.some.inj hf
          exact V.lret dX11_chance_34 rfl (Nat.le_refl _) (Nat.le_refl _) ⟨rfl, _, hpx, rfl⟩
        · rw [if_neg c4] at hf
          refine V.iload_n dX11_chance_25 rfl ?_
          refine V.bipush (v := 6) dX11_chance_26 (by decide) ?_
          refine V.icmp_le 35 dX11_chance_28 (by decide) (fun c5 => ?_) (fun c5 => ?_)
          · rw [if_pos c5] at hf
            refine V.aload_n dX11_chance_35 rfl ?_
            refine V.iload_n dX11_chance_36 rfl ?_
            obtain ⟨⟨I8, J9⟩, hk7, hf⟩ := bnd_some hf
            try dsimp only at hf
            refine V.inv cv_X11_396 (c_x_findChances hx hs_c hc hk7) dX11_chance_37 (hx.1 0 (11, 0) rfl) (by decide) rfl rfl rfl (Nat.le_of_ble_eq_true rfl) (by decide) (by decide) (Nat.le_refl _) (Nat.le_refl _) (fun _ _ hq => ?_)
            obtain ⟨rfl, P10, hp_, rfl⟩ := hq
            have hpx := PX.tr hpx hp_
            have hs_c := isCt.px hs_c hx hp_
            have hx := isSR.px hx hp_
            have hc := (hp_ x 3 (by omega) (by omega)).trans hc
            try dsimp only
            refine V.aload_n dX11_chance_40 rfl ?_
            refine V.getr fl_X11_96 dX11_chance_41 (hx.1 0 (11, 0) rfl) (hx.2.1 0 15 219 rfl) (by decide) rfl ?_
            refine V.getr fl_X11_399 dX11_chance_44 (hx.1 219 (0, 0) rfl) (hx.2.1 219 1 222 rfl) (by decide) rfl ?_
            refine V.iload_n dX11_chance_47 rfl ?_
            obtain ⟨hb11, hf⟩ := chk_some hf
            refine V.lald dX11_chance_48 (hx.1 222 (22, 6) rfl) hb11 ?_
            refine V.lstore dX11_chance_49 (by decide) (by first | exact rfl | exact trivial) ?_
            obtain ⟨x12, e13⟩ : ∃ zz_, zz_ = (J9 (x + 222) (Int32.toNatClampNeg v1)) := ⟨_, rfl⟩
            rw [← e13] at hf ⊢
            try dsimp only at hf
            refine V.aload_n dX11_chance_51 rfl ?_
            refine V.getr fl_X11_96 dX11_chance_52 (hx.1 0 (11, 0) rfl) (hx.2.1 0 15 219 rfl) (by decide) rfl ?_
            refine V.getf fl_X11_402 dX11_chance_55 (hx.1 219 (0, 0) rfl) (by decide) rfl ?_
            refine V.lstore dX11_chance_58 (by decide) (by first | exact rfl | exact trivial) ?_
            obtain ⟨x14, e15⟩ : ∃ zz_, zz_ = (J9 (x + 219) 2) := ⟨_, rfl⟩
            rw [← e15] at hf ⊢
            try dsimp only at hf
            refine V.lload dX11_chance_60 rfl ?_
            refine V.lload dX11_chance_62 rfl ?_
            obtain ⟨u18, hk17, hf⟩ := bnd_some hf
            try dsimp only at hf
            refine V.ins cs_X11_406 (c_x_commonDivisor hk17) dX11_chance_64 rfl rfl (Nat.le_of_ble_eq_true rfl) (by decide) (by decide) (Nat.le_refl _) (Nat.le_refl _) (fun _ _ hq => ?_)
            obtain ⟨rfl, rfl⟩ := hq
            refine V.lstore dX11_chance_67 (by decide) (by first | exact rfl | exact trivial) ?_
            refine V.lload dX11_chance_69 rfl ?_
            refine V.lconst (v := 1) dX11_chance_71 (by decide) ?_
            refine V.lcmp dX11_chance_72 ?_
            refine V.if_ge 80 dX11_chance_73 (by decide) (fun c19 => ?_) (fun c19 => ?_)
            · rw [if_pos c19] at hf
              refine V.iload_n dX11_chance_80 rfl ?_
              refine V.if_ne 92 dX11_chance_81 (by decide) (fun c20 => ?_) (fun c20 => ?_)
              · rw [if_neg c20] at hf
                refine V.lload dX11_chance_92 rfl ?_
                refine V.lload dX11_chance_94 rfl ?_
                obtain ⟨hz21, hf⟩ := nzl_some hf
                refine V.ldiv dX11_chance_96 hz21 ?_
                obtain rfl := Option.some.inj hf
                exact V.lret dX11_chance_97 rfl (Nat.le_refl _) (Nat.le_refl _) ⟨rfl, _, hpx, rfl⟩
              · rw [if_pos c20] at hf
                refine V.lload dX11_chance_84 rfl ?_
                refine V.lload dX11_chance_86 rfl ?_
                obtain ⟨hz22, hf⟩ := nzl_some hf
                refine V.ldiv dX11_chance_88 hz22 ?_
                refine V.goto 97 dX11_chance_89 (by decide) ?_
                obtain rfl := Option.some.inj hf
                exact V.lret dX11_chance_97 rfl (Nat.le_refl _) (Nat.le_refl _) ⟨rfl, _, hpx, rfl⟩
            · rw [if_neg c19] at hf
              refine V.ldc2 dX11_chance_76 kc_X11_249 ?_
              obtain rfl := Option.some.inj hf
              exact V.lret dX11_chance_79 rfl (Nat.le_refl _) (Nat.le_refl _) ⟨rfl, _, hpx, rfl⟩
          · rw [if_neg c5] at hf
            refine V.ldc2 dX11_chance_31 kc_X11_394 ?_
            obtain rfl := Option.some.inj hf
            exact V.lret dX11_chance_34 rfl (Nat.le_refl _) (Nat.le_refl _) ⟨rfl, _, hpx, rfl⟩
      · rw [if_neg c3] at hf
        refine V.ldc2 dX11_chance_17 kc_X11_392 ?_
        obtain rfl := Option.some.inj hf
        exact V.lret dX11_chance_20 rfl (Nat.le_refl _) (Nat.le_refl _) ⟨rfl, _, hpx, rfl⟩
theorem dX11_chancellor_0 : decode cX11_chancellor 0 = .ok (.iload_n 1, 1) := by decide +kernel
theorem dX11_chancellor_1 : decode cX11_chancellor 1 = .ok (.ifCond .lt 9, 3) := by decide +kernel
theorem dX11_chancellor_4 : decode cX11_chancellor 4 = .ok (.iload_n 1, 1) := by decide +kernel
theorem dX11_chancellor_5 : decode cX11_chancellor 5 = .ok (.bipush 6, 2) := by decide +kernel
theorem dX11_chancellor_7 : decode cX11_chancellor 7 = .ok (.if_icmp .le 6, 3) := by decide +kernel
theorem dX11_chancellor_10 : decode cX11_chancellor 10 = .ok (.bipush (-3), 2) := by decide +kernel
theorem dX11_chancellor_12 : decode cX11_chancellor 12 = .ok (.ireturn, 1) := by decide +kernel
theorem dX11_chancellor_13 : decode cX11_chancellor 13 = .ok (.aload_n 0, 1) := by decide +kernel
theorem dX11_chancellor_14 : decode cX11_chancellor 14 = .ok (.getfield 23, 3) := by decide +kernel
theorem dX11_chancellor_17 : decode cX11_chancellor 17 = .ok (.getfield 168, 3) := by decide +kernel
theorem dX11_chancellor_20 : decode cX11_chancellor 20 = .ok (.ifCond .ne 5, 3) := by decide +kernel
theorem dX11_chancellor_23 : decode cX11_chancellor 23 = .ok (.iconst (-1), 1) := by decide +kernel
theorem dX11_chancellor_24 : decode cX11_chancellor 24 = .ok (.ireturn, 1) := by decide +kernel
theorem dX11_chancellor_25 : decode cX11_chancellor 25 = .ok (.aload_n 0, 1) := by decide +kernel
theorem dX11_chancellor_26 : decode cX11_chancellor 26 = .ok (.iload_n 1, 1) := by decide +kernel
theorem dX11_chancellor_27 : decode cX11_chancellor 27 = .ok (.invokevirtual 396, 3) := by decide +kernel
theorem dX11_chancellor_30 : decode cX11_chancellor 30 = .ok (.iconst 0, 1) := by decide +kernel
theorem dX11_chancellor_31 : decode cX11_chancellor 31 = .ok (.istore_n 2, 1) := by decide +kernel
theorem dX11_chancellor_32 : decode cX11_chancellor 32 = .ok (.iconst 1, 1) := by decide +kernel
theorem dX11_chancellor_33 : decode cX11_chancellor 33 = .ok (.istore_n 3, 1) := by decide +kernel
theorem dX11_chancellor_34 : decode cX11_chancellor 34 = .ok (.iload_n 3, 1) := by decide +kernel
theorem dX11_chancellor_35 : decode cX11_chancellor 35 = .ok (.aload_n 0, 1) := by decide +kernel
theorem dX11_chancellor_36 : decode cX11_chancellor 36 = .ok (.getfield 23, 3) := by decide +kernel
theorem dX11_chancellor_39 : decode cX11_chancellor 39 = .ok (.getfield 168, 3) := by decide +kernel
theorem dX11_chancellor_42 : decode cX11_chancellor 42 = .ok (.if_icmp .ge 33, 3) := by decide +kernel
theorem dX11_chancellor_45 : decode cX11_chancellor 45 = .ok (.aload_n 0, 1) := by decide +kernel
theorem dX11_chancellor_46 : decode cX11_chancellor 46 = .ok (.getfield 96, 3) := by decide +kernel
theorem dX11_chancellor_49 : decode cX11_chancellor 49 = .ok (.getfield 399, 3) := by decide +kernel
theorem dX11_chancellor_52 : decode cX11_chancellor 52 = .ok (.iload_n 3, 1) := by decide +kernel
theorem dX11_chancellor_53 : decode cX11_chancellor 53 = .ok (.laload, 1) := by decide +kernel
theorem dX11_chancellor_54 : decode cX11_chancellor 54 = .ok (.aload_n 0, 1) := by decide +kernel
theorem dX11_chancellor_55 : decode cX11_chancellor 55 = .ok (.getfield 96, 3) := by decide +kernel
theorem dX11_chancellor_58 : decode cX11_chancellor 58 = .ok (.getfield 399, 3) := by decide +kernel
theorem dX11_chancellor_61 : decode cX11_chancellor 61 = .ok (.iload_n 2, 1) := by decide +kernel
theorem dX11_chancellor_62 : decode cX11_chancellor 62 = .ok (.laload, 1) := by decide +kernel
theorem dX11_chancellor_63 : decode cX11_chancellor 63 = .ok (.lcmp, 1) := by decide +kernel
theorem dX11_chancellor_64 : decode cX11_chancellor 64 = .ok (.ifCond .le 5, 3) := by decide +kernel
theorem dX11_chancellor_67 : decode cX11_chancellor 67 = .ok (.iload_n 3, 1) := by decide +kernel
theorem dX11_chancellor_68 : decode cX11_chancellor 68 = .ok (.istore_n 2, 1) := by decide +kernel
theorem dX11_chancellor_69 : decode cX11_chancellor 69 = .ok (.iinc 3 1, 3) := by decide +kernel
theorem dX11_chancellor_72 : decode cX11_chancellor 72 = .ok (.goto (-38), 3) := by decide +kernel
theorem dX11_chancellor_75 : decode cX11_chancellor 75 = .ok (.iload_n 2, 1) := by decide +kernel
theorem dX11_chancellor_76 : decode cX11_chancellor 76 = .ok (.ireturn, 1) := by decide +kernel
def x_chancellor_34 (F : Nat) (I : Nat → Nat → Int32) (J : Nat → Nat → Int64) (x : Nat) (c : Nat) (g1 : Int32) : Nat → Int32 → Int32 → Option (Int32 × Int32)
  | 0, _, _ => none
  | k + 1, l2, l3 => if (I c 0) ≤ l3 then (some (l2, l3)) else (chk l3 6 (chk l2 6 (if (lg_cmp (J (x + 222) (Int32.toNatClampNeg l3)) (J (x + 222) (Int32.toNatClampNeg l2))) ≤ 0 then (x_chancellor_34 F I J x c g1 k l2 (l3 + 1)) else (x_chancellor_34 F I J x c g1 k l3 (l3 + 1)))))
def x_chancellor (F : Nat) (T : Nat → Option (Nat × Nat)) (I : Nat → Nat → Int32) (J : Nat → Nat → Int64) (P : Nat → Nat → Option Nat) (x : Nat) (c : Nat) (v1 : Int32) : Option (Int32 × (Nat → Nat → Int32) × (Nat → Nat → Int64)) := if v1 < 0 then (some ((-3), I, J)) else (if v1 ≤ 6 then (if (I c 0) = 0 then (some ((-1), I, J)) else ((x_findChances F T I J P x c v1).bind (fun q4 => let I6 := q4.1; let J7 := q4.2; (x_chancellor_34 F I6 J7 x c v1 F 0 1).bind (fun q13 => let m15 := q13.1; let m16 := q13.2; some (m15, I6, J7))))) else (some ((-3), I, J)))
theorem l_x_chancellor_34 {l : Launch} {D : va_G} {E : Nat → ClassId} {B : Nat → Prop} {n F : Nat} {Q : Option Value → HT → Prop} {T : Nat → Option (Nat × Nat)} {I : Nat → Nat → Int32} {J : Nat → Nat → Int64} {P : Nat → Nat → Option Nat} {x : Nat} {c : Nat} {g1 : Int32} (hx : isSR T P x) (hs_c : isCt T P c) (hc : P x 3 = some c)  (r : Int32 × Int32) : ∀ (k : Nat) (l2 : Int32) (l3 : Int32), x_chancellor_34 F I J x c g1 k l2 l3 = some r → V l D E B yX11_chancellor cX11_chancellor 4 (some .int) 23 0 0 Q 0 0 (n, T, I, J, P) 75 [(0, some (.ref x)), (1, some (.int g1)), (2, some (.int (r.1))), (3, some (.int (r.2)))] [] → V l D E B yX11_chancellor cX11_chancellor 4 (some .int) 23 0 0 Q 0 0 (n, T, I, J, P) 34 [(0, some (.ref x)), (1, some (.int g1)), (2, some (.int l2)), (3, some (.int l3))] [] := by
  intro k
  induction k with
  | zero =>
    intro l2 l3 hf hk
    cases hf
  | succ k ih =>
    intro l2 l3 hf hk
    unfold x_chancellor_34 at hf
    refine V.iload_n dX11_chancellor_34 rfl ?_
    refine V.aload_n dX11_chancellor_35 rfl ?_
    refine V.getr fl_X11_23 dX11_chancellor_36 (hx.1 0 (11, 0) rfl) hc (by decide) rfl ?_
    refine V.getf fl_X11_168 dX11_chancellor_39 (hs_c.1.1 0 (1, 0) rfl) (by decide) rfl ?_
    refine V.icmp_ge 75 dX11_chancellor_42 (by decide) (fun c9 => ?_) (fun c9 => ?_)
    · rw [if_pos c9] at hf
      obtain rfl := Option.some.inj hf
      exact V.lo [(0, some (.ref x)), (1, some (.int g1)), (2, some (.int l2)), (3, some (.int l3))] (by simp only [Subs]; repeat' first | exact trivial | constructor | rfl) hk
    · rw [if_neg c9] at hf
      refine V.aload_n dX11_chancellor_45 rfl ?_
      refine V.getr fl_X11_96 dX11_chancellor_46 (hx.1 0 (11, 0) rfl) (hx.2.1 0 15 219 rfl) (by decide) rfl ?_
      refine V.getr fl_X11_399 dX11_chancellor_49 (hx.1 219 (0, 0) rfl) (hx.2.1 219 1 222 rfl) (by decide) rfl ?_
      refine V.iload_n dX11_chancellor_52 rfl ?_
      obtain ⟨hb10, hf⟩ := chk_some hf
      refine V.lald dX11_chancellor_53 (hx.1 222 (22, 6) rfl) hb10 ?_
      refine V.aload_n dX11_chancellor_54 rfl ?_
      refine V.getr fl_X11_96 dX11_chancellor_55 (hx.1 0 (11, 0) rfl) (hx.2.1 0 15 219 rfl) (by decide) rfl ?_
      refine V.getr fl_X11_399 dX11_chancellor_58 (hx.1 219 (0, 0) rfl) (hx.2.1 219 1 222 rfl) (by decide) rfl ?_
      refine V.iload_n dX11_chancellor_61 rfl ?_
      obtain ⟨hb11, hf⟩ := chk_some hf
      refine V.lald dX11_chancellor_62 (hx.1 222 (22, 6) rfl) hb11 ?_
      refine V.lcmp dX11_chancellor_63 ?_
      refine V.if_le 69 dX11_chancellor_64 (by decide) (fun c12 => ?_) (fun c12 => ?_)
      · rw [if_pos c12] at hf
        refine V.iinc (v := (l3 + 1)) dX11_chancellor_69 rfl rfl (by first | exact rfl | exact trivial) ?_
        refine V.goto 34 dX11_chancellor_72 (by decide) ?_
        exact V.lo [(0, some (.ref x)), (1, some (.int g1)), (2, some (.int l2)), (3, some (.int (l3 + 1)))] (by simp only [Subs]; repeat' first | exact trivial | constructor | rfl) (ih _ _ hf hk)
      · rw [if_neg c12] at hf
        refine V.iload_n dX11_chancellor_67 rfl ?_
        refine V.istore_n dX11_chancellor_68 rfl (by decide) (by first | exact rfl | exact trivial) ?_
        refine V.iinc (v := (l3 + 1)) dX11_chancellor_69 rfl rfl (by first | exact rfl | exact trivial) ?_
        refine V.goto 34 dX11_chancellor_72 (by decide) ?_
        exact V.lo [(0, some (.ref x)), (1, some (.int g1)), (2, some (.int l3)), (3, some (.int (l3 + 1)))] (by simp only [Subs]; repeat' first | exact trivial | constructor | rfl) (ih _ _ hf hk)
theorem c_x_chancellor {l : Launch} {D : va_G} {E : Nat → ClassId} {B : Nat → Prop} {n F : Nat} {T : Nat → Option (Nat × Nat)} {I : Nat → Nat → Int32} {J : Nat → Nat → Int64} {P : Nat → Nat → Option Nat} {x : Nat} {c : Nat} {v1 : Int32} {r : Int32 × (Nat → Nat → Int32) × (Nat → Nat → Int64)} (hx : isSR T P x) (hs_c : isCt T P c) (hc : P x 3 = some c) (hf : x_chancellor F T I J P x c v1 = some r) : Ct l D E B yX11_chancellor cX11_chancellor 4 (some .int) 23 0 0 [.ref x, .int v1] (n, T, I, J, P) (RetP x P (some (.int r.1)) n T r.2.1 r.2.2) := by
  unfold x_chancellor at hf
  have hpx : PX x P P := PX.rf
  refine Ct.ofV (by decide) (Nat.le_of_ble_eq_true rfl) ?_
  refine V.iload_n dX11_chancellor_0 rfl ?_
  refine V.if_lt 10 dX11_chancellor_1 (by decide) (fun c1 => ?_) (fun c1 => ?_)
  · rw [if_pos c1] at hf
    refine V.bipush (v := -3) dX11_chancellor_10 (by decide) ?_
    obtain rfl := Option.some.inj hf
    exact V.iret dX11_chancellor_12 rfl (Nat.le_refl _) (Nat.le_refl _) ⟨rfl, _, hpx, rfl⟩
  · rw [if_neg c1] at hf
    refine V.iload_n dX11_chancellor_4 rfl ?_
    refine V.bipush (v := 6) dX11_chancellor_5 (by decide) ?_
    refine V.icmp_le 13 dX11_chancellor_7 (by decide) (fun c2 => ?_) (fun c2 => ?_)
    · rw [if_pos c2] at hf
      refine V.aload_n dX11_chancellor_13 rfl ?_
      refine V.getr fl_X11_23 dX11_chancellor_14 (hx.1 0 (11, 0) rfl) hc (by decide) rfl ?_
      refine V.getf fl_X11_168 dX11_chancellor_17 (hs_c.1.1 0 (1, 0) rfl) (by decide) rfl ?_
      refine V.if_ne 25 dX11_chancellor_20 (by decide) (fun c3 => ?_) (fun c3 => ?_)
      · rw [if_neg c3] at hf
        refine V.aload_n dX11_chancellor_25 rfl ?_
        refine V.iload_n dX11_chancellor_26 rfl ?_
        obtain ⟨⟨I6, J7⟩, hk5, hf⟩ := bnd_some hf
        try dsimp only at hf
        refine V.inv cv_X11_396 (c_x_findChances hx hs_c hc hk5) dX11_chancellor_27 (hx.1 0 (11, 0) rfl) (by decide) rfl rfl rfl (Nat.le_of_ble_eq_true rfl) (by decide) (by decide) (Nat.le_refl _) (Nat.le_refl _) (fun _ _ hq => ?_)
        obtain ⟨rfl, P8, hp_, rfl⟩ := hq
        have hpx := PX.tr hpx hp_
        have hs_c := isCt.px hs_c hx hp_
        have hx := isSR.px hx hp_
        have hc := (hp_ x 3 (by omega) (by omega)).trans hc
        try dsimp only
        refine V.iconst (v := 0) dX11_chancellor_30 (by decide) ?_
        refine V.istore_n dX11_chancellor_31 rfl (by decide) (by first | exact rfl | exact trivial) ?_
        refine V.iconst (v := 1) dX11_chancellor_32 (by decide) ?_
        refine V.istore_n dX11_chancellor_33 rfl (by decide) (by first | exact rfl | exact trivial) ?_
        obtain ⟨⟨m15, m16⟩, hk14, hf⟩ := bnd_some hf
        try dsimp only at hf
        refine V.lo [(0, some (.ref x)), (1, some (.int v1)), (2, some (.int 0)), (3, some (.int 1))] (by simp only [Subs]; repeat' first | exact trivial | constructor | rfl) (l_x_chancellor_34 hx hs_c hc _ F _ _ hk14 ?_)
        try dsimp only
        refine V.iload_n dX11_chancellor_75 rfl ?_
        obtain rfl := Option.some.inj hf
        exact V.iret dX11_chancellor_76 rfl (Nat.le_refl _) (Nat.le_refl _) ⟨rfl, _, hpx, rfl⟩
      · rw [if_pos c3] at hf
        refine V.iconst (v := -1) dX11_chancellor_23 (by decide) ?_
        obtain rfl := Option.some.inj hf
        exact V.iret dX11_chancellor_24 rfl (Nat.le_refl _) (Nat.le_refl _) ⟨rfl, _, hpx, rfl⟩
    · rw [if_neg c2] at hf
      refine V.bipush (v := -3) dX11_chancellor_10 (by decide) ?_
      obtain rfl := Option.some.inj hf
      exact V.iret dX11_chancellor_12 rfl (Nat.le_refl _) (Nat.le_refl _) ⟨rfl, _, hpx, rfl⟩
