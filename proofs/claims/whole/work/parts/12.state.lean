theorem dX8_isUp_0 : decode cX8_isUp 0 = .ok (.aload_n 0, 1) := by decide +kernel
theorem dX8_isUp_1 : decode cX8_isUp 1 = .ok (.getfield 34, 3) := by decide +kernel
theorem dX8_isUp_4 : decode cX8_isUp 4 = .ok (.iload_n 1, 1) := by decide +kernel
theorem dX8_isUp_5 : decode cX8_isUp 5 = .ok (.ishr, 1) := by decide +kernel
theorem dX8_isUp_6 : decode cX8_isUp 6 = .ok (.iconst 1, 1) := by decide +kernel
theorem dX8_isUp_7 : decode cX8_isUp 7 = .ok (.iand, 1) := by decide +kernel
theorem dX8_isUp_8 : decode cX8_isUp 8 = .ok (.ifCond .eq 7, 3) := by decide +kernel
theorem dX8_isUp_11 : decode cX8_isUp 11 = .ok (.iconst 1, 1) := by decide +kernel
theorem dX8_isUp_12 : decode cX8_isUp 12 = .ok (.goto 4, 3) := by decide +kernel
theorem dX8_isUp_15 : decode cX8_isUp 15 = .ok (.iconst 0, 1) := by decide +kernel
theorem dX8_isUp_16 : decode cX8_isUp 16 = .ok (.ireturn, 1) := by decide +kernel
def s_isUp (I : Nat → Nat → Int32) (a : Nat) (v1 : Int32) : Int32 := if (((I a 1) >>> (v1 &&& 31)) &&& 1) = 0 then (0) else (1)
theorem c_s_isUp {l : Launch} {D : va_G} {E : Nat → ClassId} {B : Nat → Prop} {n : Nat} {T : Nat → Option (Nat × Nat)} {I : Nat → Nat → Int32} {J : Nat → Nat → Int64} {P : Nat → Nat → Option Nat} {a : Nat} {v1 : Int32} (hs_a : isSt T P a) : Ct l D E B yX8_isUp cX8_isUp 2 (some .boolean) 0 0 0 [.ref a, .int v1] (n, T, I, J, P) (Ret (some (.int (s_isUp I a v1))) (n, T, I, J, P)) := by
  obtain ⟨r, hf⟩ : ∃ r, s_isUp I a v1 = r := ⟨_, rfl⟩
  rw [hf]
  unfold s_isUp at hf
  refine Ct.ofV (by decide) (Nat.le_of_ble_eq_true rfl) ?_
  refine V.aload_n dX8_isUp_0 rfl ?_
  refine V.getf fl_X8_34 dX8_isUp_1 (hs_a.1 0 (8, 0) rfl) (by decide) rfl ?_
  refine V.iload_n dX8_isUp_4 rfl ?_
  refine V.ishr dX8_isUp_5 ?_
  refine V.iconst (v := 1) dX8_isUp_6 (by decide) ?_
  refine V.iand dX8_isUp_7 ?_
  refine V.if_eq 15 dX8_isUp_8 (by decide) (fun c1 => ?_) (fun c1 => ?_)
  · rw [if_pos c1] at hf
    refine V.iconst (v := 0) dX8_isUp_15 (by decide) ?_
    subst hf
    exact V.zret dX8_isUp_16 rfl rfl (Nat.le_refl _) (Nat.le_refl _) ⟨rfl, rfl⟩
  · rw [if_neg c1] at hf
    refine V.iconst (v := 1) dX8_isUp_11 (by decide) ?_
    refine V.goto 16 dX8_isUp_12 (by decide) ?_
    subst hf
    exact V.zret dX8_isUp_16 rfl rfl (Nat.le_refl _) (Nat.le_refl _) ⟨rfl, rfl⟩
theorem dX8_howManyUp_0 : decode cX8_howManyUp 0 = .ok (.aload_n 0, 1) := by decide +kernel
theorem dX8_howManyUp_1 : decode cX8_howManyUp 1 = .ok (.getfield 34, 3) := by decide +kernel
theorem dX8_howManyUp_4 : decode cX8_howManyUp 4 = .ok (.invokestatic 57, 3) := by decide +kernel
theorem dX8_howManyUp_7 : decode cX8_howManyUp 7 = .ok (.ireturn, 1) := by decide +kernel
def s_howManyUp (I : Nat → Nat → Int32) (a : Nat) : Int32 := (bitCount (I a 1))
theorem c_s_howManyUp {l : Launch} {D : va_G} {E : Nat → ClassId} {B : Nat → Prop} {n : Nat} {T : Nat → Option (Nat × Nat)} {I : Nat → Nat → Int32} {J : Nat → Nat → Int64} {P : Nat → Nat → Option Nat} {a : Nat}  (hs_a : isSt T P a) : Ct l D E B yX8_howManyUp cX8_howManyUp 1 (some .int) 1 0 0 [.ref a] (n, T, I, J, P) (Ret (some (.int (s_howManyUp I a))) (n, T, I, J, P)) := by
  obtain ⟨r, hf⟩ : ∃ r, s_howManyUp I a = r := ⟨_, rfl⟩
  rw [hf]
  unfold s_howManyUp at hf
  refine Ct.ofV (by decide) (Nat.le_of_ble_eq_true rfl) ?_
  refine V.aload_n dX8_howManyUp_0 rfl ?_
  refine V.getf fl_X8_34 dX8_howManyUp_1 (hs_a.1 0 (8, 0) rfl) (by decide) rfl ?_
  refine V.ins cs_X8_57 (c_bitCount) dX8_howManyUp_4 rfl rfl (Nat.le_of_ble_eq_true rfl) (by decide) (by decide) (Nat.le_refl _) (Nat.le_refl _) (fun _ _ hq => ?_)
  obtain ⟨rfl, rfl⟩ := hq
  subst hf
  exact V.iret dX8_howManyUp_7 rfl (Nat.le_refl _) (Nat.le_refl _) ⟨rfl, rfl⟩
theorem dX8_allStrengths_0 : decode cX8_allStrengths 0 = .ok (.iconst 0, 1) := by decide +kernel
theorem dX8_allStrengths_1 : decode cX8_allStrengths 1 = .ok (.istore_n 1, 1) := by decide +kernel
theorem dX8_allStrengths_2 : decode cX8_allStrengths 2 = .ok (.iconst 0, 1) := by decide +kernel
theorem dX8_allStrengths_3 : decode cX8_allStrengths 3 = .ok (.istore_n 2, 1) := by decide +kernel
theorem dX8_allStrengths_4 : decode cX8_allStrengths 4 = .ok (.iload_n 2, 1) := by decide +kernel
theorem dX8_allStrengths_5 : decode cX8_allStrengths 5 = .ok (.aload_n 0, 1) := by decide +kernel
theorem dX8_allStrengths_6 : decode cX8_allStrengths 6 = .ok (.getfield 30, 3) := by decide +kernel
theorem dX8_allStrengths_9 : decode cX8_allStrengths 9 = .ok (.if_icmp .ge 18, 3) := by decide +kernel
theorem dX8_allStrengths_12 : decode cX8_allStrengths 12 = .ok (.iload_n 1, 1) := by decide +kernel
theorem dX8_allStrengths_13 : decode cX8_allStrengths 13 = .ok (.aload_n 0, 1) := by decide +kernel
theorem dX8_allStrengths_14 : decode cX8_allStrengths 14 = .ok (.getfield 9, 3) := by decide +kernel
theorem dX8_allStrengths_17 : decode cX8_allStrengths 17 = .ok (.iload_n 2, 1) := by decide +kernel
theorem dX8_allStrengths_18 : decode cX8_allStrengths 18 = .ok (.iaload, 1) := by decide +kernel
theorem dX8_allStrengths_19 : decode cX8_allStrengths 19 = .ok (.iadd, 1) := by decide +kernel
theorem dX8_allStrengths_20 : decode cX8_allStrengths 20 = .ok (.istore_n 1, 1) := by decide +kernel
theorem dX8_allStrengths_21 : decode cX8_allStrengths 21 = .ok (.iinc 2 1, 3) := by decide +kernel
theorem dX8_allStrengths_24 : decode cX8_allStrengths 24 = .ok (.goto (-20), 3) := by decide +kernel
theorem dX8_allStrengths_27 : decode cX8_allStrengths 27 = .ok (.iload_n 1, 1) := by decide +kernel
theorem dX8_allStrengths_28 : decode cX8_allStrengths 28 = .ok (.ireturn, 1) := by decide +kernel
def s_allStrengths_4 (F : Nat) (I : Nat → Nat → Int32) (a : Nat) : Nat → Int32 → Int32 → Option (Int32 × Int32)
  | 0, _, _ => none
  | k + 1, l1, l2 => if (I a 0) ≤ l2 then (some (l1, l2)) else (chk l2 6 (let x3 := (l1 + (I (a + 1) (Int32.toNatClampNeg l2))); s_allStrengths_4 F I a k x3 (l2 + 1)))
def s_allStrengths (F : Nat) (I : Nat → Nat → Int32) (a : Nat) : Option (Int32) := (s_allStrengths_4 F I a F 0 0).bind (fun q5 => let m7 := q5.1; let m8 := q5.2; some m7)
theorem l_s_allStrengths_4 {l : Launch} {D : va_G} {E : Nat → ClassId} {B : Nat → Prop} {n F : Nat} {Q : Option Value → HT → Prop} {T : Nat → Option (Nat × Nat)} {I : Nat → Nat → Int32} {J : Nat → Nat → Int64} {P : Nat → Nat → Option Nat} {a : Nat}  (hs_a : isSt T P a)  (r : Int32 × Int32) : ∀ (k : Nat) (l1 : Int32) (l2 : Int32), s_allStrengths_4 F I a k l1 l2 = some r → V l D E B yX8_allStrengths cX8_allStrengths 3 (some .int) 0 0 0 Q 0 0 (n, T, I, J, P) 27 [(0, some (.ref a)), (1, some (.int (r.1))), (2, some (.int (r.2)))] [] → V l D E B yX8_allStrengths cX8_allStrengths 3 (some .int) 0 0 0 Q 0 0 (n, T, I, J, P) 4 [(0, some (.ref a)), (1, some (.int l1)), (2, some (.int l2))] [] := by
  intro k
  induction k with
  | zero =>
    intro l1 l2 hf hk
    cases hf
  | succ k ih =>
    intro l1 l2 hf hk
    unfold s_allStrengths_4 at hf
    refine V.iload_n dX8_allStrengths_4 rfl ?_
    refine V.aload_n dX8_allStrengths_5 rfl ?_
    refine V.getf fl_X8_30 dX8_allStrengths_6 (hs_a.1 0 (8, 0) rfl) (by decide) rfl ?_
    refine V.icmp_ge 27 dX8_allStrengths_9 (by decide) (fun c1 => ?_) (fun c1 => ?_)
    · rw [if_pos c1] at hf
      obtain rfl := Option.some.inj hf
      exact V.lo [(0, some (.ref a)), (1, some (.int l1)), (2, some (.int l2))] (by simp only [Subs]; repeat' first | exact trivial | constructor | rfl) hk
    · rw [if_neg c1] at hf
      refine V.iload_n dX8_allStrengths_12 rfl ?_
      refine V.aload_n dX8_allStrengths_13 rfl ?_
      refine V.getr fl_X8_9 dX8_allStrengths_14 (hs_a.1 0 (8, 0) rfl) (hs_a.2 0 4 1 rfl) (by decide) rfl ?_
      refine V.iload_n dX8_allStrengths_17 rfl ?_
      obtain ⟨hb2, hf⟩ := chk_some hf
      refine V.iald dX8_allStrengths_18 (hs_a.1 1 (20, 6) rfl) hb2 ?_
      refine V.iadd dX8_allStrengths_19 ?_
      refine V.istore_n dX8_allStrengths_20 rfl (by decide) (by first | exact rfl | exact trivial) ?_
      obtain ⟨x3, e4⟩ : ∃ zz_, zz_ = (l1 + (I (a + 1) (Int32.toNatClampNeg l2))) := ⟨_, rfl⟩
      rw [← e4] at hf ⊢
      try dsimp only at hf
      refine V.iinc (v := (l2 + 1)) dX8_allStrengths_21 rfl rfl (by first | exact rfl | exact trivial) ?_
      refine V.goto 4 dX8_allStrengths_24 (by decide) ?_
      exact V.lo [(0, some (.ref a)), (1, some (.int x3)), (2, some (.int (l2 + 1)))] (by simp only [Subs]; repeat' first | exact trivial | constructor | rfl) (ih _ _ hf hk)
theorem c_s_allStrengths {l : Launch} {D : va_G} {E : Nat → ClassId} {B : Nat → Prop} {n F : Nat} {T : Nat → Option (Nat × Nat)} {I : Nat → Nat → Int32} {J : Nat → Nat → Int64} {P : Nat → Nat → Option Nat} {a : Nat}  {r : Int32} (hs_a : isSt T P a) (hf : s_allStrengths F I a = some r) : Ct l D E B yX8_allStrengths cX8_allStrengths 3 (some .int) 0 0 0 [.ref a] (n, T, I, J, P) (Ret (some (.int r)) (n, T, I, J, P)) := by
  unfold s_allStrengths at hf
  refine Ct.ofV (by decide) (Nat.le_of_ble_eq_true rfl) ?_
  refine V.iconst (v := 0) dX8_allStrengths_0 (by decide) ?_
  refine V.istore_n dX8_allStrengths_1 rfl (by decide) (by first | exact rfl | exact trivial) ?_
  refine V.iconst (v := 0) dX8_allStrengths_2 (by decide) ?_
  refine V.istore_n dX8_allStrengths_3 rfl (by decide) (by first | exact rfl | exact trivial) ?_
  obtain ⟨⟨m7, m8⟩, hk6, hf⟩ := bnd_some hf
  try dsimp only at hf
  refine V.lo [(0, some (.ref a)), (1, some (.int 0)), (2, some (.int 0))] (by simp only [Subs]; repeat' first | exact trivial | constructor | rfl) (l_s_allStrengths_4 hs_a _ F _ _ hk6 ?_)
  try dsimp only
  refine V.iload_n dX8_allStrengths_27 rfl ?_
  obtain rfl := Option.some.inj hf
  exact V.iret dX8_allStrengths_28 rfl (Nat.le_refl _) (Nat.le_refl _) ⟨rfl, rfl⟩
theorem dX8_besides_0 : decode cX8_besides 0 = .ok (.aload_n 0, 1) := by decide +kernel
theorem dX8_besides_1 : decode cX8_besides 1 = .ok (.getfield 24, 3) := by decide +kernel
theorem dX8_besides_4 : decode cX8_besides 4 = .ok (.iload_n 1, 1) := by decide +kernel
theorem dX8_besides_5 : decode cX8_besides 5 = .ok (.iaload, 1) := by decide +kernel
theorem dX8_besides_6 : decode cX8_besides 6 = .ok (.istore_n 2, 1) := by decide +kernel
theorem dX8_besides_7 : decode cX8_besides 7 = .ok (.iconst 0, 1) := by decide +kernel
theorem dX8_besides_8 : decode cX8_besides 8 = .ok (.istore_n 3, 1) := by decide +kernel
theorem dX8_besides_9 : decode cX8_besides 9 = .ok (.iload_n 2, 1) := by decide +kernel
theorem dX8_besides_10 : decode cX8_besides 10 = .ok (.ifCond .le 21, 3) := by decide +kernel
theorem dX8_besides_13 : decode cX8_besides 13 = .ok (.aload_n 0, 1) := by decide +kernel
theorem dX8_besides_14 : decode cX8_besides 14 = .ok (.aload_n 0, 1) := by decide +kernel
theorem dX8_besides_15 : decode cX8_besides 15 = .ok (.getfield 27, 3) := by decide +kernel
theorem dX8_besides_18 : decode cX8_besides 18 = .ok (.iload_n 2, 1) := by decide +kernel
theorem dX8_besides_19 : decode cX8_besides 19 = .ok (.iconst 1, 1) := by decide +kernel
theorem dX8_besides_20 : decode cX8_besides 20 = .ok (.isub, 1) := by decide +kernel
theorem dX8_besides_21 : decode cX8_besides 21 = .ok (.iaload, 1) := by decide +kernel
theorem dX8_besides_22 : decode cX8_besides 22 = .ok (.invokevirtual 63, 3) := by decide +kernel
theorem dX8_besides_25 : decode cX8_besides 25 = .ok (.ifCond .eq 6, 3) := by decide +kernel
theorem dX8_besides_28 : decode cX8_besides 28 = .ok (.iinc 3 1, 3) := by decide +kernel
theorem dX8_besides_31 : decode cX8_besides 31 = .ok (.iload_n 2, 1) := by decide +kernel
theorem dX8_besides_32 : decode cX8_besides 32 = .ok (.iconst 1, 1) := by decide +kernel
theorem dX8_besides_33 : decode cX8_besides 33 = .ok (.iadd, 1) := by decide +kernel
theorem dX8_besides_34 : decode cX8_besides 34 = .ok (.aload_n 0, 1) := by decide +kernel
theorem dX8_besides_35 : decode cX8_besides 35 = .ok (.getfield 30, 3) := by decide +kernel
theorem dX8_besides_38 : decode cX8_besides 38 = .ok (.if_icmp .ge 21, 3) := by decide +kernel
theorem dX8_besides_41 : decode cX8_besides 41 = .ok (.aload_n 0, 1) := by decide +kernel
theorem dX8_besides_42 : decode cX8_besides 42 = .ok (.aload_n 0, 1) := by decide +kernel
theorem dX8_besides_43 : decode cX8_besides 43 = .ok (.getfield 27, 3) := by decide +kernel
theorem dX8_besides_46 : decode cX8_besides 46 = .ok (.iload_n 2, 1) := by decide +kernel
theorem dX8_besides_47 : decode cX8_besides 47 = .ok (.iconst 1, 1) := by decide +kernel
theorem dX8_besides_48 : decode cX8_besides 48 = .ok (.iadd, 1) := by decide +kernel
theorem dX8_besides_49 : decode cX8_besides 49 = .ok (.iaload, 1) := by decide +kernel
theorem dX8_besides_50 : decode cX8_besides 50 = .ok (.invokevirtual 63, 3) := by decide +kernel
theorem dX8_besides_53 : decode cX8_besides 53 = .ok (.ifCond .eq 6, 3) := by decide +kernel
theorem dX8_besides_56 : decode cX8_besides 56 = .ok (.iinc 3 1, 3) := by decide +kernel
theorem dX8_besides_59 : decode cX8_besides 59 = .ok (.iload_n 3, 1) := by decide +kernel
theorem dX8_besides_60 : decode cX8_besides 60 = .ok (.ireturn, 1) := by decide +kernel
def s_besides (I : Nat → Nat → Int32) (a : Nat) (v1 : Int32) : Option (Int32) := chk v1 6 (let x2 := (I (a + 5) (Int32.toNatClampNeg v1)); if x2 ≤ 0 then (if (I a 0) ≤ (x2 + 1) then (some 0) else (chk (x2 + 1) 6 (if (s_isUp I a (I (a + 6) (Int32.toNatClampNeg (x2 + 1)))) = 0 then (some 0) else (some (0 + 1))))) else (chk (x2 - 1) 6 (if (s_isUp I a (I (a + 6) (Int32.toNatClampNeg (x2 - 1)))) = 0 then (if (I a 0) ≤ (x2 + 1) then (some 0) else (chk (x2 + 1) 6 (if (s_isUp I a (I (a + 6) (Int32.toNatClampNeg (x2 + 1)))) = 0 then (some 0) else (some (0 + 1))))) else (if (I a 0) ≤ (x2 + 1) then (some (0 + 1)) else (chk (x2 + 1) 6 (if (s_isUp I a (I (a + 6) (Int32.toNatClampNeg (x2 + 1)))) = 0 then (some (0 + 1)) else (some ((0 + 1) + 1))))))))
theorem c_s_besides {l : Launch} {D : va_G} {E : Nat → ClassId} {B : Nat → Prop} {n : Nat} {T : Nat → Option (Nat × Nat)} {I : Nat → Nat → Int32} {J : Nat → Nat → Int64} {P : Nat → Nat → Option Nat} {a : Nat} {v1 : Int32} {r : Int32} (hs_a : isSt T P a) (hf : s_besides I a v1 = some r) : Ct l D E B yX8_besides cX8_besides 4 (some .int) 1 0 0 [.ref a, .int v1] (n, T, I, J, P) (Ret (some (.int r)) (n, T, I, J, P)) := by
  unfold s_besides at hf
  refine Ct.ofV (by decide) (Nat.le_of_ble_eq_true rfl) ?_
  refine V.aload_n dX8_besides_0 rfl ?_
  refine V.getr fl_X8_24 dX8_besides_1 (hs_a.1 0 (8, 0) rfl) (hs_a.2 0 8 5 rfl) (by decide) rfl ?_
  refine V.iload_n dX8_besides_4 rfl ?_
  obtain ⟨hb1, hf⟩ := chk_some hf
  refine V.iald dX8_besides_5 (hs_a.1 5 (20, 6) rfl) hb1 ?_
  refine V.istore_n dX8_besides_6 rfl (by decide) (by first | exact rfl | exact trivial) ?_
  obtain ⟨x2, e3⟩ : ∃ zz_, zz_ = (I (a + 5) (Int32.toNatClampNeg v1)) := ⟨_, rfl⟩
  rw [← e3] at hf ⊢
  try dsimp only at hf
  refine V.iconst (v := 0) dX8_besides_7 (by decide) ?_
  refine V.istore_n dX8_besides_8 rfl (by decide) (by first | exact rfl | exact trivial) ?_
  refine V.iload_n dX8_besides_9 rfl ?_
  refine V.if_le 31 dX8_besides_10 (by decide) (fun c4 => ?_) (fun c4 => ?_)
  · rw [if_pos c4] at hf
    refine V.iload_n dX8_besides_31 rfl ?_
    refine V.iconst (v := 1) dX8_besides_32 (by decide) ?_
    refine V.iadd dX8_besides_33 ?_
    refine V.aload_n dX8_besides_34 rfl ?_
    refine V.getf fl_X8_30 dX8_besides_35 (hs_a.1 0 (8, 0) rfl) (by decide) rfl ?_
    refine V.icmp_ge 59 dX8_besides_38 (by decide) (fun c5 => ?_) (fun c5 => ?_)
    · rw [if_pos c5] at hf
      refine V.iload_n dX8_besides_59 rfl ?_
      obtain rfl := Option.some.inj hf
      exact V.iret dX8_besides_60 rfl (Nat.le_refl _) (Nat.le_refl _) ⟨rfl, rfl⟩
    · rw [if_neg c5] at hf
      refine V.aload_n dX8_besides_41 rfl ?_
      refine V.aload_n dX8_besides_42 rfl ?_
      refine V.getr fl_X8_27 dX8_besides_43 (hs_a.1 0 (8, 0) rfl) (hs_a.2 0 9 6 rfl) (by decide) rfl ?_
      refine V.iload_n dX8_besides_46 rfl ?_
      refine V.iconst (v := 1) dX8_besides_47 (by decide) ?_
      refine V.iadd dX8_besides_48 ?_
      obtain ⟨hb6, hf⟩ := chk_some hf
      refine V.iald dX8_besides_49 (hs_a.1 6 (20, 6) rfl) hb6 ?_
      refine V.inv cv_X8_63 (c_s_isUp hs_a) dX8_besides_50 (hs_a.1 0 (8, 0) rfl) (by decide) rfl rfl rfl (Nat.le_of_ble_eq_true rfl) (by decide) (by decide) (Nat.le_refl _) (Nat.le_refl _) (fun _ _ hq => ?_)
      obtain ⟨rfl, rfl⟩ := hq
      refine V.if_eq 59 dX8_besides_53 (by decide) (fun c7 => ?_) (fun c7 => ?_)
      · rw [if_pos c7] at hf
        refine V.iload_n dX8_besides_59 rfl ?_
        obtain rfl := Option.some.inj hf
        exact V.iret dX8_besides_60 rfl (Nat.le_refl _) (Nat.le_refl _) ⟨rfl, rfl⟩
      · rw [if_neg c7] at hf
        refine V.iinc (v := (0 + 1)) dX8_besides_56 rfl rfl (by first | exact rfl | exact trivial) ?_
        refine V.iload_n dX8_besides_59 rfl ?_
        obtain rfl := Option.some.inj hf
        exact V.iret dX8_besides_60 rfl (Nat.le_refl _) (Nat.le_refl _) ⟨rfl, rfl⟩
  · rw [if_neg c4] at hf
    refine V.aload_n dX8_besides_13 rfl ?_
    refine V.aload_n dX8_besides_14 rfl ?_
    refine V.getr fl_X8_27 dX8_besides_15 (hs_a.1 0 (8, 0) rfl) (hs_a.2 0 9 6 rfl) (by decide) rfl ?_
    refine V.iload_n dX8_besides_18 rfl ?_
    refine V.iconst (v := 1) dX8_besides_19 (by decide) ?_
    refine V.isub dX8_besides_20 ?_
    obtain ⟨hb8, hf⟩ := chk_some hf
    refine V.iald dX8_besides_21 (hs_a.1 6 (20, 6) rfl) hb8 ?_
    refine V.inv cv_X8_63 (c_s_isUp hs_a) dX8_besides_22 (hs_a.1 0 (8, 0) rfl) (by decide) rfl rfl rfl (Nat.le_of_ble_eq_true rfl) (by decide) (by decide) (Nat.le_refl _) (Nat.le_refl _) (fun _ _ hq => ?_)
    obtain ⟨rfl, rfl⟩ := hq
    refine V.if_eq 31 dX8_besides_25 (by decide) (fun c9 => ?_) (fun c9 => ?_)
    · rw [if_pos c9] at hf
      refine V.iload_n dX8_besides_31 rfl ?_
      refine V.iconst (v := 1) dX8_besides_32 (by decide) ?_
      refine V.iadd dX8_besides_33 ?_
      refine V.aload_n dX8_besides_34 rfl ?_
      refine V.getf fl_X8_30 dX8_besides_35 (hs_a.1 0 (8, 0) rfl) (by decide) rfl ?_
      refine V.icmp_ge 59 dX8_besides_38 (by decide) (fun c10 => ?_) (fun c10 => ?_)
      · rw [if_pos c10] at hf
        refine V.iload_n dX8_besides_59 rfl ?_
        obtain rfl := Option.some.inj hf
        exact V.iret dX8_besides_60 rfl (Nat.le_refl _) (Nat.le_refl _) ⟨rfl, rfl⟩
      · rw [if_neg c10] at hf
        refine V.aload_n dX8_besides_41 rfl ?_
        refine V.aload_n dX8_besides_42 rfl ?_
        refine V.getr fl_X8_27 dX8_besides_43 (hs_a.1 0 (8, 0) rfl) (hs_a.2 0 9 6 rfl) (by decide) rfl ?_
        refine V.iload_n dX8_besides_46 rfl ?_
        refine V.iconst (v := 1) dX8_besides_47 (by decide) ?_
        refine V.iadd dX8_besides_48 ?_
        obtain ⟨hb11, hf⟩ := chk_some hf
        refine V.iald dX8_besides_49 (hs_a.1 6 (20, 6) rfl) hb11 ?_
        refine V.inv cv_X8_63 (c_s_isUp hs_a) dX8_besides_50 (hs_a.1 0 (8, 0) rfl) (by decide) rfl rfl rfl (Nat.le_of_ble_eq_true rfl) (by decide) (by decide) (Nat.le_refl _) (Nat.le_refl _) (fun _ _ hq => ?_)
        obtain ⟨rfl, rfl⟩ := hq
        refine V.if_eq 59 dX8_besides_53 (by decide) (fun c12 => ?_) (fun c12 => ?_)
        · rw [if_pos c12] at hf
          refine V.iload_n dX8_besides_59 rfl ?_
          obtain rfl := Option.some.inj hf
          exact V.iret dX8_besides_60 rfl (Nat.le_refl _) (Nat.le_refl _) ⟨rfl, rfl⟩
        · rw [if_neg c12] at hf
          refine V.iinc (v := (0 + 1)) dX8_besides_56 rfl rfl (by first | exact rfl | exact trivial) ?_
          refine V.iload_n dX8_besides_59 rfl ?_
          obtain rfl := Option.some.inj hf
          exact V.iret dX8_besides_60 rfl (Nat.le_refl _) (Nat.le_refl _) ⟨rfl, rfl⟩
    · rw [if_neg c9] at hf
      refine V.iinc (v := (0 + 1)) dX8_besides_28 rfl rfl (by first | exact rfl | exact trivial) ?_
      refine V.iload_n dX8_besides_31 rfl ?_
      refine V.iconst (v := 1) dX8_besides_32 (by decide) ?_
      refine V.iadd dX8_besides_33 ?_
      refine V.aload_n dX8_besides_34 rfl ?_
      refine V.getf fl_X8_30 dX8_besides_35 (hs_a.1 0 (8, 0) rfl) (by decide) rfl ?_
      refine V.icmp_ge 59 dX8_besides_38 (by decide) (fun c13 => ?_) (fun c13 => ?_)
      · rw [if_pos c13] at hf
        refine V.iload_n dX8_besides_59 rfl ?_
        obtain rfl := Option.some.inj hf
        exact V.iret dX8_besides_60 rfl (Nat.le_refl _) (Nat.le_refl _) ⟨rfl, rfl⟩
      · rw [if_neg c13] at hf
        refine V.aload_n dX8_besides_41 rfl ?_
        refine V.aload_n dX8_besides_42 rfl ?_
        refine V.getr fl_X8_27 dX8_besides_43 (hs_a.1 0 (8, 0) rfl) (hs_a.2 0 9 6 rfl) (by decide) rfl ?_
        refine V.iload_n dX8_besides_46 rfl ?_
        refine V.iconst (v := 1) dX8_besides_47 (by decide) ?_
        refine V.iadd dX8_besides_48 ?_
        obtain ⟨hb14, hf⟩ := chk_some hf
        refine V.iald dX8_besides_49 (hs_a.1 6 (20, 6) rfl) hb14 ?_
        refine V.inv cv_X8_63 (c_s_isUp hs_a) dX8_besides_50 (hs_a.1 0 (8, 0) rfl) (by decide) rfl rfl rfl (Nat.le_of_ble_eq_true rfl) (by decide) (by decide) (Nat.le_refl _) (Nat.le_refl _) (fun _ _ hq => ?_)
        obtain ⟨rfl, rfl⟩ := hq
        refine V.if_eq 59 dX8_besides_53 (by decide) (fun c15 => ?_) (fun c15 => ?_)
        · rw [if_pos c15] at hf
          refine V.iload_n dX8_besides_59 rfl ?_
          obtain rfl := Option.some.inj hf
          exact V.iret dX8_besides_60 rfl (Nat.le_refl _) (Nat.le_refl _) ⟨rfl, rfl⟩
        · rw [if_neg c15] at hf
          refine V.iinc (v := ((0 + 1) + 1)) dX8_besides_56 rfl rfl (by first | exact rfl | exact trivial) ?_
          refine V.iload_n dX8_besides_59 rfl ?_
          obtain rfl := Option.some.inj hf
          exact V.iret dX8_besides_60 rfl (Nat.le_refl _) (Nat.le_refl _) ⟨rfl, rfl⟩
theorem dX8_exchange_0 : decode cX8_exchange 0 = .ok (.aload_n 0, 1) := by decide +kernel
theorem dX8_exchange_1 : decode cX8_exchange 1 = .ok (.getfield 24, 3) := by decide +kernel
theorem dX8_exchange_4 : decode cX8_exchange 4 = .ok (.iload_n 1, 1) := by decide +kernel
theorem dX8_exchange_5 : decode cX8_exchange 5 = .ok (.iaload, 1) := by decide +kernel
theorem dX8_exchange_6 : decode cX8_exchange 6 = .ok (.istore_n 3, 1) := by decide +kernel
theorem dX8_exchange_7 : decode cX8_exchange 7 = .ok (.aload_n 0, 1) := by decide +kernel
theorem dX8_exchange_8 : decode cX8_exchange 8 = .ok (.getfield 24, 3) := by decide +kernel
theorem dX8_exchange_11 : decode cX8_exchange 11 = .ok (.iload_n 1, 1) := by decide +kernel
theorem dX8_exchange_12 : decode cX8_exchange 12 = .ok (.aload_n 0, 1) := by decide +kernel
theorem dX8_exchange_13 : decode cX8_exchange 13 = .ok (.getfield 24, 3) := by decide +kernel
theorem dX8_exchange_16 : decode cX8_exchange 16 = .ok (.iload_n 2, 1) := by decide +kernel
theorem dX8_exchange_17 : decode cX8_exchange 17 = .ok (.iaload, 1) := by decide +kernel
theorem dX8_exchange_18 : decode cX8_exchange 18 = .ok (.iastore, 1) := by decide +kernel
theorem dX8_exchange_19 : decode cX8_exchange 19 = .ok (.aload_n 0, 1) := by decide +kernel
theorem dX8_exchange_20 : decode cX8_exchange 20 = .ok (.getfield 24, 3) := by decide +kernel
theorem dX8_exchange_23 : decode cX8_exchange 23 = .ok (.iload_n 2, 1) := by decide +kernel
theorem dX8_exchange_24 : decode cX8_exchange 24 = .ok (.iload_n 3, 1) := by decide +kernel
theorem dX8_exchange_25 : decode cX8_exchange 25 = .ok (.iastore, 1) := by decide +kernel
theorem dX8_exchange_26 : decode cX8_exchange 26 = .ok (.aload_n 0, 1) := by decide +kernel
theorem dX8_exchange_27 : decode cX8_exchange 27 = .ok (.getfield 27, 3) := by decide +kernel
theorem dX8_exchange_30 : decode cX8_exchange 30 = .ok (.aload_n 0, 1) := by decide +kernel
theorem dX8_exchange_31 : decode cX8_exchange 31 = .ok (.getfield 24, 3) := by decide +kernel
theorem dX8_exchange_34 : decode cX8_exchange 34 = .ok (.iload_n 1, 1) := by decide +kernel
theorem dX8_exchange_35 : decode cX8_exchange 35 = .ok (.iaload, 1) := by decide +kernel
theorem dX8_exchange_36 : decode cX8_exchange 36 = .ok (.iload_n 1, 1) := by decide +kernel
theorem dX8_exchange_37 : decode cX8_exchange 37 = .ok (.iastore, 1) := by decide +kernel
theorem dX8_exchange_38 : decode cX8_exchange 38 = .ok (.aload_n 0, 1) := by decide +kernel
theorem dX8_exchange_39 : decode cX8_exchange 39 = .ok (.getfield 27, 3) := by decide +kernel
theorem dX8_exchange_42 : decode cX8_exchange 42 = .ok (.aload_n 0, 1) := by decide +kernel
theorem dX8_exchange_43 : decode cX8_exchange 43 = .ok (.getfield 24, 3) := by decide +kernel
theorem dX8_exchange_46 : decode cX8_exchange 46 = .ok (.iload_n 2, 1) := by decide +kernel
theorem dX8_exchange_47 : decode cX8_exchange 47 = .ok (.iaload, 1) := by decide +kernel
theorem dX8_exchange_48 : decode cX8_exchange 48 = .ok (.iload_n 2, 1) := by decide +kernel
theorem dX8_exchange_49 : decode cX8_exchange 49 = .ok (.iastore, 1) := by decide +kernel
theorem dX8_exchange_50 : decode cX8_exchange 50 = .ok (.return_, 1) := by decide +kernel
def s_exchange (I : Nat → Nat → Int32) (a : Nat) (v1 : Int32) (v2 : Int32) : Option ((Nat → Nat → Int32)) := chk v1 6 (let x2 := (I (a + 5) (Int32.toNatClampNeg v1)); chk v2 6 (let I5 := uI I (a + 5) (Int32.toNatClampNeg v1) (I (a + 5) (Int32.toNatClampNeg v2)); let I7 := uI I5 (a + 5) (Int32.toNatClampNeg v2) x2; chk (I7 (a + 5) (Int32.toNatClampNeg v1)) 6 (let I10 := uI I7 (a + 6) (Int32.toNatClampNeg (I7 (a + 5) (Int32.toNatClampNeg v1))) v1; chk (I10 (a + 5) (Int32.toNatClampNeg v2)) 6 (let I13 := uI I10 (a + 6) (Int32.toNatClampNeg (I10 (a + 5) (Int32.toNatClampNeg v2))) v2; some I13))))
theorem c_s_exchange {l : Launch} {D : va_G} {E : Nat → ClassId} {B : Nat → Prop} {n : Nat} {T : Nat → Option (Nat × Nat)} {I : Nat → Nat → Int32} {J : Nat → Nat → Int64} {P : Nat → Nat → Option Nat} {a : Nat} {v1 : Int32} {v2 : Int32} {r : (Nat → Nat → Int32)} (hs_a : isSt T P a) (hf : s_exchange I a v1 v2 = some r) : Ct l D E B yX8_exchange cX8_exchange 4 none 0 0 0 [.ref a, .int v1, .int v2] (n, T, I, J, P) (Ret (none) (n, T, r, J, P)) := by
  unfold s_exchange at hf
  refine Ct.ofV (by decide) (Nat.le_of_ble_eq_true rfl) ?_
  refine V.aload_n dX8_exchange_0 rfl ?_
  refine V.getr fl_X8_24 dX8_exchange_1 (hs_a.1 0 (8, 0) rfl) (hs_a.2 0 8 5 rfl) (by decide) rfl ?_
  refine V.iload_n dX8_exchange_4 rfl ?_
  obtain ⟨hb1, hf⟩ := chk_some hf
  refine V.iald dX8_exchange_5 (hs_a.1 5 (20, 6) rfl) hb1 ?_
  refine V.istore_n dX8_exchange_6 rfl (by decide) (by first | exact rfl | exact trivial) ?_
  obtain ⟨x2, e3⟩ : ∃ zz_, zz_ = (I (a + 5) (Int32.toNatClampNeg v1)) := ⟨_, rfl⟩
  rw [← e3] at hf ⊢
  try dsimp only at hf
  refine V.aload_n dX8_exchange_7 rfl ?_
  refine V.getr fl_X8_24 dX8_exchange_8 (hs_a.1 0 (8, 0) rfl) (hs_a.2 0 8 5 rfl) (by decide) rfl ?_
  refine V.iload_n dX8_exchange_11 rfl ?_
  refine V.aload_n dX8_exchange_12 rfl ?_
  refine V.getr fl_X8_24 dX8_exchange_13 (hs_a.1 0 (8, 0) rfl) (hs_a.2 0 8 5 rfl) (by decide) rfl ?_
  refine V.iload_n dX8_exchange_16 rfl ?_
  obtain ⟨hb4, hf⟩ := chk_some hf
  refine V.iald dX8_exchange_17 (hs_a.1 5 (20, 6) rfl) hb4 ?_
  refine V.iastE dX8_exchange_18 (hs_a.1 5 (20, 6) rfl) hb1 (fun I5 e6 => ?_)
  rw [← e6] at hf
  try dsimp only at hf
  clear e6
  refine V.aload_n dX8_exchange_19 rfl ?_
  refine V.getr fl_X8_24 dX8_exchange_20 (hs_a.1 0 (8, 0) rfl) (hs_a.2 0 8 5 rfl) (by decide) rfl ?_
  refine V.iload_n dX8_exchange_23 rfl ?_
  refine V.iload_n dX8_exchange_24 rfl ?_
  refine V.iastE dX8_exchange_25 (hs_a.1 5 (20, 6) rfl) hb4 (fun I7 e8 => ?_)
  rw [← e8] at hf
  try dsimp only at hf
  clear e8
  refine V.aload_n dX8_exchange_26 rfl ?_
  refine V.getr fl_X8_27 dX8_exchange_27 (hs_a.1 0 (8, 0) rfl) (hs_a.2 0 9 6 rfl) (by decide) rfl ?_
  refine V.aload_n dX8_exchange_30 rfl ?_
  refine V.getr fl_X8_24 dX8_exchange_31 (hs_a.1 0 (8, 0) rfl) (hs_a.2 0 8 5 rfl) (by decide) rfl ?_
  refine V.iload_n dX8_exchange_34 rfl ?_
  refine V.iald dX8_exchange_35 (hs_a.1 5 (20, 6) rfl) hb1 ?_
  refine V.iload_n dX8_exchange_36 rfl ?_
  obtain ⟨hb9, hf⟩ := chk_some hf
  refine V.iastE dX8_exchange_37 (hs_a.1 6 (20, 6) rfl) hb9 (fun I10 e11 => ?_)
  rw [← e11] at hf
  try dsimp only at hf
  clear e11
  refine V.aload_n dX8_exchange_38 rfl ?_
  refine V.getr fl_X8_27 dX8_exchange_39 (hs_a.1 0 (8, 0) rfl) (hs_a.2 0 9 6 rfl) (by decide) rfl ?_
  refine V.aload_n dX8_exchange_42 rfl ?_
  refine V.getr fl_X8_24 dX8_exchange_43 (hs_a.1 0 (8, 0) rfl) (hs_a.2 0 8 5 rfl) (by decide) rfl ?_
  refine V.iload_n dX8_exchange_46 rfl ?_
  refine V.iald dX8_exchange_47 (hs_a.1 5 (20, 6) rfl) hb4 ?_
  refine V.iload_n dX8_exchange_48 rfl ?_
  obtain ⟨hb12, hf⟩ := chk_some hf
  refine V.iastE dX8_exchange_49 (hs_a.1 6 (20, 6) rfl) hb12 (fun I13 e14 => ?_)
  rw [← e14] at hf
  try dsimp only at hf
  clear e14
  obtain rfl := Option.some.inj hf
  exact V.vret dX8_exchange_50 rfl (Nat.le_refl _) (Nat.le_refl _) ⟨rfl, rfl⟩
theorem dX8_seat_0 : decode cX8_seat 0 = .ok (.aload_n 0, 1) := by decide +kernel
theorem dX8_seat_1 : decode cX8_seat 1 = .ok (.dup, 1) := by decide +kernel
theorem dX8_seat_2 : decode cX8_seat 2 = .ok (.getfield 40, 3) := by decide +kernel
theorem dX8_seat_5 : decode cX8_seat 5 = .ok (.iconst 1, 1) := by decide +kernel
theorem dX8_seat_6 : decode cX8_seat 6 = .ok (.iadd, 1) := by decide +kernel
theorem dX8_seat_7 : decode cX8_seat 7 = .ok (.putfield 40, 3) := by decide +kernel
theorem dX8_seat_10 : decode cX8_seat 10 = .ok (.aload_n 0, 1) := by decide +kernel
theorem dX8_seat_11 : decode cX8_seat 11 = .ok (.dup, 1) := by decide +kernel
theorem dX8_seat_12 : decode cX8_seat 12 = .ok (.getfield 34, 3) := by decide +kernel
theorem dX8_seat_15 : decode cX8_seat 15 = .ok (.iconst 1, 1) := by decide +kernel
theorem dX8_seat_16 : decode cX8_seat 16 = .ok (.iload_n 1, 1) := by decide +kernel
theorem dX8_seat_17 : decode cX8_seat 17 = .ok (.ishl, 1) := by decide +kernel
theorem dX8_seat_18 : decode cX8_seat 18 = .ok (.iconst (-1), 1) := by decide +kernel
theorem dX8_seat_19 : decode cX8_seat 19 = .ok (.ixor, 1) := by decide +kernel
theorem dX8_seat_20 : decode cX8_seat 20 = .ok (.iand, 1) := by decide +kernel
theorem dX8_seat_21 : decode cX8_seat 21 = .ok (.putfield 34, 3) := by decide +kernel
theorem dX8_seat_24 : decode cX8_seat 24 = .ok (.aload_n 0, 1) := by decide +kernel
theorem dX8_seat_25 : decode cX8_seat 25 = .ok (.getfield 18, 3) := by decide +kernel
theorem dX8_seat_28 : decode cX8_seat 28 = .ok (.iload_n 1, 1) := by decide +kernel
theorem dX8_seat_29 : decode cX8_seat 29 = .ok (.aload_n 0, 1) := by decide +kernel
theorem dX8_seat_30 : decode cX8_seat 30 = .ok (.getfield 37, 3) := by decide +kernel
theorem dX8_seat_33 : decode cX8_seat 33 = .ok (.iastore, 1) := by decide +kernel
theorem dX8_seat_34 : decode cX8_seat 34 = .ok (.aload_n 0, 1) := by decide +kernel
theorem dX8_seat_35 : decode cX8_seat 35 = .ok (.getfield 21, 3) := by decide +kernel
theorem dX8_seat_38 : decode cX8_seat 38 = .ok (.iload_n 1, 1) := by decide +kernel
theorem dX8_seat_39 : decode cX8_seat 39 = .ok (.aload_n 0, 1) := by decide +kernel
theorem dX8_seat_40 : decode cX8_seat 40 = .ok (.getfield 40, 3) := by decide +kernel
theorem dX8_seat_43 : decode cX8_seat 43 = .ok (.iastore, 1) := by decide +kernel
theorem dX8_seat_44 : decode cX8_seat 44 = .ok (.return_, 1) := by decide +kernel
def s_seat (I : Nat → Nat → Int32) (a : Nat) (v1 : Int32) : Option ((Nat → Nat → Int32)) := let I1 := uI I a 3 ((I a 3) + 1); let I3 := uI I1 a 1 ((I1 a 1) &&& ((1 <<< (v1 &&& 31)) ^^^ (-1))); chk v1 6 (let I6 := uI I3 (a + 3) (Int32.toNatClampNeg v1) (I3 a 2); let I8 := uI I6 (a + 4) (Int32.toNatClampNeg v1) (I6 a 3); some I8)
theorem c_s_seat {l : Launch} {D : va_G} {E : Nat → ClassId} {B : Nat → Prop} {n : Nat} {T : Nat → Option (Nat × Nat)} {I : Nat → Nat → Int32} {J : Nat → Nat → Int64} {P : Nat → Nat → Option Nat} {a : Nat} {v1 : Int32} {r : (Nat → Nat → Int32)} (hs_a : isSt T P a) (hf : s_seat I a v1 = some r) : Ct l D E B yX8_seat cX8_seat 2 none 0 0 0 [.ref a, .int v1] (n, T, I, J, P) (Ret (none) (n, T, r, J, P)) := by
  unfold s_seat at hf
  refine Ct.ofV (by decide) (Nat.le_of_ble_eq_true rfl) ?_
  refine V.aload_n dX8_seat_0 rfl ?_
  refine V.dup dX8_seat_1 rfl ?_
  refine V.getf fl_X8_40 dX8_seat_2 (hs_a.1 0 (8, 0) rfl) (by decide) rfl ?_
  refine V.iconst (v := 1) dX8_seat_5 (by decide) ?_
  refine V.iadd dX8_seat_6 ?_
  refine V.putiE fl_X8_40 dX8_seat_7 (hs_a.1 0 (8, 0) rfl) (by decide) (fun h => by cases h) rfl rfl rfl (Nat.le_of_ble_eq_true rfl) (fun I1 e2 => ?_)
  rw [← e2] at hf
  try dsimp only at hf
  clear e2
  refine V.aload_n dX8_seat_10 rfl ?_
  refine V.dup dX8_seat_11 rfl ?_
  refine V.getf fl_X8_34 dX8_seat_12 (hs_a.1 0 (8, 0) rfl) (by decide) rfl ?_
  refine V.iconst (v := 1) dX8_seat_15 (by decide) ?_
  refine V.iload_n dX8_seat_16 rfl ?_
  refine V.ishl dX8_seat_17 ?_
  refine V.iconst (v := -1) dX8_seat_18 (by decide) ?_
  refine V.ixor dX8_seat_19 ?_
  refine V.iand dX8_seat_20 ?_
  refine V.putiE fl_X8_34 dX8_seat_21 (hs_a.1 0 (8, 0) rfl) (by decide) (fun h => by cases h) rfl rfl rfl (Nat.le_of_ble_eq_true rfl) (fun I3 e4 => ?_)
  rw [← e4] at hf
  try dsimp only at hf
  clear e4
  refine V.aload_n dX8_seat_24 rfl ?_
  refine V.getr fl_X8_18 dX8_seat_25 (hs_a.1 0 (8, 0) rfl) (hs_a.2 0 6 3 rfl) (by decide) rfl ?_
  refine V.iload_n dX8_seat_28 rfl ?_
  refine V.aload_n dX8_seat_29 rfl ?_
  refine V.getf fl_X8_37 dX8_seat_30 (hs_a.1 0 (8, 0) rfl) (by decide) rfl ?_
  obtain ⟨hb5, hf⟩ := chk_some hf
  refine V.iastE dX8_seat_33 (hs_a.1 3 (20, 6) rfl) hb5 (fun I6 e7 => ?_)
  rw [← e7] at hf
  try dsimp only at hf
  clear e7
  refine V.aload_n dX8_seat_34 rfl ?_
  refine V.getr fl_X8_21 dX8_seat_35 (hs_a.1 0 (8, 0) rfl) (hs_a.2 0 7 4 rfl) (by decide) rfl ?_
  refine V.iload_n dX8_seat_38 rfl ?_
  refine V.aload_n dX8_seat_39 rfl ?_
  refine V.getf fl_X8_40 dX8_seat_40 (hs_a.1 0 (8, 0) rfl) (by decide) rfl ?_
  refine V.iastE dX8_seat_43 (hs_a.1 4 (20, 6) rfl) hb5 (fun I8 e9 => ?_)
  rw [← e9] at hf
  try dsimp only at hf
  clear e9
  obtain rfl := Option.some.inj hf
  exact V.vret dX8_seat_44 rfl (Nat.le_refl _) (Nat.le_refl _) ⟨rfl, rfl⟩
theorem dX8_isAhead_0 : decode cX8_isAhead 0 = .ok (.aload_n 0, 1) := by decide +kernel
theorem dX8_isAhead_1 : decode cX8_isAhead 1 = .ok (.iload_n 1, 1) := by decide +kernel
theorem dX8_isAhead_2 : decode cX8_isAhead 2 = .ok (.invokevirtual 63, 3) := by decide +kernel
theorem dX8_isAhead_5 : decode cX8_isAhead 5 = .ok (.istore_n 3, 1) := by decide +kernel
theorem dX8_isAhead_6 : decode cX8_isAhead 6 = .ok (.iload_n 3, 1) := by decide +kernel
theorem dX8_isAhead_7 : decode cX8_isAhead 7 = .ok (.aload_n 0, 1) := by decide +kernel
theorem dX8_isAhead_8 : decode cX8_isAhead 8 = .ok (.iload_n 2, 1) := by decide +kernel
theorem dX8_isAhead_9 : decode cX8_isAhead 9 = .ok (.invokevirtual 63, 3) := by decide +kernel
theorem dX8_isAhead_12 : decode cX8_isAhead 12 = .ok (.if_icmp .eq 5, 3) := by decide +kernel
theorem dX8_isAhead_15 : decode cX8_isAhead 15 = .ok (.iload_n 3, 1) := by decide +kernel
theorem dX8_isAhead_16 : decode cX8_isAhead 16 = .ok (.ireturn, 1) := by decide +kernel
theorem dX8_isAhead_17 : decode cX8_isAhead 17 = .ok (.iload_n 3, 1) := by decide +kernel
theorem dX8_isAhead_18 : decode cX8_isAhead 18 = .ok (.ifCond .ne 39, 3) := by decide +kernel
theorem dX8_isAhead_21 : decode cX8_isAhead 21 = .ok (.aload_n 0, 1) := by decide +kernel
theorem dX8_isAhead_22 : decode cX8_isAhead 22 = .ok (.getfield 21, 3) := by decide +kernel
theorem dX8_isAhead_25 : decode cX8_isAhead 25 = .ok (.iload_n 1, 1) := by decide +kernel
theorem dX8_isAhead_26 : decode cX8_isAhead 26 = .ok (.iaload, 1) := by decide +kernel
theorem dX8_isAhead_27 : decode cX8_isAhead 27 = .ok (.aload_n 0, 1) := by decide +kernel
theorem dX8_isAhead_28 : decode cX8_isAhead 28 = .ok (.getfield 21, 3) := by decide +kernel
theorem dX8_isAhead_31 : decode cX8_isAhead 31 = .ok (.iload_n 2, 1) := by decide +kernel
theorem dX8_isAhead_32 : decode cX8_isAhead 32 = .ok (.iaload, 1) := by decide +kernel
theorem dX8_isAhead_33 : decode cX8_isAhead 33 = .ok (.if_icmp .eq 24, 3) := by decide +kernel
theorem dX8_isAhead_36 : decode cX8_isAhead 36 = .ok (.aload_n 0, 1) := by decide +kernel
theorem dX8_isAhead_37 : decode cX8_isAhead 37 = .ok (.getfield 21, 3) := by decide +kernel
theorem dX8_isAhead_40 : decode cX8_isAhead 40 = .ok (.iload_n 1, 1) := by decide +kernel
theorem dX8_isAhead_41 : decode cX8_isAhead 41 = .ok (.iaload, 1) := by decide +kernel
theorem dX8_isAhead_42 : decode cX8_isAhead 42 = .ok (.aload_n 0, 1) := by decide +kernel
theorem dX8_isAhead_43 : decode cX8_isAhead 43 = .ok (.getfield 21, 3) := by decide +kernel
theorem dX8_isAhead_46 : decode cX8_isAhead 46 = .ok (.iload_n 2, 1) := by decide +kernel
theorem dX8_isAhead_47 : decode cX8_isAhead 47 = .ok (.iaload, 1) := by decide +kernel
theorem dX8_isAhead_48 : decode cX8_isAhead 48 = .ok (.if_icmp .le 7, 3) := by decide +kernel
theorem dX8_isAhead_51 : decode cX8_isAhead 51 = .ok (.iconst 1, 1) := by decide +kernel
theorem dX8_isAhead_52 : decode cX8_isAhead 52 = .ok (.goto 4, 3) := by decide +kernel
theorem dX8_isAhead_55 : decode cX8_isAhead 55 = .ok (.iconst 0, 1) := by decide +kernel
theorem dX8_isAhead_56 : decode cX8_isAhead 56 = .ok (.ireturn, 1) := by decide +kernel
theorem dX8_isAhead_57 : decode cX8_isAhead 57 = .ok (.iload_n 1, 1) := by decide +kernel
theorem dX8_isAhead_58 : decode cX8_isAhead 58 = .ok (.iload_n 2, 1) := by decide +kernel
theorem dX8_isAhead_59 : decode cX8_isAhead 59 = .ok (.if_icmp .ge 7, 3) := by decide +kernel
theorem dX8_isAhead_62 : decode cX8_isAhead 62 = .ok (.iconst 1, 1) := by decide +kernel
theorem dX8_isAhead_63 : decode cX8_isAhead 63 = .ok (.goto 4, 3) := by decide +kernel
theorem dX8_isAhead_66 : decode cX8_isAhead 66 = .ok (.iconst 0, 1) := by decide +kernel
theorem dX8_isAhead_67 : decode cX8_isAhead 67 = .ok (.ireturn, 1) := by decide +kernel
def s_isAhead (I : Nat → Nat → Int32) (a : Nat) (v1 : Int32) (v2 : Int32) : Option (Int32) := let x1 := (s_isUp I a v1); if x1 = (s_isUp I a v2) then (if x1 = 0 then (chk v1 6 (chk v2 6 (if (I (a + 4) (Int32.toNatClampNeg v1)) = (I (a + 4) (Int32.toNatClampNeg v2)) then (if v2 ≤ v1 then (some 0) else (some 1)) else (if (I (a + 4) (Int32.toNatClampNeg v1)) ≤ (I (a + 4) (Int32.toNatClampNeg v2)) then (some 0) else (some 1))))) else (if v2 ≤ v1 then (some 0) else (some 1))) else (isb x1 (some x1))
theorem c_s_isAhead {l : Launch} {D : va_G} {E : Nat → ClassId} {B : Nat → Prop} {n : Nat} {T : Nat → Option (Nat × Nat)} {I : Nat → Nat → Int32} {J : Nat → Nat → Int64} {P : Nat → Nat → Option Nat} {a : Nat} {v1 : Int32} {v2 : Int32} {r : Int32} (hs_a : isSt T P a) (hf : s_isAhead I a v1 v2 = some r) : Ct l D E B yX8_isAhead cX8_isAhead 4 (some .boolean) 1 0 0 [.ref a, .int v1, .int v2] (n, T, I, J, P) (Ret (some (.int r)) (n, T, I, J, P)) := by
  unfold s_isAhead at hf
  refine Ct.ofV (by decide) (Nat.le_of_ble_eq_true rfl) ?_
  refine V.aload_n dX8_isAhead_0 rfl ?_
  refine V.iload_n dX8_isAhead_1 rfl ?_
  refine V.inv cv_X8_63 (c_s_isUp hs_a) dX8_isAhead_2 (hs_a.1 0 (8, 0) rfl) (by decide) rfl rfl rfl (Nat.le_of_ble_eq_true rfl) (by decide) (by decide) (Nat.le_refl _) (Nat.le_refl _) (fun _ _ hq => ?_)
  obtain ⟨rfl, rfl⟩ := hq
  refine V.istore_n dX8_isAhead_5 rfl (by decide) (by first | exact rfl | exact trivial) ?_
  obtain ⟨x1, e2⟩ : ∃ zz_, zz_ = (s_isUp I a v1) := ⟨_, rfl⟩
  rw [← e2] at hf ⊢
  try dsimp only at hf
  refine V.iload_n dX8_isAhead_6 rfl ?_
  refine V.aload_n dX8_isAhead_7 rfl ?_
  refine V.iload_n dX8_isAhead_8 rfl ?_
  refine V.inv cv_X8_63 (c_s_isUp hs_a) dX8_isAhead_9 (hs_a.1 0 (8, 0) rfl) (by decide) rfl rfl rfl (Nat.le_of_ble_eq_true rfl) (by decide) (by decide) (Nat.le_refl _) (Nat.le_refl _) (fun _ _ hq => ?_)
  obtain ⟨rfl, rfl⟩ := hq
  refine V.icmp_eq 17 dX8_isAhead_12 (by decide) (fun c3 => ?_) (fun c3 => ?_)
  · rw [if_pos c3] at hf
    refine V.iload_n dX8_isAhead_17 rfl ?_
    refine V.if_ne 57 dX8_isAhead_18 (by decide) (fun c4 => ?_) (fun c4 => ?_)
    · rw [if_neg c4] at hf
      refine V.iload_n dX8_isAhead_57 rfl ?_
      refine V.iload_n dX8_isAhead_58 rfl ?_
      refine V.icmp_ge 66 dX8_isAhead_59 (by decide) (fun c5 => ?_) (fun c5 => ?_)
      · rw [if_pos c5] at hf
        refine V.iconst (v := 0) dX8_isAhead_66 (by decide) ?_
        obtain rfl := Option.some.inj hf
        exact V.zret dX8_isAhead_67 rfl rfl (Nat.le_refl _) (Nat.le_refl _) ⟨rfl, rfl⟩
      · rw [if_neg c5] at hf
        refine V.iconst (v := 1) dX8_isAhead_62 (by decide) ?_
        refine V.goto 67 dX8_isAhead_63 (by decide) ?_
        obtain rfl := Option.some.inj hf
        exact V.zret dX8_isAhead_67 rfl rfl (Nat.le_refl _) (Nat.le_refl _) ⟨rfl, rfl⟩
    · rw [if_pos c4] at hf
      refine V.aload_n dX8_isAhead_21 rfl ?_
      refine V.getr fl_X8_21 dX8_isAhead_22 (hs_a.1 0 (8, 0) rfl) (hs_a.2 0 7 4 rfl) (by decide) rfl ?_
      refine V.iload_n dX8_isAhead_25 rfl ?_
      obtain ⟨hb6, hf⟩ := chk_some hf
      refine V.iald dX8_isAhead_26 (hs_a.1 4 (20, 6) rfl) hb6 ?_
      refine V.aload_n dX8_isAhead_27 rfl ?_
      refine V.getr fl_X8_21 dX8_isAhead_28 (hs_a.1 0 (8, 0) rfl) (hs_a.2 0 7 4 rfl) (by decide) rfl ?_
      refine V.iload_n dX8_isAhead_31 rfl ?_
      obtain ⟨hb7, hf⟩ := chk_some hf
      refine V.iald dX8_isAhead_32 (hs_a.1 4 (20, 6) rfl) hb7 ?_
      refine V.icmp_eq 57 dX8_isAhead_33 (by decide) (fun c8 => ?_) (fun c8 => ?_)
      · rw [if_pos c8] at hf
        refine V.iload_n dX8_isAhead_57 rfl ?_
        refine V.iload_n dX8_isAhead_58 rfl ?_
        refine V.icmp_ge 66 dX8_isAhead_59 (by decide) (fun c9 => ?_) (fun c9 => ?_)
        · rw [if_pos c9] at hf
          refine V.iconst (v := 0) dX8_isAhead_66 (by decide) ?_
          obtain rfl := Option.some.inj hf
          exact V.zret dX8_isAhead_67 rfl rfl (Nat.le_refl _) (Nat.le_refl _) ⟨rfl, rfl⟩
        · rw [if_neg c9] at hf
          refine V.iconst (v := 1) dX8_isAhead_62 (by decide) ?_
          refine V.goto 67 dX8_isAhead_63 (by decide) ?_
          obtain rfl := Option.some.inj hf
          exact V.zret dX8_isAhead_67 rfl rfl (Nat.le_refl _) (Nat.le_refl _) ⟨rfl, rfl⟩
      · rw [if_neg c8] at hf
        refine V.aload_n dX8_isAhead_36 rfl ?_
        refine V.getr fl_X8_21 dX8_isAhead_37 (hs_a.1 0 (8, 0) rfl) (hs_a.2 0 7 4 rfl) (by decide) rfl ?_
        refine V.iload_n dX8_isAhead_40 rfl ?_
        refine V.iald dX8_isAhead_41 (hs_a.1 4 (20, 6) rfl) hb6 ?_
        refine V.aload_n dX8_isAhead_42 rfl ?_
        refine V.getr fl_X8_21 dX8_isAhead_43 (hs_a.1 0 (8, 0) rfl) (hs_a.2 0 7 4 rfl) (by decide) rfl ?_
        refine V.iload_n dX8_isAhead_46 rfl ?_
        refine V.iald dX8_isAhead_47 (hs_a.1 4 (20, 6) rfl) hb7 ?_
        refine V.icmp_le 55 dX8_isAhead_48 (by decide) (fun c10 => ?_) (fun c10 => ?_)
        · rw [if_pos c10] at hf
          refine V.iconst (v := 0) dX8_isAhead_55 (by decide) ?_
          obtain rfl := Option.some.inj hf
          exact V.zret dX8_isAhead_56 rfl rfl (Nat.le_refl _) (Nat.le_refl _) ⟨rfl, rfl⟩
        · rw [if_neg c10] at hf
          refine V.iconst (v := 1) dX8_isAhead_51 (by decide) ?_
          refine V.goto 56 dX8_isAhead_52 (by decide) ?_
          obtain rfl := Option.some.inj hf
          exact V.zret dX8_isAhead_56 rfl rfl (Nat.le_refl _) (Nat.le_refl _) ⟨rfl, rfl⟩
  · rw [if_neg c3] at hf
    refine V.iload_n dX8_isAhead_15 rfl ?_
    obtain ⟨hn11, hf⟩ := isb_some hf
    obtain rfl := Option.some.inj hf
    exact V.zret dX8_isAhead_16 rfl hn11 (Nat.le_refl _) (Nat.le_refl _) ⟨rfl, rfl⟩
theorem dX8_placeOf_0 : decode cX8_placeOf 0 = .ok (.iconst 0, 1) := by decide +kernel
theorem dX8_placeOf_1 : decode cX8_placeOf 1 = .ok (.istore_n 2, 1) := by decide +kernel
theorem dX8_placeOf_2 : decode cX8_placeOf 2 = .ok (.iconst 0, 1) := by decide +kernel
theorem dX8_placeOf_3 : decode cX8_placeOf 3 = .ok (.istore_n 3, 1) := by decide +kernel
theorem dX8_placeOf_4 : decode cX8_placeOf 4 = .ok (.iload_n 3, 1) := by decide +kernel
theorem dX8_placeOf_5 : decode cX8_placeOf 5 = .ok (.aload_n 0, 1) := by decide +kernel
theorem dX8_placeOf_6 : decode cX8_placeOf 6 = .ok (.getfield 30, 3) := by decide +kernel
theorem dX8_placeOf_9 : decode cX8_placeOf 9 = .ok (.if_icmp .ge 26, 3) := by decide +kernel
theorem dX8_placeOf_12 : decode cX8_placeOf 12 = .ok (.iload_n 3, 1) := by decide +kernel
theorem dX8_placeOf_13 : decode cX8_placeOf 13 = .ok (.iload_n 1, 1) := by decide +kernel
theorem dX8_placeOf_14 : decode cX8_placeOf 14 = .ok (.if_icmp .eq 15, 3) := by decide +kernel
theorem dX8_placeOf_17 : decode cX8_placeOf 17 = .ok (.aload_n 0, 1) := by decide +kernel
theorem dX8_placeOf_18 : decode cX8_placeOf 18 = .ok (.iload_n 3, 1) := by decide +kernel
theorem dX8_placeOf_19 : decode cX8_placeOf 19 = .ok (.iload_n 1, 1) := by decide +kernel
theorem dX8_placeOf_20 : decode cX8_placeOf 20 = .ok (.invokevirtual 84, 3) := by decide +kernel
theorem dX8_placeOf_23 : decode cX8_placeOf 23 = .ok (.ifCond .eq 6, 3) := by decide +kernel
theorem dX8_placeOf_26 : decode cX8_placeOf 26 = .ok (.iinc 2 1, 3) := by decide +kernel
theorem dX8_placeOf_29 : decode cX8_placeOf 29 = .ok (.iinc 3 1, 3) := by decide +kernel
theorem dX8_placeOf_32 : decode cX8_placeOf 32 = .ok (.goto (-28), 3) := by decide +kernel
theorem dX8_placeOf_35 : decode cX8_placeOf 35 = .ok (.iload_n 2, 1) := by decide +kernel
theorem dX8_placeOf_36 : decode cX8_placeOf 36 = .ok (.ireturn, 1) := by decide +kernel
def s_placeOf_4 (F : Nat) (I : Nat → Nat → Int32) (a : Nat) (g1 : Int32) : Nat → Int32 → Int32 → Option (Int32 × Int32)
  | 0, _, _ => none
  | k + 1, l2, l3 => if (I a 0) ≤ l3 then (some (l2, l3)) else (if l3 = g1 then (s_placeOf_4 F I a g1 k l2 (l3 + 1)) else ((s_isAhead I a l3 g1).bind (fun q3 => let u5 := q3; if u5 = 0 then (s_placeOf_4 F I a g1 k l2 (l3 + 1)) else (s_placeOf_4 F I a g1 k (l2 + 1) (l3 + 1)))))
def s_placeOf (F : Nat) (I : Nat → Nat → Int32) (a : Nat) (v1 : Int32) : Option (Int32) := (s_placeOf_4 F I a v1 F 0 0).bind (fun q7 => let m9 := q7.1; let m10 := q7.2; some m9)
theorem l_s_placeOf_4 {l : Launch} {D : va_G} {E : Nat → ClassId} {B : Nat → Prop} {n F : Nat} {Q : Option Value → HT → Prop} {T : Nat → Option (Nat × Nat)} {I : Nat → Nat → Int32} {J : Nat → Nat → Int64} {P : Nat → Nat → Option Nat} {a : Nat} {g1 : Int32} (hs_a : isSt T P a)  (r : Int32 × Int32) : ∀ (k : Nat) (l2 : Int32) (l3 : Int32), s_placeOf_4 F I a g1 k l2 l3 = some r → V l D E B yX8_placeOf cX8_placeOf 4 (some .int) 2 0 0 Q 0 0 (n, T, I, J, P) 35 [(0, some (.ref a)), (1, some (.int g1)), (2, some (.int (r.1))), (3, some (.int (r.2)))] [] → V l D E B yX8_placeOf cX8_placeOf 4 (some .int) 2 0 0 Q 0 0 (n, T, I, J, P) 4 [(0, some (.ref a)), (1, some (.int g1)), (2, some (.int l2)), (3, some (.int l3))] [] := by
  intro k
  induction k with
  | zero =>
    intro l2 l3 hf hk
    cases hf
  | succ k ih =>
    intro l2 l3 hf hk
    unfold s_placeOf_4 at hf
    refine V.iload_n dX8_placeOf_4 rfl ?_
    refine V.aload_n dX8_placeOf_5 rfl ?_
    refine V.getf fl_X8_30 dX8_placeOf_6 (hs_a.1 0 (8, 0) rfl) (by decide) rfl ?_
    refine V.icmp_ge 35 dX8_placeOf_9 (by decide) (fun c1 => ?_) (fun c1 => ?_)
    · rw [if_pos c1] at hf
      obtain rfl := Option.some.inj hf
      exact V.lo [(0, some (.ref a)), (1, some (.int g1)), (2, some (.int l2)), (3, some (.int l3))] (by simp only [Subs]; repeat' first | exact trivial | constructor | rfl) hk
    · rw [if_neg c1] at hf
      refine V.iload_n dX8_placeOf_12 rfl ?_
      refine V.iload_n dX8_placeOf_13 rfl ?_
      refine V.icmp_eq 29 dX8_placeOf_14 (by decide) (fun c2 => ?_) (fun c2 => ?_)
      · rw [if_pos c2] at hf
        refine V.iinc (v := (l3 + 1)) dX8_placeOf_29 rfl rfl (by first | exact rfl | exact trivial) ?_
        refine V.goto 4 dX8_placeOf_32 (by decide) ?_
        exact V.lo [(0, some (.ref a)), (1, some (.int g1)), (2, some (.int l2)), (3, some (.int (l3 + 1)))] (by simp only [Subs]; repeat' first | exact trivial | constructor | rfl) (ih _ _ hf hk)
      · rw [if_neg c2] at hf
        refine V.aload_n dX8_placeOf_17 rfl ?_
        refine V.iload_n dX8_placeOf_18 rfl ?_
        refine V.iload_n dX8_placeOf_19 rfl ?_
        obtain ⟨u5, hk4, hf⟩ := bnd_some hf
        try dsimp only at hf
        refine V.inv cv_X8_84 (c_s_isAhead hs_a hk4) dX8_placeOf_20 (hs_a.1 0 (8, 0) rfl) (by decide) rfl rfl rfl (Nat.le_of_ble_eq_true rfl) (by decide) (by decide) (Nat.le_refl _) (Nat.le_refl _) (fun _ _ hq => ?_)
        obtain ⟨rfl, rfl⟩ := hq
        refine V.if_eq 29 dX8_placeOf_23 (by decide) (fun c6 => ?_) (fun c6 => ?_)
        · rw [if_pos c6] at hf
          refine V.iinc (v := (l3 + 1)) dX8_placeOf_29 rfl rfl (by first | exact rfl | exact trivial) ?_
          refine V.goto 4 dX8_placeOf_32 (by decide) ?_
          exact V.lo [(0, some (.ref a)), (1, some (.int g1)), (2, some (.int l2)), (3, some (.int (l3 + 1)))] (by simp only [Subs]; repeat' first | exact trivial | constructor | rfl) (ih _ _ hf hk)
        · rw [if_neg c6] at hf
          refine V.iinc (v := (l2 + 1)) dX8_placeOf_26 rfl rfl (by first | exact rfl | exact trivial) ?_
          refine V.iinc (v := (l3 + 1)) dX8_placeOf_29 rfl rfl (by first | exact rfl | exact trivial) ?_
          refine V.goto 4 dX8_placeOf_32 (by decide) ?_
          exact V.lo [(0, some (.ref a)), (1, some (.int g1)), (2, some (.int (l2 + 1))), (3, some (.int (l3 + 1)))] (by simp only [Subs]; repeat' first | exact trivial | constructor | rfl) (ih _ _ hf hk)
theorem c_s_placeOf {l : Launch} {D : va_G} {E : Nat → ClassId} {B : Nat → Prop} {n F : Nat} {T : Nat → Option (Nat × Nat)} {I : Nat → Nat → Int32} {J : Nat → Nat → Int64} {P : Nat → Nat → Option Nat} {a : Nat} {v1 : Int32} {r : Int32} (hs_a : isSt T P a) (hf : s_placeOf F I a v1 = some r) : Ct l D E B yX8_placeOf cX8_placeOf 4 (some .int) 2 0 0 [.ref a, .int v1] (n, T, I, J, P) (Ret (some (.int r)) (n, T, I, J, P)) := by
  unfold s_placeOf at hf
  refine Ct.ofV (by decide) (Nat.le_of_ble_eq_true rfl) ?_
  refine V.iconst (v := 0) dX8_placeOf_0 (by decide) ?_
  refine V.istore_n dX8_placeOf_1 rfl (by decide) (by first | exact rfl | exact trivial) ?_
  refine V.iconst (v := 0) dX8_placeOf_2 (by decide) ?_
  refine V.istore_n dX8_placeOf_3 rfl (by decide) (by first | exact rfl | exact trivial) ?_
  obtain ⟨⟨m9, m10⟩, hk8, hf⟩ := bnd_some hf
  try dsimp only at hf
  refine V.lo [(0, some (.ref a)), (1, some (.int v1)), (2, some (.int 0)), (3, some (.int 0))] (by simp only [Subs]; repeat' first | exact trivial | constructor | rfl) (l_s_placeOf_4 hs_a _ F _ _ hk8 ?_)
  try dsimp only
  refine V.iload_n dX8_placeOf_35 rfl ?_
  obtain rfl := Option.some.inj hf
  exact V.iret dX8_placeOf_36 rfl (Nat.le_refl _) (Nat.le_refl _) ⟨rfl, rfl⟩
theorem dX8_firstInPlace_0 : decode cX8_firstInPlace 0 = .ok (.aload_n 0, 1) := by decide +kernel
theorem dX8_firstInPlace_1 : decode cX8_firstInPlace 1 = .ok (.getfield 30, 3) := by decide +kernel
theorem dX8_firstInPlace_4 : decode cX8_firstInPlace 4 = .ok (.ifCond .ne 7, 3) := by decide +kernel
theorem dX8_firstInPlace_7 : decode cX8_firstInPlace 7 = .ok (.iconst (-1), 1) := by decide +kernel
theorem dX8_firstInPlace_8 : decode cX8_firstInPlace 8 = .ok (.goto 4, 3) := by decide +kernel
theorem dX8_firstInPlace_11 : decode cX8_firstInPlace 11 = .ok (.iconst 0, 1) := by decide +kernel
theorem dX8_firstInPlace_12 : decode cX8_firstInPlace 12 = .ok (.istore_n 1, 1) := by decide +kernel
theorem dX8_firstInPlace_13 : decode cX8_firstInPlace 13 = .ok (.iconst 1, 1) := by decide +kernel
theorem dX8_firstInPlace_14 : decode cX8_firstInPlace 14 = .ok (.istore_n 2, 1) := by decide +kernel
theorem dX8_firstInPlace_15 : decode cX8_firstInPlace 15 = .ok (.iload_n 2, 1) := by decide +kernel
theorem dX8_firstInPlace_16 : decode cX8_firstInPlace 16 = .ok (.aload_n 0, 1) := by decide +kernel
theorem dX8_firstInPlace_17 : decode cX8_firstInPlace 17 = .ok (.getfield 30, 3) := by decide +kernel
theorem dX8_firstInPlace_20 : decode cX8_firstInPlace 20 = .ok (.if_icmp .ge 20, 3) := by decide +kernel
theorem dX8_firstInPlace_23 : decode cX8_firstInPlace 23 = .ok (.aload_n 0, 1) := by decide +kernel
theorem dX8_firstInPlace_24 : decode cX8_firstInPlace 24 = .ok (.iload_n 2, 1) := by decide +kernel
theorem dX8_firstInPlace_25 : decode cX8_firstInPlace 25 = .ok (.iload_n 1, 1) := by decide +kernel
theorem dX8_firstInPlace_26 : decode cX8_firstInPlace 26 = .ok (.invokevirtual 84, 3) := by decide +kernel
theorem dX8_firstInPlace_29 : decode cX8_firstInPlace 29 = .ok (.ifCond .eq 5, 3) := by decide +kernel
theorem dX8_firstInPlace_32 : decode cX8_firstInPlace 32 = .ok (.iload_n 2, 1) := by decide +kernel
theorem dX8_firstInPlace_33 : decode cX8_firstInPlace 33 = .ok (.istore_n 1, 1) := by decide +kernel
theorem dX8_firstInPlace_34 : decode cX8_firstInPlace 34 = .ok (.iinc 2 1, 3) := by decide +kernel
theorem dX8_firstInPlace_37 : decode cX8_firstInPlace 37 = .ok (.goto (-22), 3) := by decide +kernel
theorem dX8_firstInPlace_40 : decode cX8_firstInPlace 40 = .ok (.iload_n 1, 1) := by decide +kernel
theorem dX8_firstInPlace_41 : decode cX8_firstInPlace 41 = .ok (.ireturn, 1) := by decide +kernel
def s_firstInPlace_15 (F : Nat) (I : Nat → Nat → Int32) (a : Nat) : Nat → Int32 → Int32 → Option (Int32 × Int32)
  | 0, _, _ => none
  | k + 1, l1, l2 => if (I a 0) ≤ l2 then (some (l1, l2)) else ((s_isAhead I a l2 l1).bind (fun q3 => let u5 := q3; if u5 = 0 then (s_firstInPlace_15 F I a k l1 (l2 + 1)) else (s_firstInPlace_15 F I a k l2 (l2 + 1))))
def s_firstInPlace (F : Nat) (I : Nat → Nat → Int32) (a : Nat) : Option (Int32) := if (I a 0) = 0 then ((s_firstInPlace_15 F I a F (-1) 1).bind (fun q11 => let m13 := q11.1; let m14 := q11.2; some m13)) else ((s_firstInPlace_15 F I a F 0 1).bind (fun q7 => let m9 := q7.1; let m10 := q7.2; some m9))
theorem l_s_firstInPlace_15 {l : Launch} {D : va_G} {E : Nat → ClassId} {B : Nat → Prop} {n F : Nat} {Q : Option Value → HT → Prop} {T : Nat → Option (Nat × Nat)} {I : Nat → Nat → Int32} {J : Nat → Nat → Int64} {P : Nat → Nat → Option Nat} {a : Nat}  (hs_a : isSt T P a)  (r : Int32 × Int32) : ∀ (k : Nat) (l1 : Int32) (l2 : Int32), s_firstInPlace_15 F I a k l1 l2 = some r → V l D E B yX8_firstInPlace cX8_firstInPlace 3 (some .int) 2 0 0 Q 0 0 (n, T, I, J, P) 40 [(0, some (.ref a)), (1, some (.int (r.1))), (2, some (.int (r.2)))] [] → V l D E B yX8_firstInPlace cX8_firstInPlace 3 (some .int) 2 0 0 Q 0 0 (n, T, I, J, P) 15 [(0, some (.ref a)), (1, some (.int l1)), (2, some (.int l2))] [] := by
  intro k
  induction k with
  | zero =>
    intro l1 l2 hf hk
    cases hf
  | succ k ih =>
    intro l1 l2 hf hk
    unfold s_firstInPlace_15 at hf
    refine V.iload_n dX8_firstInPlace_15 rfl ?_
    refine V.aload_n dX8_firstInPlace_16 rfl ?_
    refine V.getf fl_X8_30 dX8_firstInPlace_17 (hs_a.1 0 (8, 0) rfl) (by decide) rfl ?_
    refine V.icmp_ge 40 dX8_firstInPlace_20 (by decide) (fun c2 => ?_) (fun c2 => ?_)
    · rw [if_pos c2] at hf
      obtain rfl := Option.some.inj hf
      exact V.lo [(0, some (.ref a)), (1, some (.int l1)), (2, some (.int l2))] (by simp only [Subs]; repeat' first | exact trivial | constructor | rfl) hk
    · rw [if_neg c2] at hf
      refine V.aload_n dX8_firstInPlace_23 rfl ?_
      refine V.iload_n dX8_firstInPlace_24 rfl ?_
      refine V.iload_n dX8_firstInPlace_25 rfl ?_
      obtain ⟨u5, hk4, hf⟩ := bnd_some hf
      try dsimp only at hf
      refine V.inv cv_X8_84 (c_s_isAhead hs_a hk4) dX8_firstInPlace_26 (hs_a.1 0 (8, 0) rfl) (by decide) rfl rfl rfl (Nat.le_of_ble_eq_true rfl) (by decide) (by decide) (Nat.le_refl _) (Nat.le_refl _) (fun _ _ hq => ?_)
      obtain ⟨rfl, rfl⟩ := hq
      refine V.if_eq 34 dX8_firstInPlace_29 (by decide) (fun c6 => ?_) (fun c6 => ?_)
      · rw [if_pos c6] at hf
        refine V.iinc (v := (l2 + 1)) dX8_firstInPlace_34 rfl rfl (by first | exact rfl | exact trivial) ?_
        refine V.goto 15 dX8_firstInPlace_37 (by decide) ?_
        exact V.lo [(0, some (.ref a)), (1, some (.int l1)), (2, some (.int (l2 + 1)))] (by simp only [Subs]; repeat' first | exact trivial | constructor | rfl) (ih _ _ hf hk)
      · rw [if_neg c6] at hf
        refine V.iload_n dX8_firstInPlace_32 rfl ?_
        refine V.istore_n dX8_firstInPlace_33 rfl (by decide) (by first | exact rfl | exact trivial) ?_
        refine V.iinc (v := (l2 + 1)) dX8_firstInPlace_34 rfl rfl (by first | exact rfl | exact trivial) ?_
        refine V.goto 15 dX8_firstInPlace_37 (by decide) ?_
        exact V.lo [(0, some (.ref a)), (1, some (.int l2)), (2, some (.int (l2 + 1)))] (by simp only [Subs]; repeat' first | exact trivial | constructor | rfl) (ih _ _ hf hk)
theorem c_s_firstInPlace {l : Launch} {D : va_G} {E : Nat → ClassId} {B : Nat → Prop} {n F : Nat} {T : Nat → Option (Nat × Nat)} {I : Nat → Nat → Int32} {J : Nat → Nat → Int64} {P : Nat → Nat → Option Nat} {a : Nat}  {r : Int32} (hs_a : isSt T P a) (hf : s_firstInPlace F I a = some r) : Ct l D E B yX8_firstInPlace cX8_firstInPlace 3 (some .int) 2 0 0 [.ref a] (n, T, I, J, P) (Ret (some (.int r)) (n, T, I, J, P)) := by
  unfold s_firstInPlace at hf
  refine Ct.ofV (by decide) (Nat.le_of_ble_eq_true rfl) ?_
  refine V.aload_n dX8_firstInPlace_0 rfl ?_
  refine V.getf fl_X8_30 dX8_firstInPlace_1 (hs_a.1 0 (8, 0) rfl) (by decide) rfl ?_
  refine V.if_ne 11 dX8_firstInPlace_4 (by decide) (fun c1 => ?_) (fun c1 => ?_)
  · rw [if_neg c1] at hf
    refine V.iconst (v := 0) dX8_firstInPlace_11 (by decide) ?_
    refine V.istore_n dX8_firstInPlace_12 rfl (by decide) (by first | exact rfl | exact trivial) ?_
    refine V.iconst (v := 1) dX8_firstInPlace_13 (by decide) ?_
    refine V.istore_n dX8_firstInPlace_14 rfl (by decide) (by first | exact rfl | exact trivial) ?_
    obtain ⟨⟨m9, m10⟩, hk8, hf⟩ := bnd_some hf
    try dsimp only at hf
    refine V.lo [(0, some (.ref a)), (1, some (.int 0)), (2, some (.int 1))] (by simp only [Subs]; repeat' first | exact trivial | constructor | rfl) (l_s_firstInPlace_15 hs_a _ F _ _ hk8 ?_)
    try dsimp only
    refine V.iload_n dX8_firstInPlace_40 rfl ?_
    obtain rfl := Option.some.inj hf
    exact V.iret dX8_firstInPlace_41 rfl (Nat.le_refl _) (Nat.le_refl _) ⟨rfl, rfl⟩
  · rw [if_pos c1] at hf
    refine V.iconst (v := -1) dX8_firstInPlace_7 (by decide) ?_
    refine V.goto 12 dX8_firstInPlace_8 (by decide) ?_
    refine V.istore_n dX8_firstInPlace_12 rfl (by decide) (by first | exact rfl | exact trivial) ?_
    refine V.iconst (v := 1) dX8_firstInPlace_13 (by decide) ?_
    refine V.istore_n dX8_firstInPlace_14 rfl (by decide) (by first | exact rfl | exact trivial) ?_
    obtain ⟨⟨m13, m14⟩, hk12, hf⟩ := bnd_some hf
    try dsimp only at hf
    refine V.lo [(0, some (.ref a)), (1, some (.int (-1))), (2, some (.int 1))] (by simp only [Subs]; repeat' first | exact trivial | constructor | rfl) (l_s_firstInPlace_15 hs_a _ F _ _ hk12 ?_)
    try dsimp only
    refine V.iload_n dX8_firstInPlace_40 rfl ?_
    obtain rfl := Option.some.inj hf
    exact V.iret dX8_firstInPlace_41 rfl (Nat.le_refl _) (Nat.le_refl _) ⟨rfl, rfl⟩
