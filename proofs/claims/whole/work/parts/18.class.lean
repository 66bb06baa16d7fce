theorem dX6_keep_0 : decode cX6_keep 0 = .ok (.aload_n 0, 1) := by decide +kernel
theorem dX6_keep_1 : decode cX6_keep 1 = .ok (.getfield 11, 3) := by decide +kernel
theorem dX6_keep_4 : decode cX6_keep 4 = .ok (.aload_n 0, 1) := by decide +kernel
theorem dX6_keep_5 : decode cX6_keep 5 = .ok (.getfield 18, 3) := by decide +kernel
theorem dX6_keep_8 : decode cX6_keep 8 = .ok (.aaload, 1) := by decide +kernel
theorem dX6_keep_9 : decode cX6_keep 9 = .ok (.aload_n 1, 1) := by decide +kernel
theorem dX6_keep_10 : decode cX6_keep 10 = .ok (.invokevirtual 22, 3) := by decide +kernel
theorem dX6_keep_13 : decode cX6_keep 13 = .ok (.aload_n 0, 1) := by decide +kernel
theorem dX6_keep_14 : decode cX6_keep 14 = .ok (.aload_n 0, 1) := by decide +kernel
theorem dX6_keep_15 : decode cX6_keep 15 = .ok (.getfield 18, 3) := by decide +kernel
theorem dX6_keep_18 : decode cX6_keep 18 = .ok (.iconst 1, 1) := by decide +kernel
theorem dX6_keep_19 : decode cX6_keep 19 = .ok (.iadd, 1) := by decide +kernel
theorem dX6_keep_20 : decode cX6_keep 20 = .ok (.bipush 10, 2) := by decide +kernel
theorem dX6_keep_22 : decode cX6_keep 22 = .ok (.irem, 1) := by decide +kernel
theorem dX6_keep_23 : decode cX6_keep 23 = .ok (.putfield 18, 3) := by decide +kernel
theorem dX6_keep_26 : decode cX6_keep 26 = .ok (.aload_n 0, 1) := by decide +kernel
theorem dX6_keep_27 : decode cX6_keep 27 = .ok (.aload_n 0, 1) := by decide +kernel
theorem dX6_keep_28 : decode cX6_keep 28 = .ok (.getfield 26, 3) := by decide +kernel
theorem dX6_keep_31 : decode cX6_keep 31 = .ok (.iconst 1, 1) := by decide +kernel
theorem dX6_keep_32 : decode cX6_keep 32 = .ok (.iadd, 1) := by decide +kernel
theorem dX6_keep_33 : decode cX6_keep 33 = .ok (.bipush 10, 2) := by decide +kernel
theorem dX6_keep_35 : decode cX6_keep 35 = .ok (.invokestatic 29, 3) := by decide +kernel
theorem dX6_keep_38 : decode cX6_keep 38 = .ok (.putfield 26, 3) := by decide +kernel
theorem dX6_keep_41 : decode cX6_keep 41 = .ok (.return_, 1) := by decide +kernel
def pa_keep (I : Nat → Nat → Int32) (x : Nat) (a : Nat) : Option ((Nat → Nat → Int32)) := chk (I (x + 19) 1) 10 ((s_copyFrom I (x + (21 + 7 * (Int32.toNatClampNeg (I (x + 19) 1)))) a).bind (fun q2 => let I4 := q2; let I5 := uI I4 (x + 19) 1 (((I4 (x + 19) 1) + 1) - ((I4 (x + 19) 1) + 1) / 10 * 10); let I7 := uI I5 (x + 19) 2 (imin ((I5 (x + 19) 2) + 1) 10); some I7))
theorem c_pa_keep {l : Launch} {D : va_G} {E : Nat → ClassId} {B : Nat → Prop} {n : Nat} {T : Nat → Option (Nat × Nat)} {I : Nat → Nat → Int32} {J : Nat → Nat → Int64} {P : Nat → Nat → Option Nat} {x : Nat} {a : Nat}  {r : (Nat → Nat → Int32)} (hx : isSR T P x) (hs_a : isSt T P a) (hf : pa_keep I x a = some r) : Ct l D E B yX6_keep cX6_keep 2 none 2 0 0 [.ref (x + 19), .ref a] (n, T, I, J, P) (Ret (none) (n, T, r, J, P)) := by
  unfold pa_keep at hf
  refine Ct.ofV (by decide) (Nat.le_of_ble_eq_true rfl) ?_
  refine V.aload_n dX6_keep_0 rfl ?_
  refine V.getr fl_X6_11 dX6_keep_1 (hx.1 19 (6, 0) rfl) (hx.2.1 19 0 20 rfl) (by decide) rfl ?_
  refine V.aload_n dX6_keep_4 rfl ?_
  refine V.getf fl_X6_18 dX6_keep_5 (hx.1 19 (6, 0) rfl) (by decide) rfl ?_
  obtain ⟨hb1, hf⟩ := chk_some hf
  refine V.aald dX6_keep_8 (hx.1 20 (25, 10) rfl) (by decide) hb1 (hx.arr20 (i := (I (x + 19) 1)) hb1) ?_
  refine V.aload_n dX6_keep_9 rfl ?_
  obtain ⟨I4, hk3, hf⟩ := bnd_some hf
  try dsimp only at hf
  refine V.inv cv_X6_22 (c_s_copyFrom (hx.ob20 (i := (I (x + 19) 1)) hb1) hs_a hk3) dX6_keep_10 ((hx.ob20 (i := (I (x + 19) 1)) hb1).1 0 (8, 0) rfl) (by decide) rfl rfl rfl (Nat.le_of_ble_eq_true rfl) (by decide) (by decide) (Nat.le_refl _) (Nat.le_refl _) (fun _ _ hq => ?_)
  obtain ⟨rfl, rfl⟩ := hq
  refine V.aload_n dX6_keep_13 rfl ?_
  refine V.aload_n dX6_keep_14 rfl ?_
  refine V.getf fl_X6_18 dX6_keep_15 (hx.1 19 (6, 0) rfl) (by decide) rfl ?_
  refine V.iconst (v := 1) dX6_keep_18 (by decide) ?_
  refine V.iadd dX6_keep_19 ?_
  refine V.bipush (v := 10) dX6_keep_20 (by decide) ?_
  refine V.irem dX6_keep_22 (by decide) ?_
  refine V.putiE fl_X6_18 dX6_keep_23 (hx.1 19 (6, 0) rfl) (by decide) (fun h => by cases h) rfl rfl rfl (Nat.le_of_ble_eq_true rfl) (fun I5 e6 => ?_)
  rw [← e6] at hf
  try dsimp only at hf
  clear e6
  refine V.aload_n dX6_keep_26 rfl ?_
  refine V.aload_n dX6_keep_27 rfl ?_
  refine V.getf fl_X6_26 dX6_keep_28 (hx.1 19 (6, 0) rfl) (by decide) rfl ?_
  refine V.iconst (v := 1) dX6_keep_31 (by decide) ?_
  refine V.iadd dX6_keep_32 ?_
  refine V.bipush (v := 10) dX6_keep_33 (by decide) ?_
  refine V.ins cs_X6_29 (c_imin) dX6_keep_35 rfl rfl (Nat.le_of_ble_eq_true rfl) (by decide) (by decide) (Nat.le_refl _) (Nat.le_refl _) (fun _ _ hq => ?_)
  obtain ⟨rfl, rfl⟩ := hq
  refine V.putiE fl_X6_26 dX6_keep_38 (hx.1 19 (6, 0) rfl) (by decide) (fun h => by cases h) rfl rfl rfl (Nat.le_of_ble_eq_true rfl) (fun I7 e8 => ?_)
  rw [← e8] at hf
  try dsimp only at hf
  clear e8
  obtain rfl := Option.some.inj hf
  exact V.vret dX6_keep_41 rfl (Nat.le_refl _) (Nat.le_refl _) ⟨rfl, rfl⟩
theorem dX6_bringBack_0 : decode cX6_bringBack 0 = .ok (.aload_n 0, 1) := by decide +kernel
theorem dX6_bringBack_1 : decode cX6_bringBack 1 = .ok (.aload_n 0, 1) := by decide +kernel
theorem dX6_bringBack_2 : decode cX6_bringBack 2 = .ok (.getfield 18, 3) := by decide +kernel
theorem dX6_bringBack_5 : decode cX6_bringBack 5 = .ok (.iload_n 2, 1) := by decide +kernel
theorem dX6_bringBack_6 : decode cX6_bringBack 6 = .ok (.isub, 1) := by decide +kernel
theorem dX6_bringBack_7 : decode cX6_bringBack 7 = .ok (.bipush 10, 2) := by decide +kernel
theorem dX6_bringBack_9 : decode cX6_bringBack 9 = .ok (.invokestatic 35, 3) := by decide +kernel
theorem dX6_bringBack_12 : decode cX6_bringBack 12 = .ok (.putfield 18, 3) := by decide +kernel
theorem dX6_bringBack_15 : decode cX6_bringBack 15 = .ok (.aload_n 0, 1) := by decide +kernel
theorem dX6_bringBack_16 : decode cX6_bringBack 16 = .ok (.dup, 1) := by decide +kernel
theorem dX6_bringBack_17 : decode cX6_bringBack 17 = .ok (.getfield 26, 3) := by decide +kernel
theorem dX6_bringBack_20 : decode cX6_bringBack 20 = .ok (.iload_n 2, 1) := by decide +kernel
theorem dX6_bringBack_21 : decode cX6_bringBack 21 = .ok (.isub, 1) := by decide +kernel
theorem dX6_bringBack_22 : decode cX6_bringBack 22 = .ok (.putfield 26, 3) := by decide +kernel
theorem dX6_bringBack_25 : decode cX6_bringBack 25 = .ok (.aload_n 1, 1) := by decide +kernel
theorem dX6_bringBack_26 : decode cX6_bringBack 26 = .ok (.aload_n 0, 1) := by decide +kernel
theorem dX6_bringBack_27 : decode cX6_bringBack 27 = .ok (.getfield 11, 3) := by decide +kernel
theorem dX6_bringBack_30 : decode cX6_bringBack 30 = .ok (.aload_n 0, 1) := by decide +kernel
theorem dX6_bringBack_31 : decode cX6_bringBack 31 = .ok (.getfield 18, 3) := by decide +kernel
theorem dX6_bringBack_34 : decode cX6_bringBack 34 = .ok (.aaload, 1) := by decide +kernel
theorem dX6_bringBack_35 : decode cX6_bringBack 35 = .ok (.invokevirtual 22, 3) := by decide +kernel
theorem dX6_bringBack_38 : decode cX6_bringBack 38 = .ok (.return_, 1) := by decide +kernel
def pa_bringBack (I : Nat → Nat → Int32) (x : Nat) (a : Nat) (v2 : Int32) : Option ((Nat → Nat → Int32)) := (floorMod ((I (x + 19) 1) - v2) 10).bind (fun q1 => let u3 := q1; let I4 := uI I (x + 19) 1 u3; let I6 := uI I4 (x + 19) 2 ((I4 (x + 19) 2) - v2); chk (I6 (x + 19) 1) 10 ((s_copyFrom I6 a (x + (21 + 7 * (Int32.toNatClampNeg (I6 (x + 19) 1))))).bind (fun q9 => let I11 := q9; some I11)))
theorem c_pa_bringBack {l : Launch} {D : va_G} {E : Nat → ClassId} {B : Nat → Prop} {n : Nat} {T : Nat → Option (Nat × Nat)} {I : Nat → Nat → Int32} {J : Nat → Nat → Int64} {P : Nat → Nat → Option Nat} {x : Nat} {a : Nat} {v2 : Int32} {r : (Nat → Nat → Int32)} (hx : isSR T P x) (hs_a : isSt T P a) (hf : pa_bringBack I x a v2 = some r) : Ct l D E B yX6_bringBack cX6_bringBack 3 none 2 0 0 [.ref (x + 19), .ref a, .int v2] (n, T, I, J, P) (Ret (none) (n, T, r, J, P)) := by
  unfold pa_bringBack at hf
  refine Ct.ofV (by decide) (Nat.le_of_ble_eq_true rfl) ?_
  refine V.aload_n dX6_bringBack_0 rfl ?_
  refine V.aload_n dX6_bringBack_1 rfl ?_
  refine V.getf fl_X6_18 dX6_bringBack_2 (hx.1 19 (6, 0) rfl) (by decide) rfl ?_
  refine V.iload_n dX6_bringBack_5 rfl ?_
  refine V.isub dX6_bringBack_6 ?_
  refine V.bipush (v := 10) dX6_bringBack_7 (by decide) ?_
  obtain ⟨u3, hk2, hf⟩ := bnd_some hf
  try dsimp only at hf
  refine V.ins cs_X6_35 (c_floorMod hk2) dX6_bringBack_9 rfl rfl (Nat.le_of_ble_eq_true rfl) (by decide) (by decide) (Nat.le_refl _) (Nat.le_refl _) (fun _ _ hq => ?_)
  obtain ⟨rfl, rfl⟩ := hq
  refine V.putiE fl_X6_18 dX6_bringBack_12 (hx.1 19 (6, 0) rfl) (by decide) (fun h => by cases h) rfl rfl rfl (Nat.le_of_ble_eq_true rfl) (fun I4 e5 => ?_)
  rw [← e5] at hf
  try dsimp only at hf
  clear e5
  refine V.aload_n dX6_bringBack_15 rfl ?_
  refine V.dup dX6_bringBack_16 rfl ?_
  refine V.getf fl_X6_26 dX6_bringBack_17 (hx.1 19 (6, 0) rfl) (by decide) rfl ?_
  refine V.iload_n dX6_bringBack_20 rfl ?_
  refine V.isub dX6_bringBack_21 ?_
  refine V.putiE fl_X6_26 dX6_bringBack_22 (hx.1 19 (6, 0) rfl) (by decide) (fun h => by cases h) rfl rfl rfl (Nat.le_of_ble_eq_true rfl) (fun I6 e7 => ?_)
  rw [← e7] at hf
  try dsimp only at hf
  clear e7
  refine V.aload_n dX6_bringBack_25 rfl ?_
  refine V.aload_n dX6_bringBack_26 rfl ?_
  refine V.getr fl_X6_11 dX6_bringBack_27 (hx.1 19 (6, 0) rfl) (hx.2.1 19 0 20 rfl) (by decide) rfl ?_
  refine V.aload_n dX6_bringBack_30 rfl ?_
  refine V.getf fl_X6_18 dX6_bringBack_31 (hx.1 19 (6, 0) rfl) (by decide) rfl ?_
  obtain ⟨hb8, hf⟩ := chk_some hf
  refine V.aald dX6_bringBack_34 (hx.1 20 (25, 10) rfl) (by decide) hb8 (hx.arr20 (i := (I6 (x + 19) 1)) hb8) ?_
  obtain ⟨I11, hk10, hf⟩ := bnd_some hf
  try dsimp only at hf
  refine V.inv cv_X6_22 (c_s_copyFrom hs_a (hx.ob20 (i := (I6 (x + 19) 1)) hb8) hk10) dX6_bringBack_35 (hs_a.1 0 (8, 0) rfl) (by decide) rfl rfl rfl (Nat.le_of_ble_eq_true rfl) (by decide) (by decide) (Nat.le_refl _) (Nat.le_refl _) (fun _ _ hq => ?_)
  obtain ⟨rfl, rfl⟩ := hq
  obtain rfl := Option.some.inj hf
  exact V.vret dX6_bringBack_38 rfl (Nat.le_refl _) (Nat.le_refl _) ⟨rfl, rfl⟩
theorem dX6_forget_0 : decode cX6_forget 0 = .ok (.aload_n 0, 1) := by decide +kernel
theorem dX6_forget_1 : decode cX6_forget 1 = .ok (.iconst 0, 1) := by decide +kernel
theorem dX6_forget_2 : decode cX6_forget 2 = .ok (.putfield 26, 3) := by decide +kernel
theorem dX6_forget_5 : decode cX6_forget 5 = .ok (.return_, 1) := by decide +kernel
def pa_forget (I : Nat → Nat → Int32) (x : Nat) : Option ((Nat → Nat → Int32)) := let I1 := uI I (x + 19) 2 0; some I1
theorem c_pa_forget {l : Launch} {D : va_G} {E : Nat → ClassId} {B : Nat → Prop} {n : Nat} {T : Nat → Option (Nat × Nat)} {I : Nat → Nat → Int32} {J : Nat → Nat → Int64} {P : Nat → Nat → Option Nat} {x : Nat}  {r : (Nat → Nat → Int32)} (hx : isSR T P x) (hf : pa_forget I x = some r) : Ct l D E B yX6_forget cX6_forget 1 none 0 0 0 [.ref (x + 19)] (n, T, I, J, P) (Ret (none) (n, T, r, J, P)) := by
  unfold pa_forget at hf
  refine Ct.ofV (by decide) (Nat.le_of_ble_eq_true rfl) ?_
  refine V.aload_n dX6_forget_0 rfl ?_
  refine V.iconst (v := 0) dX6_forget_1 (by decide) ?_
  refine V.putiE fl_X6_26 dX6_forget_2 (hx.1 19 (6, 0) rfl) (by decide) (fun h => by cases h) rfl rfl rfl (Nat.le_of_ble_eq_true rfl) (fun I1 e2 => ?_)
  rw [← e2] at hf
  try dsimp only at hf
  clear e2
  obtain rfl := Option.some.inj hf
  exact V.vret dX6_forget_5 rfl (Nat.le_refl _) (Nat.le_refl _) ⟨rfl, rfl⟩
theorem dX5_take_0 : decode cX5_take 0 = .ok (.aload_n 1, 1) := by decide +kernel
theorem dX5_take_1 : decode cX5_take 1 = .ok (.getfield 28, 3) := by decide +kernel
theorem dX5_take_4 : decode cX5_take 4 = .ok (.bipush 30, 2) := by decide +kernel
theorem dX5_take_6 : decode cX5_take 6 = .ok (.if_icmp .le 6, 3) := by decide +kernel
theorem dX5_take_9 : decode cX5_take 9 = .ok (.bipush (-4), 2) := by decide +kernel
theorem dX5_take_11 : decode cX5_take 11 = .ok (.ireturn, 1) := by decide +kernel
theorem dX5_take_12 : decode cX5_take 12 = .ok (.iconst 0, 1) := by decide +kernel
theorem dX5_take_13 : decode cX5_take 13 = .ok (.istore_n 3, 1) := by decide +kernel
theorem dX5_take_14 : decode cX5_take 14 = .ok (.iload_n 3, 1) := by decide +kernel
theorem dX5_take_15 : decode cX5_take 15 = .ok (.aload_n 1, 1) := by decide +kernel
theorem dX5_take_16 : decode cX5_take 16 = .ok (.getfield 28, 3) := by decide +kernel
theorem dX5_take_19 : decode cX5_take 19 = .ok (.if_icmp .ge 44, 3) := by decide +kernel
theorem dX5_take_22 : decode cX5_take 22 = .ok (.aload_n 1, 1) := by decide +kernel
theorem dX5_take_23 : decode cX5_take 23 = .ok (.getfield 34, 3) := by decide +kernel
theorem dX5_take_26 : decode cX5_take 26 = .ok (.iload_n 3, 1) := by decide +kernel
theorem dX5_take_27 : decode cX5_take 27 = .ok (.laload, 1) := by decide +kernel
theorem dX5_take_28 : decode cX5_take 28 = .ok (.lstore 4, 2) := by decide +kernel
theorem dX5_take_30 : decode cX5_take 30 = .ok (.lload 4, 2) := by decide +kernel
theorem dX5_take_32 : decode cX5_take 32 = .ok (.lconst 0, 1) := by decide +kernel
theorem dX5_take_33 : decode cX5_take 33 = .ok (.lcmp, 1) := by decide +kernel
theorem dX5_take_34 : decode cX5_take 34 = .ok (.ifCond .lt 11, 3) := by decide +kernel
theorem dX5_take_37 : decode cX5_take 37 = .ok (.lload 4, 2) := by decide +kernel
theorem dX5_take_39 : decode cX5_take 39 = .ok (.iload_n 2, 1) := by decide +kernel
theorem dX5_take_40 : decode cX5_take 40 = .ok (.i2l, 1) := by decide +kernel
theorem dX5_take_41 : decode cX5_take 41 = .ok (.lcmp, 1) := by decide +kernel
theorem dX5_take_42 : decode cX5_take 42 = .ok (.ifCond .lt 6, 3) := by decide +kernel
theorem dX5_take_45 : decode cX5_take 45 = .ok (.bipush (-3), 2) := by decide +kernel
theorem dX5_take_47 : decode cX5_take 47 = .ok (.ireturn, 1) := by decide +kernel
theorem dX5_take_48 : decode cX5_take 48 = .ok (.aload_n 0, 1) := by decide +kernel
theorem dX5_take_49 : decode cX5_take 49 = .ok (.getfield 9, 3) := by decide +kernel
theorem dX5_take_52 : decode cX5_take 52 = .ok (.iload_n 3, 1) := by decide +kernel
theorem dX5_take_53 : decode cX5_take 53 = .ok (.lload 4, 2) := by decide +kernel
theorem dX5_take_55 : decode cX5_take 55 = .ok (.l2i, 1) := by decide +kernel
theorem dX5_take_56 : decode cX5_take 56 = .ok (.iastore, 1) := by decide +kernel
theorem dX5_take_57 : decode cX5_take 57 = .ok (.iinc 3 1, 3) := by decide +kernel
theorem dX5_take_60 : decode cX5_take 60 = .ok (.goto (-46), 3) := by decide +kernel
theorem dX5_take_63 : decode cX5_take 63 = .ok (.aload_n 0, 1) := by decide +kernel
theorem dX5_take_64 : decode cX5_take 64 = .ok (.aload_n 1, 1) := by decide +kernel
theorem dX5_take_65 : decode cX5_take 65 = .ok (.getfield 28, 3) := by decide +kernel
theorem dX5_take_68 : decode cX5_take 68 = .ok (.putfield 38, 3) := by decide +kernel
theorem dX5_take_71 : decode cX5_take 71 = .ok (.iconst 0, 1) := by decide +kernel
theorem dX5_take_72 : decode cX5_take 72 = .ok (.ireturn, 1) := by decide +kernel
def ni_take_14 (F : Nat) (J : Nat → Nat → Int64) (x : Nat) (ty : Nat) (g2 : Int32) : Nat → Int32 → (Nat → Nat → Int32) → Option ((Int32 × (Nat → Nat → Int32)) ⊕ (Int32 × (Nat → Nat → Int32)))
  | 0, _, _ => none
  | k + 1, l3, I => if (I ty 1) ≤ l3 then (some (.inr (l3, I))) else (chk l3 40 (let x4 := (J (ty + 1) (Int32.toNatClampNeg l3)); if (lg_cmp x4 0) < 0 then (some (.inl ((-3), I))) else (if (lg_cmp x4 (Int32.toInt64 g2)) < 0 then (chk l3 30 (let I9 := uI I (x + 109) (Int32.toNatClampNeg l3) (Int64.toInt32 x4); ni_take_14 F J x ty g2 k (l3 + 1) I9)) else (some (.inl ((-3), I))))))
def ni_take (F : Nat) (I : Nat → Nat → Int32) (J : Nat → Nat → Int64) (x : Nat) (ty : Nat) (v2 : Int32) : Option (Int32 × (Nat → Nat → Int32)) := if (I ty 1) ≤ 30 then ((ni_take_14 F J x ty v2 F 0 I).bind (fun q11 => match q11 with | .inl r0 => some r0 | .inr q0 => let m13 := q0.1; let I14 := q0.2; let I15 := uI I14 (x + 108) 1 (I14 ty 1); some (0, I15))) else (some ((-4), I))
theorem l_ni_take_14 {l : Launch} {D : va_G} {E : Nat → ClassId} {B : Nat → Prop} {n F : Nat} {Q : Option Value → HT → Prop} {T : Nat → Option (Nat × Nat)} {J : Nat → Nat → Int64} {P : Nat → Nat → Option Nat} {x : Nat} {ty : Nat} {g2 : Int32} (hx : isSR T P x) (hs_ty : isTy T P ty)  (r : (Int32 × (Nat → Nat → Int32)) ⊕ (Int32 × (Nat → Nat → Int32))) : ∀ (k : Nat) (l3 : Int32) (I : (Nat → Nat → Int32)), ni_take_14 F J x ty g2 k l3 I = some r → (match r with | .inl r => Q (some (.int r.1)) (n, T, r.2, J, P) | .inr r => V l D E B yX5_take cX5_take 6 (some .int) 0 0 0 Q 0 0 (n, T, r.2, J, P) 63 [(0, some (.ref (x + 108))), (1, some (.ref ty)), (2, some (.int g2)), (3, some (.int (r.1)))] []) → V l D E B yX5_take cX5_take 6 (some .int) 0 0 0 Q 0 0 (n, T, I, J, P) 14 [(0, some (.ref (x + 108))), (1, some (.ref ty)), (2, some (.int g2)), (3, some (.int l3))] [] := by
  intro k
  induction k with
  | zero =>
    intro l3 I hf hk
    cases hf
  | succ k ih =>
    intro l3 I hf hk
    unfold ni_take_14 at hf
    refine V.iload_n dX5_take_14 rfl ?_
    refine V.aload_n dX5_take_15 rfl ?_
    refine V.getf fl_X5_28 dX5_take_16 (hs_ty.1 0 (9, 0) rfl) (by decide) rfl ?_
    refine V.icmp_ge 63 dX5_take_19 (by decide) (fun c2 => ?_) (fun c2 => ?_)
    · rw [if_pos c2] at hf
      obtain rfl := Option.some.inj hf
      exact V.lo [(0, some (.ref (x + 108))), (1, some (.ref ty)), (2, some (.int g2)), (3, some (.int l3))] (by simp only [Subs]; repeat' first | exact trivial | constructor | rfl) hk
    · rw [if_neg c2] at hf
      refine V.aload_n dX5_take_22 rfl ?_
      refine V.getr fl_X5_34 dX5_take_23 (hs_ty.1 0 (9, 0) rfl) (hs_ty.2 0 0 1 rfl) (by decide) rfl ?_
      refine V.iload_n dX5_take_26 rfl ?_
      obtain ⟨hb3, hf⟩ := chk_some hf
      refine V.lald dX5_take_27 (hs_ty.1 1 (22, 40) rfl) hb3 ?_
      refine V.lstore dX5_take_28 (by decide) (by first | exact rfl | exact trivial) ?_
      obtain ⟨x4, e5⟩ : ∃ zz_, zz_ = (J (ty + 1) (Int32.toNatClampNeg l3)) := ⟨_, rfl⟩
      rw [← e5] at hf ⊢
      try dsimp only at hf
      refine V.lload dX5_take_30 rfl ?_
      refine V.lconst (v := 0) dX5_take_32 (by decide) ?_
      refine V.lcmp dX5_take_33 ?_
      refine V.if_lt 45 dX5_take_34 (by decide) (fun c6 => ?_) (fun c6 => ?_)
      · rw [if_pos c6] at hf
        refine V.bipush (v := -3) dX5_take_45 (by decide) ?_
        obtain rfl := Option.some.inj hf
        exact V.iret dX5_take_47 rfl (Nat.le_refl _) (Nat.le_refl _) hk
      · rw [if_neg c6] at hf
        refine V.lload dX5_take_37 rfl ?_
        refine V.iload_n dX5_take_39 rfl ?_
        refine V.i2l dX5_take_40 ?_
        refine V.lcmp dX5_take_41 ?_
        refine V.if_lt 48 dX5_take_42 (by decide) (fun c7 => ?_) (fun c7 => ?_)
        · rw [if_pos c7] at hf
          refine V.aload_n dX5_take_48 rfl ?_
          refine V.getr fl_X5_9 dX5_take_49 (hx.1 108 (5, 0) rfl) (hx.2.1 108 0 109 rfl) (by decide) rfl ?_
          refine V.iload_n dX5_take_52 rfl ?_
          refine V.lload dX5_take_53 rfl ?_
          refine V.l2i dX5_take_55 ?_
          obtain ⟨hb8, hf⟩ := chk_some hf
          refine V.iastE dX5_take_56 (hx.1 109 (20, 30) rfl) hb8 (fun I9 e10 => ?_)
          rw [← e10] at hf
          try dsimp only at hf
          clear e10
          refine V.iinc (v := (l3 + 1)) dX5_take_57 rfl rfl (by first | exact rfl | exact trivial) ?_
          refine V.goto 14 dX5_take_60 (by decide) ?_
          exact V.lo [(0, some (.ref (x + 108))), (1, some (.ref ty)), (2, some (.int g2)), (3, some (.int (l3 + 1)))] (by simp only [Subs]; repeat' first | exact trivial | constructor | rfl) (ih _ _ hf hk)
        · rw [if_neg c7] at hf
          refine V.bipush (v := -3) dX5_take_45 (by decide) ?_
          obtain rfl := Option.some.inj hf
          exact V.iret dX5_take_47 rfl (Nat.le_refl _) (Nat.le_refl _) hk
theorem c_ni_take {l : Launch} {D : va_G} {E : Nat → ClassId} {B : Nat → Prop} {n F : Nat} {T : Nat → Option (Nat × Nat)} {I : Nat → Nat → Int32} {J : Nat → Nat → Int64} {P : Nat → Nat → Option Nat} {x : Nat} {ty : Nat} {v2 : Int32} {r : Int32 × (Nat → Nat → Int32)} (hx : isSR T P x) (hs_ty : isTy T P ty) (hf : ni_take F I J x ty v2 = some r) : Ct l D E B yX5_take cX5_take 6 (some .int) 0 0 0 [.ref (x + 108), .ref ty, .int v2] (n, T, I, J, P) (Ret (some (.int r.1)) (n, T, r.2, J, P)) := by
  unfold ni_take at hf
  refine Ct.ofV (by decide) (Nat.le_of_ble_eq_true rfl) ?_
  refine V.aload_n dX5_take_0 rfl ?_
  refine V.getf fl_X5_28 dX5_take_1 (hs_ty.1 0 (9, 0) rfl) (by decide) rfl ?_
  refine V.bipush (v := 30) dX5_take_4 (by decide) ?_
  refine V.icmp_le 12 dX5_take_6 (by decide) (fun c1 => ?_) (fun c1 => ?_)
  · rw [if_pos c1] at hf
    refine V.iconst (v := 0) dX5_take_12 (by decide) ?_
    refine V.istore_n dX5_take_13 rfl (by decide) (by first | exact rfl | exact trivial) ?_
    obtain ⟨q11, hk12, hf⟩ := bnd_some hf
    refine V.lo [(0, some (.ref (x + 108))), (1, some (.ref ty)), (2, some (.int v2)), (3, some (.int 0))] (by simp only [Subs]; repeat' first | exact trivial | constructor | rfl) (l_ni_take_14 hx hs_ty q11 F _ _ hk12 ?_)
    rcases q11 with r0 | ⟨m13, I14⟩
    · try dsimp only at hf ⊢
      obtain rfl := Option.some.inj hf
      exact ⟨rfl, rfl⟩
    · try dsimp only at hf ⊢
      refine V.aload_n dX5_take_63 rfl ?_
      refine V.aload_n dX5_take_64 rfl ?_
      refine V.getf fl_X5_28 dX5_take_65 (hs_ty.1 0 (9, 0) rfl) (by decide) rfl ?_
      refine V.putiE fl_X5_38 dX5_take_68 (hx.1 108 (5, 0) rfl) (by decide) (fun h => by cases h) rfl rfl rfl (Nat.le_of_ble_eq_true rfl) (fun I15 e16 => ?_)
      rw [← e16] at hf
      try dsimp only at hf
      clear e16
      refine V.iconst (v := 0) dX5_take_71 (by decide) ?_
      obtain rfl := Option.some.inj hf
      exact V.iret dX5_take_72 rfl (Nat.le_refl _) (Nat.le_refl _) ⟨rfl, rfl⟩
  · rw [if_neg c1] at hf
    refine V.bipush (v := -4) dX5_take_9 (by decide) ?_
    obtain rfl := Option.some.inj hf
    exact V.iret dX5_take_11 rfl (Nat.le_refl _) (Nat.le_refl _) ⟨rfl, rfl⟩
theorem dX5_playThrough_0 : decode cX5_playThrough 0 = .ok (.iconst 0, 1) := by decide +kernel
theorem dX5_playThrough_1 : decode cX5_playThrough 1 = .ok (.istore_n 3, 1) := by decide +kernel
theorem dX5_playThrough_2 : decode cX5_playThrough 2 = .ok (.iload_n 3, 1) := by decide +kernel
theorem dX5_playThrough_3 : decode cX5_playThrough 3 = .ok (.aload_n 0, 1) := by decide +kernel
theorem dX5_playThrough_4 : decode cX5_playThrough 4 = .ok (.getfield 38, 3) := by decide +kernel
theorem dX5_playThrough_7 : decode cX5_playThrough 7 = .ok (.if_icmp .ge 21, 3) := by decide +kernel
theorem dX5_playThrough_10 : decode cX5_playThrough 10 = .ok (.aload_n 2, 1) := by decide +kernel
theorem dX5_playThrough_11 : decode cX5_playThrough 11 = .ok (.aload_n 1, 1) := by decide +kernel
theorem dX5_playThrough_12 : decode cX5_playThrough 12 = .ok (.aload_n 0, 1) := by decide +kernel
theorem dX5_playThrough_13 : decode cX5_playThrough 13 = .ok (.getfield 9, 3) := by decide +kernel
theorem dX5_playThrough_16 : decode cX5_playThrough 16 = .ok (.iload_n 3, 1) := by decide +kernel
theorem dX5_playThrough_17 : decode cX5_playThrough 17 = .ok (.iaload, 1) := by decide +kernel
theorem dX5_playThrough_18 : decode cX5_playThrough 18 = .ok (.iconst 0, 1) := by decide +kernel
theorem dX5_playThrough_19 : decode cX5_playThrough 19 = .ok (.invokevirtual 41, 3) := by decide +kernel
theorem dX5_playThrough_22 : decode cX5_playThrough 22 = .ok (.iinc 3 1, 3) := by decide +kernel
theorem dX5_playThrough_25 : decode cX5_playThrough 25 = .ok (.goto (-23), 3) := by decide +kernel
theorem dX5_playThrough_28 : decode cX5_playThrough 28 = .ok (.return_, 1) := by decide +kernel
def ni_playThrough_2 (F : Nat) (T : Nat → Option (Nat × Nat)) (P : Nat → Nat → Option Nat) (x : Nat) (c : Nat) (a : Nat) : Nat → Int32 → (Nat → Nat → Int32) → Option (Int32 × (Nat → Nat → Int32))
  | 0, _, _ => none
  | k + 1, l3, I => if (I (x + 108) 1) ≤ l3 then (some (l3, I)) else (chk l3 30 ((s_playMinute F T I P a c (I (x + 109) (Int32.toNatClampNeg l3)) 0).bind (fun q3 => let I5 := q3; ni_playThrough_2 F T P x c a k (l3 + 1) I5)))
def ni_playThrough (F : Nat) (T : Nat → Option (Nat × Nat)) (I : Nat → Nat → Int32) (P : Nat → Nat → Option Nat) (x : Nat) (c : Nat) (a : Nat) : Option ((Nat → Nat → Int32)) := (ni_playThrough_2 F T P x c a F 0 I).bind (fun q6 => let m8 := q6.1; let I9 := q6.2; some I9)
theorem l_ni_playThrough_2 {l : Launch} {D : va_G} {E : Nat → ClassId} {B : Nat → Prop} {n F : Nat} {Q : Option Value → HT → Prop} {T : Nat → Option (Nat × Nat)} {J : Nat → Nat → Int64} {P : Nat → Nat → Option Nat} {x : Nat} {c : Nat} {a : Nat}  (hx : isSR T P x) (hs_c : isCt T P c) (hs_a : isSt T P a)  (r : Int32 × (Nat → Nat → Int32)) : ∀ (k : Nat) (l3 : Int32) (I : (Nat → Nat → Int32)), ni_playThrough_2 F T P x c a k l3 I = some r → V l D E B yX5_playThrough cX5_playThrough 4 none 4 0 0 Q 0 0 (n, T, r.2, J, P) 28 [(0, some (.ref (x + 108))), (1, some (.ref c)), (2, some (.ref a)), (3, some (.int (r.1)))] [] → V l D E B yX5_playThrough cX5_playThrough 4 none 4 0 0 Q 0 0 (n, T, I, J, P) 2 [(0, some (.ref (x + 108))), (1, some (.ref c)), (2, some (.ref a)), (3, some (.int l3))] [] := by
  intro k
  induction k with
  | zero =>
    intro l3 I hf hk
    cases hf
  | succ k ih =>
    intro l3 I hf hk
    unfold ni_playThrough_2 at hf
    refine V.iload_n dX5_playThrough_2 rfl ?_
    refine V.aload_n dX5_playThrough_3 rfl ?_
    refine V.getf fl_X5_38 dX5_playThrough_4 (hx.1 108 (5, 0) rfl) (by decide) rfl ?_
    refine V.icmp_ge 28 dX5_playThrough_7 (by decide) (fun c1 => ?_) (fun c1 => ?_)
    · rw [if_pos c1] at hf
      obtain rfl := Option.some.inj hf
      exact V.lo [(0, some (.ref (x + 108))), (1, some (.ref c)), (2, some (.ref a)), (3, some (.int l3))] (by simp only [Subs]; repeat' first | exact trivial | constructor | rfl) hk
    · rw [if_neg c1] at hf
      refine V.aload_n dX5_playThrough_10 rfl ?_
      refine V.aload_n dX5_playThrough_11 rfl ?_
      refine V.aload_n dX5_playThrough_12 rfl ?_
      refine V.getr fl_X5_9 dX5_playThrough_13 (hx.1 108 (5, 0) rfl) (hx.2.1 108 0 109 rfl) (by decide) rfl ?_
      refine V.iload_n dX5_playThrough_16 rfl ?_
      obtain ⟨hb2, hf⟩ := chk_some hf
      refine V.iald dX5_playThrough_17 (hx.1 109 (20, 30) rfl) hb2 ?_
      refine V.iconst (v := 0) dX5_playThrough_18 (by decide) ?_
      obtain ⟨I5, hk4, hf⟩ := bnd_some hf
      try dsimp only at hf
      refine V.inv cv_X5_41 (c_s_playMinute hs_a hs_c hk4) dX5_playThrough_19 (hs_a.1 0 (8, 0) rfl) (by decide) rfl rfl rfl (Nat.le_of_ble_eq_true rfl) (by decide) (by decide) (Nat.le_refl _) (Nat.le_refl _) (fun _ _ hq => ?_)
      obtain ⟨rfl, rfl⟩ := hq
      refine V.iinc (v := (l3 + 1)) dX5_playThrough_22 rfl rfl (by first | exact rfl | exact trivial) ?_
      refine V.goto 2 dX5_playThrough_25 (by decide) ?_
      exact V.lo [(0, some (.ref (x + 108))), (1, some (.ref c)), (2, some (.ref a)), (3, some (.int (l3 + 1)))] (by simp only [Subs]; repeat' first | exact trivial | constructor | rfl) (ih _ _ hf hk)
theorem c_ni_playThrough {l : Launch} {D : va_G} {E : Nat → ClassId} {B : Nat → Prop} {n F : Nat} {T : Nat → Option (Nat × Nat)} {I : Nat → Nat → Int32} {J : Nat → Nat → Int64} {P : Nat → Nat → Option Nat} {x : Nat} {c : Nat} {a : Nat}  {r : (Nat → Nat → Int32)} (hx : isSR T P x) (hs_c : isCt T P c) (hs_a : isSt T P a) (hf : ni_playThrough F T I P x c a = some r) : Ct l D E B yX5_playThrough cX5_playThrough 4 none 4 0 0 [.ref (x + 108), .ref c, .ref a] (n, T, I, J, P) (Ret (none) (n, T, r, J, P)) := by
  unfold ni_playThrough at hf
  refine Ct.ofV (by decide) (Nat.le_of_ble_eq_true rfl) ?_
  refine V.iconst (v := 0) dX5_playThrough_0 (by decide) ?_
  refine V.istore_n dX5_playThrough_1 rfl (by decide) (by first | exact rfl | exact trivial) ?_
  obtain ⟨⟨m8, I9⟩, hk7, hf⟩ := bnd_some hf
  try dsimp only at hf
  refine V.lo [(0, some (.ref (x + 108))), (1, some (.ref c)), (2, some (.ref a)), (3, some (.int 0))] (by simp only [Subs]; repeat' first | exact trivial | constructor | rfl) (l_ni_playThrough_2 hx hs_c hs_a _ F _ _ hk7 ?_)
  try dsimp only
  obtain rfl := Option.some.inj hf
  exact V.vret dX5_playThrough_28 rfl (Nat.le_refl _) (Nat.le_refl _) ⟨rfl, rfl⟩
theorem dX5_minutesUp_0 : decode cX5_minutesUp 0 = .ok (.iconst 0, 1) := by decide +kernel
theorem dX5_minutesUp_1 : decode cX5_minutesUp 1 = .ok (.istore 4, 2) := by decide +kernel
theorem dX5_minutesUp_3 : decode cX5_minutesUp 3 = .ok (.iload 4, 2) := by decide +kernel
theorem dX5_minutesUp_5 : decode cX5_minutesUp 5 = .ok (.aload_n 0, 1) := by decide +kernel
theorem dX5_minutesUp_6 : decode cX5_minutesUp 6 = .ok (.getfield 38, 3) := by decide +kernel
theorem dX5_minutesUp_9 : decode cX5_minutesUp 9 = .ok (.if_icmp .ge 33, 3) := by decide +kernel
theorem dX5_minutesUp_12 : decode cX5_minutesUp 12 = .ok (.aload_n 2, 1) := by decide +kernel
theorem dX5_minutesUp_13 : decode cX5_minutesUp 13 = .ok (.aload_n 1, 1) := by decide +kernel
theorem dX5_minutesUp_14 : decode cX5_minutesUp 14 = .ok (.aload_n 0, 1) := by decide +kernel
theorem dX5_minutesUp_15 : decode cX5_minutesUp 15 = .ok (.getfield 9, 3) := by decide +kernel
theorem dX5_minutesUp_18 : decode cX5_minutesUp 18 = .ok (.iload 4, 2) := by decide +kernel
theorem dX5_minutesUp_20 : decode cX5_minutesUp 20 = .ok (.iaload, 1) := by decide +kernel
theorem dX5_minutesUp_21 : decode cX5_minutesUp 21 = .ok (.iconst 0, 1) := by decide +kernel
theorem dX5_minutesUp_22 : decode cX5_minutesUp 22 = .ok (.invokevirtual 41, 3) := by decide +kernel
theorem dX5_minutesUp_25 : decode cX5_minutesUp 25 = .ok (.aload_n 2, 1) := by decide +kernel
theorem dX5_minutesUp_26 : decode cX5_minutesUp 26 = .ok (.iload_n 3, 1) := by decide +kernel
theorem dX5_minutesUp_27 : decode cX5_minutesUp 27 = .ok (.invokevirtual 47, 3) := by decide +kernel
theorem dX5_minutesUp_30 : decode cX5_minutesUp 30 = .ok (.ifCond .ne 6, 3) := by decide +kernel
theorem dX5_minutesUp_33 : decode cX5_minutesUp 33 = .ok (.iload 4, 2) := by decide +kernel
theorem dX5_minutesUp_35 : decode cX5_minutesUp 35 = .ok (.ireturn, 1) := by decide +kernel
theorem dX5_minutesUp_36 : decode cX5_minutesUp 36 = .ok (.iinc 4 1, 3) := by decide +kernel
theorem dX5_minutesUp_39 : decode cX5_minutesUp 39 = .ok (.goto (-36), 3) := by decide +kernel
theorem dX5_minutesUp_42 : decode cX5_minutesUp 42 = .ok (.aload_n 0, 1) := by decide +kernel
theorem dX5_minutesUp_43 : decode cX5_minutesUp 43 = .ok (.getfield 38, 3) := by decide +kernel
theorem dX5_minutesUp_46 : decode cX5_minutesUp 46 = .ok (.ireturn, 1) := by decide +kernel
def ni_minutesUp_3 (F : Nat) (T : Nat → Option (Nat × Nat)) (P : Nat → Nat → Option Nat) (x : Nat) (c : Nat) (a : Nat) (g3 : Int32) : Nat → Int32 → (Nat → Nat → Int32) → Option ((Int32 × (Nat → Nat → Int32)) ⊕ (Int32 × (Nat → Nat → Int32)))
  | 0, _, _ => none
  | k + 1, l4, I => if (I (x + 108) 1) ≤ l4 then (some (.inr (l4, I))) else (chk l4 30 ((s_playMinute F T I P a c (I (x + 109) (Int32.toNatClampNeg l4)) 0).bind (fun q3 => let I5 := q3; if (s_isUp I5 a g3) = 0 then (some (.inl (l4, I5))) else (ni_minutesUp_3 F T P x c a g3 k (l4 + 1) I5))))
def ni_minutesUp (F : Nat) (T : Nat → Option (Nat × Nat)) (I : Nat → Nat → Int32) (P : Nat → Nat → Option Nat) (x : Nat) (c : Nat) (a : Nat) (v3 : Int32) : Option (Int32 × (Nat → Nat → Int32)) := (ni_minutesUp_3 F T P x c a v3 F 0 I).bind (fun q7 => match q7 with | .inl r0 => some r0 | .inr q0 => let m9 := q0.1; let I10 := q0.2; some ((I10 (x + 108) 1), I10))
theorem l_ni_minutesUp_3 {l : Launch} {D : va_G} {E : Nat → ClassId} {B : Nat → Prop} {n F : Nat} {Q : Option Value → HT → Prop} {T : Nat → Option (Nat × Nat)} {J : Nat → Nat → Int64} {P : Nat → Nat → Option Nat} {x : Nat} {c : Nat} {a : Nat} {g3 : Int32} (hx : isSR T P x) (hs_c : isCt T P c) (hs_a : isSt T P a)  (r : (Int32 × (Nat → Nat → Int32)) ⊕ (Int32 × (Nat → Nat → Int32))) : ∀ (k : Nat) (l4 : Int32) (I : (Nat → Nat → Int32)), ni_minutesUp_3 F T P x c a g3 k l4 I = some r → (match r with | .inl r => Q (some (.int r.1)) (n, T, r.2, J, P) | .inr r => V l D E B yX5_minutesUp cX5_minutesUp 5 (some .int) 4 0 0 Q 0 0 (n, T, r.2, J, P) 42 [(0, some (.ref (x + 108))), (1, some (.ref c)), (2, some (.ref a)), (3, some (.int g3)), (4, some (.int (r.1)))] []) → V l D E B yX5_minutesUp cX5_minutesUp 5 (some .int) 4 0 0 Q 0 0 (n, T, I, J, P) 3 [(0, some (.ref (x + 108))), (1, some (.ref c)), (2, some (.ref a)), (3, some (.int g3)), (4, some (.int l4))] [] := by
  intro k
  induction k with
  | zero =>
    intro l4 I hf hk
    cases hf
  | succ k ih =>
    intro l4 I hf hk
    unfold ni_minutesUp_3 at hf
    refine V.iload dX5_minutesUp_3 rfl ?_
    refine V.aload_n dX5_minutesUp_5 rfl ?_
    refine V.getf fl_X5_38 dX5_minutesUp_6 (hx.1 108 (5, 0) rfl) (by decide) rfl ?_
    refine V.icmp_ge 42 dX5_minutesUp_9 (by decide) (fun c1 => ?_) (fun c1 => ?_)
    · rw [if_pos c1] at hf
      obtain rfl := Option.some.inj hf
      exact V.lo [(0, some (.ref (x + 108))), (1, some (.ref c)), (2, some (.ref a)), (3, some (.int g3)), (4, some (.int l4))] (by simp only [Subs]; repeat' first | exact trivial | constructor | rfl) hk
    · rw [if_neg c1] at hf
      refine V.aload_n dX5_minutesUp_12 rfl ?_
      refine V.aload_n dX5_minutesUp_13 rfl ?_
      refine V.aload_n dX5_minutesUp_14 rfl ?_
      refine V.getr fl_X5_9 dX5_minutesUp_15 (hx.1 108 (5, 0) rfl) (hx.2.1 108 0 109 rfl) (by decide) rfl ?_
      refine V.iload dX5_minutesUp_18 rfl ?_
      obtain ⟨hb2, hf⟩ := chk_some hf
      refine V.iald dX5_minutesUp_20 (hx.1 109 (20, 30) rfl) hb2 ?_
      refine V.iconst (v := 0) dX5_minutesUp_21 (by decide) ?_
      obtain ⟨I5, hk4, hf⟩ := bnd_some hf
      try dsimp only at hf
      refine V.inv cv_X5_41 (c_s_playMinute hs_a hs_c hk4) dX5_minutesUp_22 (hs_a.1 0 (8, 0) rfl) (by decide) rfl rfl rfl (Nat.le_of_ble_eq_true rfl) (by decide) (by decide) (Nat.le_refl _) (Nat.le_refl _) (fun _ _ hq => ?_)
      obtain ⟨rfl, rfl⟩ := hq
      refine V.aload_n dX5_minutesUp_25 rfl ?_
      refine V.iload_n dX5_minutesUp_26 rfl ?_
      refine V.inv cv_X5_47 (c_s_isUp hs_a) dX5_minutesUp_27 (hs_a.1 0 (8, 0) rfl) (by decide) rfl rfl rfl (Nat.le_of_ble_eq_true rfl) (by decide) (by decide) (Nat.le_refl _) (Nat.le_refl _) (fun _ _ hq => ?_)
      obtain ⟨rfl, rfl⟩ := hq
      refine V.if_ne 36 dX5_minutesUp_30 (by decide) (fun c6 => ?_) (fun c6 => ?_)
      · rw [if_neg c6] at hf
        refine V.iinc (v := (l4 + 1)) dX5_minutesUp_36 rfl rfl (by first | exact rfl | exact trivial) ?_
        refine V.goto 3 dX5_minutesUp_39 (by decide) ?_
        exact V.lo [(0, some (.ref (x + 108))), (1, some (.ref c)), (2, some (.ref a)), (3, some (.int g3)), (4, some (.int (l4 + 1)))] (by simp only [Subs]; repeat' first | exact trivial | constructor | rfl) (ih _ _ hf hk)
      · rw [if_pos c6] at hf
        refine V.iload dX5_minutesUp_33 rfl ?_
        obtain rfl := Option.some.inj hf
        exact V.iret dX5_minutesUp_35 rfl (Nat.le_refl _) (Nat.le_refl _) hk
theorem c_ni_minutesUp {l : Launch} {D : va_G} {E : Nat → ClassId} {B : Nat → Prop} {n F : Nat} {T : Nat → Option (Nat × Nat)} {I : Nat → Nat → Int32} {J : Nat → Nat → Int64} {P : Nat → Nat → Option Nat} {x : Nat} {c : Nat} {a : Nat} {v3 : Int32} {r : Int32 × (Nat → Nat → Int32)} (hx : isSR T P x) (hs_c : isCt T P c) (hs_a : isSt T P a) (hf : ni_minutesUp F T I P x c a v3 = some r) : Ct l D E B yX5_minutesUp cX5_minutesUp 5 (some .int) 4 0 0 [.ref (x + 108), .ref c, .ref a, .int v3] (n, T, I, J, P) (Ret (some (.int r.1)) (n, T, r.2, J, P)) := by
  unfold ni_minutesUp at hf
  refine Ct.ofV (by decide) (Nat.le_of_ble_eq_true rfl) ?_
  refine V.iconst (v := 0) dX5_minutesUp_0 (by decide) ?_
  refine V.istore dX5_minutesUp_1 (by decide) (by first | exact rfl | exact trivial) ?_
  obtain ⟨q7, hk8, hf⟩ := bnd_some hf
  refine V.lo [(0, some (.ref (x + 108))), (1, some (.ref c)), (2, some (.ref a)), (3, some (.int v3)), (4, some (.int 0))] (by simp only [Subs]; repeat' first | exact trivial | constructor | rfl) (l_ni_minutesUp_3 hx hs_c hs_a q7 F _ _ hk8 ?_)
  rcases q7 with r0 | ⟨m9, I10⟩
  · try dsimp only at hf ⊢
    obtain rfl := Option.some.inj hf
    exact ⟨rfl, rfl⟩
  · try dsimp only at hf ⊢
    refine V.aload_n dX5_minutesUp_42 rfl ?_
    refine V.getf fl_X5_38 dX5_minutesUp_43 (hx.1 108 (5, 0) rfl) (by decide) rfl ?_
    obtain rfl := Option.some.inj hf
    exact V.iret dX5_minutesUp_46 rfl (Nat.le_refl _) (Nat.le_refl _) ⟨rfl, rfl⟩
theorem dX5_swapInOrder_0 : decode cX5_swapInOrder 0 = .ok (.aload_n 0, 1) := by decide +kernel
theorem dX5_swapInOrder_1 : decode cX5_swapInOrder 1 = .ok (.getfield 25, 3) := by decide +kernel
theorem dX5_swapInOrder_4 : decode cX5_swapInOrder 4 = .ok (.iload_n 1, 1) := by decide +kernel
theorem dX5_swapInOrder_5 : decode cX5_swapInOrder 5 = .ok (.iaload, 1) := by decide +kernel
theorem dX5_swapInOrder_6 : decode cX5_swapInOrder 6 = .ok (.istore_n 3, 1) := by decide +kernel
theorem dX5_swapInOrder_7 : decode cX5_swapInOrder 7 = .ok (.aload_n 0, 1) := by decide +kernel
theorem dX5_swapInOrder_8 : decode cX5_swapInOrder 8 = .ok (.getfield 25, 3) := by decide +kernel
theorem dX5_swapInOrder_11 : decode cX5_swapInOrder 11 = .ok (.iload_n 1, 1) := by decide +kernel
theorem dX5_swapInOrder_12 : decode cX5_swapInOrder 12 = .ok (.aload_n 0, 1) := by decide +kernel
theorem dX5_swapInOrder_13 : decode cX5_swapInOrder 13 = .ok (.getfield 25, 3) := by decide +kernel
theorem dX5_swapInOrder_16 : decode cX5_swapInOrder 16 = .ok (.iload_n 2, 1) := by decide +kernel
theorem dX5_swapInOrder_17 : decode cX5_swapInOrder 17 = .ok (.iaload, 1) := by decide +kernel
theorem dX5_swapInOrder_18 : decode cX5_swapInOrder 18 = .ok (.iastore, 1) := by decide +kernel
theorem dX5_swapInOrder_19 : decode cX5_swapInOrder 19 = .ok (.aload_n 0, 1) := by decide +kernel
theorem dX5_swapInOrder_20 : decode cX5_swapInOrder 20 = .ok (.getfield 25, 3) := by decide +kernel
theorem dX5_swapInOrder_23 : decode cX5_swapInOrder 23 = .ok (.iload_n 2, 1) := by decide +kernel
theorem dX5_swapInOrder_24 : decode cX5_swapInOrder 24 = .ok (.iload_n 3, 1) := by decide +kernel
theorem dX5_swapInOrder_25 : decode cX5_swapInOrder 25 = .ok (.iastore, 1) := by decide +kernel
theorem dX5_swapInOrder_26 : decode cX5_swapInOrder 26 = .ok (.return_, 1) := by decide +kernel
def ni_swapInOrder (I : Nat → Nat → Int32) (x : Nat) (v1 : Int32) (v2 : Int32) : Option ((Nat → Nat → Int32)) := chk v1 6 (let x2 := (I (x + 113) (Int32.toNatClampNeg v1)); chk v2 6 (let I5 := uI I (x + 113) (Int32.toNatClampNeg v1) (I (x + 113) (Int32.toNatClampNeg v2)); let I7 := uI I5 (x + 113) (Int32.toNatClampNeg v2) x2; some I7))
theorem c_ni_swapInOrder {l : Launch} {D : va_G} {E : Nat → ClassId} {B : Nat → Prop} {n : Nat} {T : Nat → Option (Nat × Nat)} {I : Nat → Nat → Int32} {J : Nat → Nat → Int64} {P : Nat → Nat → Option Nat} {x : Nat} {v1 : Int32} {v2 : Int32} {r : (Nat → Nat → Int32)} (hx : isSR T P x) (hf : ni_swapInOrder I x v1 v2 = some r) : Ct l D E B yX5_swapInOrder cX5_swapInOrder 4 none 0 0 0 [.ref (x + 108), .int v1, .int v2] (n, T, I, J, P) (Ret (none) (n, T, r, J, P)) := by
  unfold ni_swapInOrder at hf
  refine Ct.ofV (by decide) (Nat.le_of_ble_eq_true rfl) ?_
  refine V.aload_n dX5_swapInOrder_0 rfl ?_
  refine V.getr fl_X5_25 dX5_swapInOrder_1 (hx.1 108 (5, 0) rfl) (hx.2.1 108 5 113 rfl) (by decide) rfl ?_
  refine V.iload_n dX5_swapInOrder_4 rfl ?_
  obtain ⟨hb1, hf⟩ := chk_some hf
  refine V.iald dX5_swapInOrder_5 (hx.1 113 (20, 6) rfl) hb1 ?_
  refine V.istore_n dX5_swapInOrder_6 rfl (by decide) (by first | exact rfl | exact trivial) ?_
  obtain ⟨x2, e3⟩ : ∃ zz_, zz_ = (I (x + 113) (Int32.toNatClampNeg v1)) := ⟨_, rfl⟩
  rw [← e3] at hf ⊢
  try dsimp only at hf
  refine V.aload_n dX5_swapInOrder_7 rfl ?_
  refine V.getr fl_X5_25 dX5_swapInOrder_8 (hx.1 108 (5, 0) rfl) (hx.2.1 108 5 113 rfl) (by decide) rfl ?_
  refine V.iload_n dX5_swapInOrder_11 rfl ?_
  refine V.aload_n dX5_swapInOrder_12 rfl ?_
  refine V.getr fl_X5_25 dX5_swapInOrder_13 (hx.1 108 (5, 0) rfl) (hx.2.1 108 5 113 rfl) (by decide) rfl ?_
  refine V.iload_n dX5_swapInOrder_16 rfl ?_
  obtain ⟨hb4, hf⟩ := chk_some hf
  refine V.iald dX5_swapInOrder_17 (hx.1 113 (20, 6) rfl) hb4 ?_
  refine V.iastE dX5_swapInOrder_18 (hx.1 113 (20, 6) rfl) hb1 (fun I5 e6 => ?_)
  rw [← e6] at hf
  try dsimp only at hf
  clear e6
  refine V.aload_n dX5_swapInOrder_19 rfl ?_
  refine V.getr fl_X5_25 dX5_swapInOrder_20 (hx.1 108 (5, 0) rfl) (hx.2.1 108 5 113 rfl) (by decide) rfl ?_
  refine V.iload_n dX5_swapInOrder_23 rfl ?_
  refine V.iload_n dX5_swapInOrder_24 rfl ?_
  refine V.iastE dX5_swapInOrder_25 (hx.1 113 (20, 6) rfl) hb4 (fun I7 e8 => ?_)
  rw [← e8] at hf
  try dsimp only at hf
  clear e8
  obtain rfl := Option.some.inj hf
  exact V.vret dX5_swapInOrder_26 rfl (Nat.le_refl _) (Nat.le_refl _) ⟨rfl, rfl⟩
theorem dX5_goToNextOrder_0 : decode cX5_goToNextOrder 0 = .ok (.iload_n 1, 1) := by decide +kernel
theorem dX5_goToNextOrder_1 : decode cX5_goToNextOrder 1 = .ok (.iconst 2, 1) := by decide +kernel
theorem dX5_goToNextOrder_2 : decode cX5_goToNextOrder 2 = .ok (.isub, 1) := by decide +kernel
theorem dX5_goToNextOrder_3 : decode cX5_goToNextOrder 3 = .ok (.istore_n 2, 1) := by decide +kernel
theorem dX5_goToNextOrder_4 : decode cX5_goToNextOrder 4 = .ok (.iload_n 2, 1) := by decide +kernel
theorem dX5_goToNextOrder_5 : decode cX5_goToNextOrder 5 = .ok (.ifCond .lt 26, 3) := by decide +kernel
theorem dX5_goToNextOrder_8 : decode cX5_goToNextOrder 8 = .ok (.aload_n 0, 1) := by decide +kernel
theorem dX5_goToNextOrder_9 : decode cX5_goToNextOrder 9 = .ok (.getfield 25, 3) := by decide +kernel
theorem dX5_goToNextOrder_12 : decode cX5_goToNextOrder 12 = .ok (.iload_n 2, 1) := by decide +kernel
theorem dX5_goToNextOrder_13 : decode cX5_goToNextOrder 13 = .ok (.iaload, 1) := by decide +kernel
theorem dX5_goToNextOrder_14 : decode cX5_goToNextOrder 14 = .ok (.aload_n 0, 1) := by decide +kernel
theorem dX5_goToNextOrder_15 : decode cX5_goToNextOrder 15 = .ok (.getfield 25, 3) := by decide +kernel
theorem dX5_goToNextOrder_18 : decode cX5_goToNextOrder 18 = .ok (.iload_n 2, 1) := by decide +kernel
theorem dX5_goToNextOrder_19 : decode cX5_goToNextOrder 19 = .ok (.iconst 1, 1) := by decide +kernel
theorem dX5_goToNextOrder_20 : decode cX5_goToNextOrder 20 = .ok (.iadd, 1) := by decide +kernel
theorem dX5_goToNextOrder_21 : decode cX5_goToNextOrder 21 = .ok (.iaload, 1) := by decide +kernel
theorem dX5_goToNextOrder_22 : decode cX5_goToNextOrder 22 = .ok (.if_icmp .le 9, 3) := by decide +kernel
theorem dX5_goToNextOrder_25 : decode cX5_goToNextOrder 25 = .ok (.iinc 2 (-1), 3) := by decide +kernel
theorem dX5_goToNextOrder_28 : decode cX5_goToNextOrder 28 = .ok (.goto (-24), 3) := by decide +kernel
theorem dX5_goToNextOrder_31 : decode cX5_goToNextOrder 31 = .ok (.iload_n 2, 1) := by decide +kernel
theorem dX5_goToNextOrder_32 : decode cX5_goToNextOrder 32 = .ok (.ifCond .ge 5, 3) := by decide +kernel
theorem dX5_goToNextOrder_35 : decode cX5_goToNextOrder 35 = .ok (.iconst 0, 1) := by decide +kernel
theorem dX5_goToNextOrder_36 : decode cX5_goToNextOrder 36 = .ok (.ireturn, 1) := by decide +kernel
theorem dX5_goToNextOrder_37 : decode cX5_goToNextOrder 37 = .ok (.iload_n 1, 1) := by decide +kernel
theorem dX5_goToNextOrder_38 : decode cX5_goToNextOrder 38 = .ok (.iconst 1, 1) := by decide +kernel
theorem dX5_goToNextOrder_39 : decode cX5_goToNextOrder 39 = .ok (.isub, 1) := by decide +kernel
theorem dX5_goToNextOrder_40 : decode cX5_goToNextOrder 40 = .ok (.istore_n 3, 1) := by decide +kernel
theorem dX5_goToNextOrder_41 : decode cX5_goToNextOrder 41 = .ok (.iload_n 3, 1) := by decide +kernel
theorem dX5_goToNextOrder_42 : decode cX5_goToNextOrder 42 = .ok (.iload_n 2, 1) := by decide +kernel
theorem dX5_goToNextOrder_43 : decode cX5_goToNextOrder 43 = .ok (.if_icmp .le 24, 3) := by decide +kernel
theorem dX5_goToNextOrder_46 : decode cX5_goToNextOrder 46 = .ok (.aload_n 0, 1) := by decide +kernel
theorem dX5_goToNextOrder_47 : decode cX5_goToNextOrder 47 = .ok (.getfield 25, 3) := by decide +kernel
theorem dX5_goToNextOrder_50 : decode cX5_goToNextOrder 50 = .ok (.iload_n 3, 1) := by decide +kernel
theorem dX5_goToNextOrder_51 : decode cX5_goToNextOrder 51 = .ok (.iaload, 1) := by decide +kernel
theorem dX5_goToNextOrder_52 : decode cX5_goToNextOrder 52 = .ok (.aload_n 0, 1) := by decide +kernel
theorem dX5_goToNextOrder_53 : decode cX5_goToNextOrder 53 = .ok (.getfield 25, 3) := by decide +kernel
theorem dX5_goToNextOrder_56 : decode cX5_goToNextOrder 56 = .ok (.iload_n 2, 1) := by decide +kernel
theorem dX5_goToNextOrder_57 : decode cX5_goToNextOrder 57 = .ok (.iaload, 1) := by decide +kernel
theorem dX5_goToNextOrder_58 : decode cX5_goToNextOrder 58 = .ok (.if_icmp .ge 9, 3) := by decide +kernel
theorem dX5_goToNextOrder_61 : decode cX5_goToNextOrder 61 = .ok (.iinc 3 (-1), 3) := by decide +kernel
theorem dX5_goToNextOrder_64 : decode cX5_goToNextOrder 64 = .ok (.goto (-23), 3) := by decide +kernel
theorem dX5_goToNextOrder_67 : decode cX5_goToNextOrder 67 = .ok (.aload_n 0, 1) := by decide +kernel
theorem dX5_goToNextOrder_68 : decode cX5_goToNextOrder 68 = .ok (.iload_n 2, 1) := by decide +kernel
theorem dX5_goToNextOrder_69 : decode cX5_goToNextOrder 69 = .ok (.iload_n 3, 1) := by decide +kernel
theorem dX5_goToNextOrder_70 : decode cX5_goToNextOrder 70 = .ok (.invokevirtual 84, 3) := by decide +kernel
theorem dX5_goToNextOrder_73 : decode cX5_goToNextOrder 73 = .ok (.iload_n 2, 1) := by decide +kernel
theorem dX5_goToNextOrder_74 : decode cX5_goToNextOrder 74 = .ok (.iconst 1, 1) := by decide +kernel
theorem dX5_goToNextOrder_75 : decode cX5_goToNextOrder 75 = .ok (.iadd, 1) := by decide +kernel
theorem dX5_goToNextOrder_76 : decode cX5_goToNextOrder 76 = .ok (.istore 4, 2) := by decide +kernel
theorem dX5_goToNextOrder_78 : decode cX5_goToNextOrder 78 = .ok (.iload_n 1, 1) := by decide +kernel
theorem dX5_goToNextOrder_79 : decode cX5_goToNextOrder 79 = .ok (.iconst 1, 1) := by decide +kernel
theorem dX5_goToNextOrder_80 : decode cX5_goToNextOrder 80 = .ok (.isub, 1) := by decide +kernel
theorem dX5_goToNextOrder_81 : decode cX5_goToNextOrder 81 = .ok (.istore 5, 2) := by decide +kernel
theorem dX5_goToNextOrder_83 : decode cX5_goToNextOrder 83 = .ok (.iload 4, 2) := by decide +kernel
theorem dX5_goToNextOrder_85 : decode cX5_goToNextOrder 85 = .ok (.iload 5, 2) := by decide +kernel
theorem dX5_goToNextOrder_87 : decode cX5_goToNextOrder 87 = .ok (.if_icmp .ge 20, 3) := by decide +kernel
theorem dX5_goToNextOrder_90 : decode cX5_goToNextOrder 90 = .ok (.aload_n 0, 1) := by decide +kernel
theorem dX5_goToNextOrder_91 : decode cX5_goToNextOrder 91 = .ok (.iload 4, 2) := by decide +kernel
theorem dX5_goToNextOrder_93 : decode cX5_goToNextOrder 93 = .ok (.iload 5, 2) := by decide +kernel
theorem dX5_goToNextOrder_95 : decode cX5_goToNextOrder 95 = .ok (.invokevirtual 84, 3) := by decide +kernel
theorem dX5_goToNextOrder_98 : decode cX5_goToNextOrder 98 = .ok (.iinc 4 1, 3) := by decide +kernel
theorem dX5_goToNextOrder_101 : decode cX5_goToNextOrder 101 = .ok (.iinc 5 (-1), 3) := by decide +kernel
theorem dX5_goToNextOrder_104 : decode cX5_goToNextOrder 104 = .ok (.goto (-21), 3) := by decide +kernel
theorem dX5_goToNextOrder_107 : decode cX5_goToNextOrder 107 = .ok (.iconst 1, 1) := by decide +kernel
theorem dX5_goToNextOrder_108 : decode cX5_goToNextOrder 108 = .ok (.ireturn, 1) := by decide +kernel
def ni_goToNextOrder_4 (F : Nat) (I : Nat → Nat → Int32) (x : Nat) (g1 : Int32) : Nat → Int32 → Option (Int32)
  | 0, _ => none
  | k + 1, l2 => if l2 < 0 then (some l2) else (chk l2 6 (chk (l2 + 1) 6 (if (I (x + 113) (Int32.toNatClampNeg l2)) ≤ (I (x + 113) (Int32.toNatClampNeg (l2 + 1))) then (some l2) else (ni_goToNextOrder_4 F I x g1 k (l2 + (-1))))))
def ni_goToNextOrder_41 (F : Nat) (I : Nat → Nat → Int32) (x : Nat) (g1 : Int32) (g2 : Int32) : Nat → Int32 → Option (Int32)
  | 0, _ => none
  | k + 1, l3 => if l3 ≤ g2 then (some l3) else (chk l3 6 (chk g2 6 (if (I (x + 113) (Int32.toNatClampNeg g2)) ≤ (I (x + 113) (Int32.toNatClampNeg l3)) then (some l3) else (ni_goToNextOrder_41 F I x g1 g2 k (l3 + (-1))))))
def ni_goToNextOrder_83 (F : Nat) (x : Nat) (g1 : Int32) (g2 : Int32) (g3 : Int32) : Nat → Int32 → Int32 → (Nat → Nat → Int32) → Option (Int32 × Int32 × (Nat → Nat → Int32))
  | 0, _, _, _ => none
  | k + 1, l4, l5, I => if l5 ≤ l4 then (some (l4, l5, I)) else ((ni_swapInOrder I x l4 l5).bind (fun q26 => let I28 := q26; ni_goToNextOrder_83 F x g1 g2 g3 k (l4 + 1) (l5 + (-1)) I28))
def ni_goToNextOrder (F : Nat) (I : Nat → Nat → Int32) (x : Nat) (v1 : Int32) : Option (Int32 × (Nat → Nat → Int32)) := let x1 := (v1 - 2); (ni_goToNextOrder_4 F I x v1 F x1).bind (fun q7 => let m9 := q7; if 0 ≤ m9 then (let x11 := (v1 - 1); (ni_goToNextOrder_41 F I x v1 m9 F x11).bind (fun q17 => let m19 := q17; (ni_swapInOrder I x m9 m19).bind (fun q20 => let I22 := q20; let x23 := (m9 + 1); (ni_goToNextOrder_83 F x v1 m9 m19 F x23 x11 I22).bind (fun q29 => let m31 := q29.1; let m32 := q29.2.1; let I33 := q29.2.2; some (1, I33))))) else (some (0, I)))
theorem l_ni_goToNextOrder_4 {l : Launch} {D : va_G} {E : Nat → ClassId} {B : Nat → Prop} {n F : Nat} {Q : Option Value → HT → Prop} {T : Nat → Option (Nat × Nat)} {I : Nat → Nat → Int32} {J : Nat → Nat → Int64} {P : Nat → Nat → Option Nat} {x : Nat} {g1 : Int32} (hx : isSR T P x)  (r : Int32) : ∀ (k : Nat) (l2 : Int32), ni_goToNextOrder_4 F I x g1 k l2 = some r → V l D E B yX5_goToNextOrder cX5_goToNextOrder 6 (some .boolean) 1 0 0 Q 0 0 (n, T, I, J, P) 31 [(0, some (.ref (x + 108))), (1, some (.int g1)), (2, some (.int r))] [] → V l D E B yX5_goToNextOrder cX5_goToNextOrder 6 (some .boolean) 1 0 0 Q 0 0 (n, T, I, J, P) 4 [(0, some (.ref (x + 108))), (1, some (.int g1)), (2, some (.int l2))] [] := by
  intro k
  induction k with
  | zero =>
    intro l2 hf hk
    cases hf
  | succ k ih =>
    intro l2 hf hk
    unfold ni_goToNextOrder_4 at hf
    refine V.iload_n dX5_goToNextOrder_4 rfl ?_
    refine V.if_lt 31 dX5_goToNextOrder_5 (by decide) (fun c3 => ?_) (fun c3 => ?_)
    · rw [if_pos c3] at hf
      obtain rfl := Option.some.inj hf
      exact V.lo [(0, some (.ref (x + 108))), (1, some (.int g1)), (2, some (.int l2))] (by simp only [Subs]; repeat' first | exact trivial | constructor | rfl) hk
    · rw [if_neg c3] at hf
      refine V.aload_n dX5_goToNextOrder_8 rfl ?_
      refine V.getr fl_X5_25 dX5_goToNextOrder_9 (hx.1 108 (5, 0) rfl) (hx.2.1 108 5 113 rfl) (by decide) rfl ?_
      refine V.iload_n dX5_goToNextOrder_12 rfl ?_
      obtain ⟨hb4, hf⟩ := chk_some hf
      refine V.iald dX5_goToNextOrder_13 (hx.1 113 (20, 6) rfl) hb4 ?_
      refine V.aload_n dX5_goToNextOrder_14 rfl ?_
      refine V.getr fl_X5_25 dX5_goToNextOrder_15 (hx.1 108 (5, 0) rfl) (hx.2.1 108 5 113 rfl) (by decide) rfl ?_
      refine V.iload_n dX5_goToNextOrder_18 rfl ?_
      refine V.iconst (v := 1) dX5_goToNextOrder_19 (by decide) ?_
      refine V.iadd dX5_goToNextOrder_20 ?_
      obtain ⟨hb5, hf⟩ := chk_some hf
      refine V.iald dX5_goToNextOrder_21 (hx.1 113 (20, 6) rfl) hb5 ?_
      refine V.icmp_le 31 dX5_goToNextOrder_22 (by decide) (fun c6 => ?_) (fun c6 => ?_)
      · rw [if_pos c6] at hf
        obtain rfl := Option.some.inj hf
        exact V.lo [(0, some (.ref (x + 108))), (1, some (.int g1)), (2, some (.int l2))] (by simp only [Subs]; repeat' first | exact trivial | constructor | rfl) hk
      · rw [if_neg c6] at hf
        refine V.iinc (v := (l2 + (-1))) dX5_goToNextOrder_25 rfl rfl (by first | exact rfl | exact trivial) ?_
        refine V.goto 4 dX5_goToNextOrder_28 (by decide) ?_
        exact V.lo [(0, some (.ref (x + 108))), (1, some (.int g1)), (2, some (.int (l2 + (-1))))] (by simp only [Subs]; repeat' first | exact trivial | constructor | rfl) (ih _ hf hk)
theorem l_ni_goToNextOrder_41 {l : Launch} {D : va_G} {E : Nat → ClassId} {B : Nat → Prop} {n F : Nat} {Q : Option Value → HT → Prop} {T : Nat → Option (Nat × Nat)} {I : Nat → Nat → Int32} {J : Nat → Nat → Int64} {P : Nat → Nat → Option Nat} {x : Nat} {g1 : Int32} {g2 : Int32} (hx : isSR T P x)  (r : Int32) : ∀ (k : Nat) (l3 : Int32), ni_goToNextOrder_41 F I x g1 g2 k l3 = some r → V l D E B yX5_goToNextOrder cX5_goToNextOrder 6 (some .boolean) 1 0 0 Q 0 0 (n, T, I, J, P) 67 [(0, some (.ref (x + 108))), (1, some (.int g1)), (2, some (.int g2)), (3, some (.int r))] [] → V l D E B yX5_goToNextOrder cX5_goToNextOrder 6 (some .boolean) 1 0 0 Q 0 0 (n, T, I, J, P) 41 [(0, some (.ref (x + 108))), (1, some (.int g1)), (2, some (.int g2)), (3, some (.int l3))] [] := by
  intro k
  induction k with
  | zero =>
    intro l3 hf hk
    cases hf
  | succ k ih =>
    intro l3 hf hk
    unfold ni_goToNextOrder_41 at hf
    refine V.iload_n dX5_goToNextOrder_41 rfl ?_
    refine V.iload_n dX5_goToNextOrder_42 rfl ?_
    refine V.icmp_le 67 dX5_goToNextOrder_43 (by decide) (fun c13 => ?_) (fun c13 => ?_)
    · rw [if_pos c13] at hf
      obtain rfl := Option.some.inj hf
      exact V.lo [(0, some (.ref (x + 108))), (1, some (.int g1)), (2, some (.int g2)), (3, some (.int l3))] (by simp only [Subs]; repeat' first | exact trivial | constructor | rfl) hk
    · rw [if_neg c13] at hf
      refine V.aload_n dX5_goToNextOrder_46 rfl ?_
      refine V.getr fl_X5_25 dX5_goToNextOrder_47 (hx.1 108 (5, 0) rfl) (hx.2.1 108 5 113 rfl) (by decide) rfl ?_
      refine V.iload_n dX5_goToNextOrder_50 rfl ?_
      obtain ⟨hb14, hf⟩ := chk_some hf
      refine V.iald dX5_goToNextOrder_51 (hx.1 113 (20, 6) rfl) hb14 ?_
      refine V.aload_n dX5_goToNextOrder_52 rfl ?_
      refine V.getr fl_X5_25 dX5_goToNextOrder_53 (hx.1 108 (5, 0) rfl) (hx.2.1 108 5 113 rfl) (by decide) rfl ?_
      refine V.iload_n dX5_goToNextOrder_56 rfl ?_
      obtain ⟨hb15, hf⟩ := chk_some hf
      refine V.iald dX5_goToNextOrder_57 (hx.1 113 (20, 6) rfl) hb15 ?_
      refine V.icmp_ge 67 dX5_goToNextOrder_58 (by decide) (fun c16 => ?_) (fun c16 => ?_)
      · rw [if_pos c16] at hf
        obtain rfl := Option.some.inj hf
        exact V.lo [(0, some (.ref (x + 108))), (1, some (.int g1)), (2, some (.int g2)), (3, some (.int l3))] (by simp only [Subs]; repeat' first | exact trivial | constructor | rfl) hk
      · rw [if_neg c16] at hf
        refine V.iinc (v := (l3 + (-1))) dX5_goToNextOrder_61 rfl rfl (by first | exact rfl | exact trivial) ?_
        refine V.goto 41 dX5_goToNextOrder_64 (by decide) ?_
        exact V.lo [(0, some (.ref (x + 108))), (1, some (.int g1)), (2, some (.int g2)), (3, some (.int (l3 + (-1))))] (by simp only [Subs]; repeat' first | exact trivial | constructor | rfl) (ih _ hf hk)
theorem l_ni_goToNextOrder_83 {l : Launch} {D : va_G} {E : Nat → ClassId} {B : Nat → Prop} {n F : Nat} {Q : Option Value → HT → Prop} {T : Nat → Option (Nat × Nat)} {J : Nat → Nat → Int64} {P : Nat → Nat → Option Nat} {x : Nat} {g1 : Int32} {g2 : Int32} {g3 : Int32} (hx : isSR T P x)  (r : Int32 × Int32 × (Nat → Nat → Int32)) : ∀ (k : Nat) (l4 : Int32) (l5 : Int32) (I : (Nat → Nat → Int32)), ni_goToNextOrder_83 F x g1 g2 g3 k l4 l5 I = some r → V l D E B yX5_goToNextOrder cX5_goToNextOrder 6 (some .boolean) 1 0 0 Q 0 0 (n, T, r.2.2, J, P) 107 [(0, some (.ref (x + 108))), (1, some (.int g1)), (2, some (.int g2)), (3, some (.int g3)), (4, some (.int (r.1))), (5, some (.int (r.2.1)))] [] → V l D E B yX5_goToNextOrder cX5_goToNextOrder 6 (some .boolean) 1 0 0 Q 0 0 (n, T, I, J, P) 83 [(0, some (.ref (x + 108))), (1, some (.int g1)), (2, some (.int g2)), (3, some (.int g3)), (4, some (.int l4)), (5, some (.int l5))] [] := by
  intro k
  induction k with
  | zero =>
    intro l4 l5 I hf hk
    cases hf
  | succ k ih =>
    intro l4 l5 I hf hk
    unfold ni_goToNextOrder_83 at hf
    refine V.iload dX5_goToNextOrder_83 rfl ?_
    refine V.iload dX5_goToNextOrder_85 rfl ?_
    refine V.icmp_ge 107 dX5_goToNextOrder_87 (by decide) (fun c25 => ?_) (fun c25 => ?_)
    · rw [if_pos c25] at hf
      obtain rfl := Option.some.inj hf
      exact V.lo [(0, some (.ref (x + 108))), (1, some (.int g1)), (2, some (.int g2)), (3, some (.int g3)), (4, some (.int l4)), (5, some (.int l5))] (by simp only [Subs]; repeat' first | exact trivial | constructor | rfl) hk
    · rw [if_neg c25] at hf
      refine V.aload_n dX5_goToNextOrder_90 rfl ?_
      refine V.iload dX5_goToNextOrder_91 rfl ?_
      refine V.iload dX5_goToNextOrder_93 rfl ?_
      obtain ⟨I28, hk27, hf⟩ := bnd_some hf
      try dsimp only at hf
      refine V.inv cv_X5_84 (c_ni_swapInOrder hx hk27) dX5_goToNextOrder_95 (hx.1 108 (5, 0) rfl) (by decide) rfl rfl rfl (Nat.le_of_ble_eq_true rfl) (by decide) (by decide) (Nat.le_refl _) (Nat.le_refl _) (fun _ _ hq => ?_)
      obtain ⟨rfl, rfl⟩ := hq
      refine V.iinc (v := (l4 + 1)) dX5_goToNextOrder_98 rfl rfl (by first | exact rfl | exact trivial) ?_
      refine V.iinc (v := (l5 + (-1))) dX5_goToNextOrder_101 rfl rfl (by first | exact rfl | exact trivial) ?_
      refine V.goto 83 dX5_goToNextOrder_104 (by decide) ?_
      exact V.lo [(0, some (.ref (x + 108))), (1, some (.int g1)), (2, some (.int g2)), (3, some (.int g3)), (4, some (.int (l4 + 1))), (5, some (.int (l5 + (-1))))] (by simp only [Subs]; repeat' first | exact trivial | constructor | rfl) (ih _ _ _ hf hk)
theorem c_ni_goToNextOrder {l : Launch} {D : va_G} {E : Nat → ClassId} {B : Nat → Prop} {n F : Nat} {T : Nat → Option (Nat × Nat)} {I : Nat → Nat → Int32} {J : Nat → Nat → Int64} {P : Nat → Nat → Option Nat} {x : Nat} {v1 : Int32} {r : Int32 × (Nat → Nat → Int32)} (hx : isSR T P x) (hf : ni_goToNextOrder F I x v1 = some r) : Ct l D E B yX5_goToNextOrder cX5_goToNextOrder 6 (some .boolean) 1 0 0 [.ref (x + 108), .int v1] (n, T, I, J, P) (Ret (some (.int r.1)) (n, T, r.2, J, P)) := by
  unfold ni_goToNextOrder at hf
  refine Ct.ofV (by decide) (Nat.le_of_ble_eq_true rfl) ?_
  refine V.iload_n dX5_goToNextOrder_0 rfl ?_
  refine V.iconst (v := 2) dX5_goToNextOrder_1 (by decide) ?_
  refine V.isub dX5_goToNextOrder_2 ?_
  refine V.istore_n dX5_goToNextOrder_3 rfl (by decide) (by first | exact rfl | exact trivial) ?_
  obtain ⟨x1, e2⟩ : ∃ zz_, zz_ = (v1 - 2) := ⟨_, rfl⟩
  rw [← e2] at hf ⊢
  try dsimp only at hf
  obtain ⟨m9, hk8, hf⟩ := bnd_some hf
  try dsimp only at hf
  refine V.lo [(0, some (.ref (x + 108))), (1, some (.int v1)), (2, some (.int x1))] (by simp only [Subs]; repeat' first | exact trivial | constructor | rfl) (l_ni_goToNextOrder_4 hx _ F _ hk8 ?_)
  try dsimp only
  refine V.iload_n dX5_goToNextOrder_31 rfl ?_
  refine V.if_ge 37 dX5_goToNextOrder_32 (by decide) (fun c10 => ?_) (fun c10 => ?_)
  · rw [if_pos c10] at hf
    refine V.iload_n dX5_goToNextOrder_37 rfl ?_
    refine V.iconst (v := 1) dX5_goToNextOrder_38 (by decide) ?_
    refine V.isub dX5_goToNextOrder_39 ?_
    refine V.istore_n dX5_goToNextOrder_40 rfl (by decide) (by first | exact rfl | exact trivial) ?_
    obtain ⟨x11, e12⟩ : ∃ zz_, zz_ = (v1 - 1) := ⟨_, rfl⟩
    rw [← e12] at hf ⊢
    try dsimp only at hf
    obtain ⟨m19, hk18, hf⟩ := bnd_some hf
    try dsimp only at hf
    refine V.lo [(0, some (.ref (x + 108))), (1, some (.int v1)), (2, some (.int m9)), (3, some (.int x11))] (by simp only [Subs]; repeat' first | exact trivial | constructor | rfl) (l_ni_goToNextOrder_41 hx _ F _ hk18 ?_)
    try dsimp only
    refine V.aload_n dX5_goToNextOrder_67 rfl ?_
    refine V.iload_n dX5_goToNextOrder_68 rfl ?_
    refine V.iload_n dX5_goToNextOrder_69 rfl ?_
    obtain ⟨I22, hk21, hf⟩ := bnd_some hf
    try dsimp only at hf
    refine V.inv cv_X5_84 (c_ni_swapInOrder hx hk21) dX5_goToNextOrder_70 (hx.1 108 (5, 0) rfl) (by decide) rfl rfl rfl (Nat.le_of_ble_eq_true rfl) (by decide) (by decide) (Nat.le_refl _) (Nat.le_refl _) (fun _ _ hq => ?_)
    obtain ⟨rfl, rfl⟩ := hq
    refine V.iload_n dX5_goToNextOrder_73 rfl ?_
    refine V.iconst (v := 1) dX5_goToNextOrder_74 (by decide) ?_
    refine V.iadd dX5_goToNextOrder_75 ?_
    refine V.istore dX5_goToNextOrder_76 (by decide) (by first | exact rfl | exact trivial) ?_
    obtain ⟨x23, e24⟩ : ∃ zz_, zz_ = (m9 + 1) := ⟨_, rfl⟩
    rw [← e24] at hf ⊢
    try dsimp only at hf
    refine V.iload_n dX5_goToNextOrder_78 rfl ?_
    refine V.iconst (v := 1) dX5_goToNextOrder_79 (by decide) ?_
    refine V.isub dX5_goToNextOrder_80 ?_
    rw [← e12]
    refine V.istore dX5_goToNextOrder_81 (by decide) (by first | exact rfl | exact trivial) ?_
    obtain ⟨⟨m31, m32, I33⟩, hk30, hf⟩ := bnd_some hf
    try dsimp only at hf
    refine V.lo [(0, some (.ref (x + 108))), (1, some (.int v1)), (2, some (.int m9)), (3, some (.int m19)), (4, some (.int x23)), (5, some (.int x11))] (by simp only [Subs]; repeat' first | exact trivial | constructor | rfl) (l_ni_goToNextOrder_83 hx _ F _ _ _ hk30 ?_)
    try dsimp only
    refine V.iconst (v := 1) dX5_goToNextOrder_107 (by decide) ?_
    obtain rfl := Option.some.inj hf
    exact V.zret dX5_goToNextOrder_108 rfl rfl (Nat.le_refl _) (Nat.le_refl _) ⟨rfl, rfl⟩
  · rw [if_neg c10] at hf
    refine V.iconst (v := 0) dX5_goToNextOrder_35 (by decide) ?_
    obtain rfl := Option.some.inj hf
    exact V.zret dX5_goToNextOrder_36 rfl rfl (Nat.le_refl _) (Nat.le_refl _) ⟨rfl, rfl⟩
theorem dX5_findRow_0 : decode cX5_findRow 0 = .ok (.iconst 0, 1) := by decide +kernel
theorem dX5_findRow_1 : decode cX5_findRow 1 = .ok (.istore 5, 2) := by decide +kernel
theorem dX5_findRow_3 : decode cX5_findRow 3 = .ok (.iload 5, 2) := by decide +kernel
theorem dX5_findRow_5 : decode cX5_findRow 5 = .ok (.bipush 6, 2) := by decide +kernel
theorem dX5_findRow_7 : decode cX5_findRow 7 = .ok (.if_icmp .ge 18, 3) := by decide +kernel
theorem dX5_findRow_10 : decode cX5_findRow 10 = .ok (.aload_n 0, 1) := by decide +kernel
theorem dX5_findRow_11 : decode cX5_findRow 11 = .ok (.getfield 25, 3) := by decide +kernel
theorem dX5_findRow_14 : decode cX5_findRow 14 = .ok (.iload 5, 2) := by decide +kernel
theorem dX5_findRow_16 : decode cX5_findRow 16 = .ok (.iload 5, 2) := by decide +kernel
theorem dX5_findRow_18 : decode cX5_findRow 18 = .ok (.iastore, 1) := by decide +kernel
theorem dX5_findRow_19 : decode cX5_findRow 19 = .ok (.iinc 5 1, 3) := by decide +kernel
theorem dX5_findRow_22 : decode cX5_findRow 22 = .ok (.goto (-19), 3) := by decide +kernel
theorem dX5_findRow_25 : decode cX5_findRow 25 = .ok (.aload_n 0, 1) := by decide +kernel
theorem dX5_findRow_26 : decode cX5_findRow 26 = .ok (.iconst (-1), 1) := by decide +kernel
theorem dX5_findRow_27 : decode cX5_findRow 27 = .ok (.putfield 51, 3) := by decide +kernel
theorem dX5_findRow_30 : decode cX5_findRow 30 = .ok (.aload_n 1, 1) := by decide +kernel
theorem dX5_findRow_31 : decode cX5_findRow 31 = .ok (.invokevirtual 54, 3) := by decide +kernel
theorem dX5_findRow_34 : decode cX5_findRow 34 = .ok (.ifCond .eq 9, 3) := by decide +kernel
theorem dX5_findRow_37 : decode cX5_findRow 37 = .ok (.sipush 720, 3) := by decide +kernel
theorem dX5_findRow_40 : decode cX5_findRow 40 = .ok (.goto 4, 3) := by decide +kernel
theorem dX5_findRow_43 : decode cX5_findRow 43 = .ok (.iconst 1, 1) := by decide +kernel
theorem dX5_findRow_44 : decode cX5_findRow 44 = .ok (.istore 5, 2) := by decide +kernel
theorem dX5_findRow_46 : decode cX5_findRow 46 = .ok (.iconst 1, 1) := by decide +kernel
theorem dX5_findRow_47 : decode cX5_findRow 47 = .ok (.istore 6, 2) := by decide +kernel
theorem dX5_findRow_49 : decode cX5_findRow 49 = .ok (.iconst 0, 1) := by decide +kernel
theorem dX5_findRow_50 : decode cX5_findRow 50 = .ok (.istore 7, 2) := by decide +kernel
theorem dX5_findRow_52 : decode cX5_findRow 52 = .ok (.iload 7, 2) := by decide +kernel
theorem dX5_findRow_54 : decode cX5_findRow 54 = .ok (.iload 5, 2) := by decide +kernel
theorem dX5_findRow_56 : decode cX5_findRow 56 = .ok (.if_icmp .ge 88, 3) := by decide +kernel
theorem dX5_findRow_59 : decode cX5_findRow 59 = .ok (.iload 6, 2) := by decide +kernel
theorem dX5_findRow_61 : decode cX5_findRow 61 = .ok (.ifCond .eq 83, 3) := by decide +kernel
theorem dX5_findRow_64 : decode cX5_findRow 64 = .ok (.aload_n 0, 1) := by decide +kernel
theorem dX5_findRow_65 : decode cX5_findRow 65 = .ok (.getfield 51, 3) := by decide +kernel
theorem dX5_findRow_68 : decode cX5_findRow 68 = .ok (.aload_n 0, 1) := by decide +kernel
theorem dX5_findRow_69 : decode cX5_findRow 69 = .ok (.getfield 38, 3) := by decide +kernel
theorem dX5_findRow_72 : decode cX5_findRow 72 = .ok (.if_icmp .ge 72, 3) := by decide +kernel
theorem dX5_findRow_75 : decode cX5_findRow 75 = .ok (.aload_n 3, 1) := by decide +kernel
theorem dX5_findRow_76 : decode cX5_findRow 76 = .ok (.aload_n 2, 1) := by decide +kernel
theorem dX5_findRow_77 : decode cX5_findRow 77 = .ok (.invokevirtual 60, 3) := by decide +kernel
theorem dX5_findRow_80 : decode cX5_findRow 80 = .ok (.aload_n 3, 1) := by decide +kernel
theorem dX5_findRow_81 : decode cX5_findRow 81 = .ok (.aload_n 0, 1) := by decide +kernel
theorem dX5_findRow_82 : decode cX5_findRow 82 = .ok (.getfield 25, 3) := by decide +kernel
theorem dX5_findRow_85 : decode cX5_findRow 85 = .ok (.invokevirtual 64, 3) := by decide +kernel
theorem dX5_findRow_88 : decode cX5_findRow 88 = .ok (.aload_n 0, 1) := by decide +kernel
theorem dX5_findRow_89 : decode cX5_findRow 89 = .ok (.aload_n 1, 1) := by decide +kernel
theorem dX5_findRow_90 : decode cX5_findRow 90 = .ok (.aload_n 3, 1) := by decide +kernel
theorem dX5_findRow_91 : decode cX5_findRow 91 = .ok (.iload 4, 2) := by decide +kernel
theorem dX5_findRow_93 : decode cX5_findRow 93 = .ok (.invokevirtual 68, 3) := by decide +kernel
theorem dX5_findRow_96 : decode cX5_findRow 96 = .ok (.istore 8, 2) := by decide +kernel
theorem dX5_findRow_98 : decode cX5_findRow 98 = .ok (.iload 8, 2) := by decide +kernel
theorem dX5_findRow_100 : decode cX5_findRow 100 = .ok (.aload_n 0, 1) := by decide +kernel
theorem dX5_findRow_101 : decode cX5_findRow 101 = .ok (.getfield 51, 3) := by decide +kernel
theorem dX5_findRow_104 : decode cX5_findRow 104 = .ok (.if_icmp .le 24, 3) := by decide +kernel
theorem dX5_findRow_107 : decode cX5_findRow 107 = .ok (.aload_n 0, 1) := by decide +kernel
theorem dX5_findRow_108 : decode cX5_findRow 108 = .ok (.iload 8, 2) := by decide +kernel
theorem dX5_findRow_110 : decode cX5_findRow 110 = .ok (.putfield 51, 3) := by decide +kernel
theorem dX5_findRow_113 : decode cX5_findRow 113 = .ok (.aload_n 0, 1) := by decide +kernel
theorem dX5_findRow_114 : decode cX5_findRow 114 = .ok (.getfield 25, 3) := by decide +kernel
theorem dX5_findRow_117 : decode cX5_findRow 117 = .ok (.iconst 0, 1) := by decide +kernel
theorem dX5_findRow_118 : decode cX5_findRow 118 = .ok (.aload_n 0, 1) := by decide +kernel
theorem dX5_findRow_119 : decode cX5_findRow 119 = .ok (.getfield 22, 3) := by decide +kernel
theorem dX5_findRow_122 : decode cX5_findRow 122 = .ok (.iconst 0, 1) := by decide +kernel
theorem dX5_findRow_123 : decode cX5_findRow 123 = .ok (.bipush 6, 2) := by decide +kernel
theorem dX5_findRow_125 : decode cX5_findRow 125 = .ok (.invokestatic 72, 3) := by decide +kernel
theorem dX5_findRow_128 : decode cX5_findRow 128 = .ok (.aload_n 0, 1) := by decide +kernel
theorem dX5_findRow_129 : decode cX5_findRow 129 = .ok (.aload_n 1, 1) := by decide +kernel
theorem dX5_findRow_130 : decode cX5_findRow 130 = .ok (.getfield 78, 3) := by decide +kernel
theorem dX5_findRow_133 : decode cX5_findRow 133 = .ok (.invokevirtual 81, 3) := by decide +kernel
theorem dX5_findRow_136 : decode cX5_findRow 136 = .ok (.istore 6, 2) := by decide +kernel
theorem dX5_findRow_138 : decode cX5_findRow 138 = .ok (.iinc 7 1, 3) := by decide +kernel
theorem dX5_findRow_141 : decode cX5_findRow 141 = .ok (.goto (-89), 3) := by decide +kernel
theorem dX5_findRow_144 : decode cX5_findRow 144 = .ok (.return_, 1) := by decide +kernel
def ni_findRow_3 (F : Nat) (x : Nat) (c : Nat) (a : Nat) (b : Nat) (g4 : Int32) : Nat → Int32 → (Nat → Nat → Int32) → Option (Int32 × (Nat → Nat → Int32))
  | 0, _, _ => none
  | k + 1, l5, I => if 6 ≤ l5 then (some (l5, I)) else (chk l5 6 (let I3 := uI I (x + 113) (Int32.toNatClampNeg l5) l5; ni_findRow_3 F x c a b g4 k (l5 + 1) I3))
def ni_findRow_52 (F : Nat) (T : Nat → Option (Nat × Nat)) (P : Nat → Nat → Option Nat) (x : Nat) (c : Nat) (a : Nat) (b : Nat) (g4 : Int32) (g5 : Int32) : Nat → Int32 → Int32 → (Nat → Nat → Int32) → Option (Int32 × Int32 × (Nat → Nat → Int32))
  | 0, _, _, _ => none
  | k + 1, l6, l7, I => if g5 ≤ l7 then (some (l6, l7, I)) else (if l6 = 0 then (some (l6, l7, I)) else (if (I (x + 108) 1) ≤ (I (x + 108) 4) then (some (l6, l7, I)) else ((s_copyFrom I b a).bind (fun q18 => let I20 := q18; (s_arrange F T I20 b (x + 113)).bind (fun q21 => let I23 := q21; (ni_minutesUp F T I23 P x c b g4).bind (fun q24 => let u26 := q24.1; let I27 := q24.2; if u26 ≤ (I27 (x + 108) 4) then ((ni_goToNextOrder F I27 x (I27 c 0)).bind (fun q29 => let u31 := q29.1; let I32 := q29.2; ni_findRow_52 F T P x c a b g4 g5 k u31 (l7 + 1) I32)) else (let I33 := uI I27 (x + 108) 4 u26; let I35 := cpI I33 (x + 113) (x + 112) (Int32.toNatClampNeg 0) (Int32.toNatClampNeg 0) (Int32.toNatClampNeg 6); (ni_goToNextOrder F I35 x (I35 c 0)).bind (fun q37 => let u39 := q37.1; let I40 := q37.2; ni_findRow_52 F T P x c a b g4 g5 k u39 (l7 + 1) I40))))))))
def ni_findRow (F : Nat) (T : Nat → Option (Nat × Nat)) (I : Nat → Nat → Int32) (P : Nat → Nat → Option Nat) (x : Nat) (c : Nat) (a : Nat) (b : Nat) (v4 : Int32) : Option ((Nat → Nat → Int32)) := (ni_findRow_3 F x c a b v4 F 0 I).bind (fun q5 => let m7 := q5.1; let I8 := q5.2; let I9 := uI I8 (x + 108) 4 (-1); (ct_heedsNeighbours F T I9 P c).bind (fun q11 => let u13 := q11; if u13 = 0 then ((ni_findRow_52 F T P x c a b v4 1 F 1 0 I9).bind (fun q41 => let m43 := q41.1; let m44 := q41.2.1; let I45 := q41.2.2; some I45)) else ((ni_findRow_52 F T P x c a b v4 720 F 1 0 I9).bind (fun q46 => let m48 := q46.1; let m49 := q46.2.1; let I50 := q46.2.2; some I50))))
theorem l_ni_findRow_3 {l : Launch} {D : va_G} {E : Nat → ClassId} {B : Nat → Prop} {n F : Nat} {Q : Option Value → HT → Prop} {T : Nat → Option (Nat × Nat)} {J : Nat → Nat → Int64} {P : Nat → Nat → Option Nat} {x : Nat} {c : Nat} {a : Nat} {b : Nat} {g4 : Int32} (hx : isSR T P x) (hs_c : isCt T P c) (hs_a : isSt T P a) (hs_b : isSt T P b)  (r : Int32 × (Nat → Nat → Int32)) : ∀ (k : Nat) (l5 : Int32) (I : (Nat → Nat → Int32)), ni_findRow_3 F x c a b g4 k l5 I = some r → V l D E B yX5_findRow cX5_findRow 9 none 5 0 0 Q 0 0 (n, T, r.2, J, P) 25 [(0, some (.ref (x + 108))), (1, some (.ref c)), (2, some (.ref a)), (3, some (.ref b)), (4, some (.int g4)), (5, some (.int (r.1)))] [] → V l D E B yX5_findRow cX5_findRow 9 none 5 0 0 Q 0 0 (n, T, I, J, P) 3 [(0, some (.ref (x + 108))), (1, some (.ref c)), (2, some (.ref a)), (3, some (.ref b)), (4, some (.int g4)), (5, some (.int l5))] [] := by
  intro k
  induction k with
  | zero =>
    intro l5 I hf hk
    cases hf
  | succ k ih =>
    intro l5 I hf hk
    unfold ni_findRow_3 at hf
    refine V.iload dX5_findRow_3 rfl ?_
    refine V.bipush (v := 6) dX5_findRow_5 (by decide) ?_
    refine V.icmp_ge 25 dX5_findRow_7 (by decide) (fun c1 => ?_) (fun c1 => ?_)
    · rw [if_pos c1] at hf
      obtain rfl := Option.some.inj hf
      exact V.lo [(0, some (.ref (x + 108))), (1, some (.ref c)), (2, some (.ref a)), (3, some (.ref b)), (4, some (.int g4)), (5, some (.int l5))] (by simp only [Subs]; repeat' first | exact trivial | constructor | rfl) hk
    · rw [if_neg c1] at hf
      refine V.aload_n dX5_findRow_10 rfl ?_
      refine V.getr fl_X5_25 dX5_findRow_11 (hx.1 108 (5, 0) rfl) (hx.2.1 108 5 113 rfl) (by decide) rfl ?_
      refine V.iload dX5_findRow_14 rfl ?_
      refine V.iload dX5_findRow_16 rfl ?_
      obtain ⟨hb2, hf⟩ := chk_some hf
      refine V.iastE dX5_findRow_18 (hx.1 113 (20, 6) rfl) hb2 (fun I3 e4 => ?_)
      rw [← e4] at hf
      try dsimp only at hf
      clear e4
      refine V.iinc (v := (l5 + 1)) dX5_findRow_19 rfl rfl (by first | exact rfl | exact trivial) ?_
      refine V.goto 3 dX5_findRow_22 (by decide) ?_
      exact V.lo [(0, some (.ref (x + 108))), (1, some (.ref c)), (2, some (.ref a)), (3, some (.ref b)), (4, some (.int g4)), (5, some (.int (l5 + 1)))] (by simp only [Subs]; repeat' first | exact trivial | constructor | rfl) (ih _ _ hf hk)
theorem l_ni_findRow_52 {l : Launch} {D : va_G} {E : Nat → ClassId} {B : Nat → Prop} {n F : Nat} {Q : Option Value → HT → Prop} {T : Nat → Option (Nat × Nat)} {J : Nat → Nat → Int64} {P : Nat → Nat → Option Nat} {x : Nat} {c : Nat} {a : Nat} {b : Nat} {g4 : Int32} {g5 : Int32} (hx : isSR T P x) (hs_c : isCt T P c) (hs_a : isSt T P a) (hs_b : isSt T P b)  (r : Int32 × Int32 × (Nat → Nat → Int32)) : ∀ (k : Nat) (l6 : Int32) (l7 : Int32) (I : (Nat → Nat → Int32)), ni_findRow_52 F T P x c a b g4 g5 k l6 l7 I = some r → V l D E B yX5_findRow cX5_findRow 9 none 5 0 0 Q 0 0 (n, T, r.2.2, J, P) 144 [(0, some (.ref (x + 108))), (1, some (.ref c)), (2, some (.ref a)), (3, some (.ref b)), (4, some (.int g4)), (5, some (.int g5)), (6, some (.int (r.1))), (7, some (.int (r.2.1)))] [] → V l D E B yX5_findRow cX5_findRow 9 none 5 0 0 Q 0 0 (n, T, I, J, P) 52 [(0, some (.ref (x + 108))), (1, some (.ref c)), (2, some (.ref a)), (3, some (.ref b)), (4, some (.int g4)), (5, some (.int g5)), (6, some (.int l6)), (7, some (.int l7))] [] := by
  intro k
  induction k with
  | zero =>
    intro l6 l7 I hf hk
    cases hf
  | succ k ih =>
    intro l6 l7 I hf hk
    unfold ni_findRow_52 at hf
    refine V.iload dX5_findRow_52 rfl ?_
    refine V.iload dX5_findRow_54 rfl ?_
    refine V.icmp_ge 144 dX5_findRow_56 (by decide) (fun c15 => ?_) (fun c15 => ?_)
    · rw [if_pos c15] at hf
      obtain rfl := Option.some.inj hf
      exact V.lo [(0, some (.ref (x + 108))), (1, some (.ref c)), (2, some (.ref a)), (3, some (.ref b)), (4, some (.int g4)), (5, some (.int g5)), (6, some (.int l6)), (7, some (.int l7))] (by simp only [Subs]; repeat' first | exact trivial | constructor | rfl) hk
    · rw [if_neg c15] at hf
      refine V.iload dX5_findRow_59 rfl ?_
      refine V.if_eq 144 dX5_findRow_61 (by decide) (fun c16 => ?_) (fun c16 => ?_)
      · rw [if_pos c16] at hf
        obtain rfl := Option.some.inj hf
        exact V.lo [(0, some (.ref (x + 108))), (1, some (.ref c)), (2, some (.ref a)), (3, some (.ref b)), (4, some (.int g4)), (5, some (.int g5)), (6, some (.int l6)), (7, some (.int l7))] (by simp only [Subs]; repeat' first | exact trivial | constructor | rfl) hk
      · rw [if_neg c16] at hf
        refine V.aload_n dX5_findRow_64 rfl ?_
        refine V.getf fl_X5_51 dX5_findRow_65 (hx.1 108 (5, 0) rfl) (by decide) rfl ?_
        refine V.aload_n dX5_findRow_68 rfl ?_
        refine V.getf fl_X5_38 dX5_findRow_69 (hx.1 108 (5, 0) rfl) (by decide) rfl ?_
        refine V.icmp_ge 144 dX5_findRow_72 (by decide) (fun c17 => ?_) (fun c17 => ?_)
        · rw [if_pos c17] at hf
          obtain rfl := Option.some.inj hf
          exact V.lo [(0, some (.ref (x + 108))), (1, some (.ref c)), (2, some (.ref a)), (3, some (.ref b)), (4, some (.int g4)), (5, some (.int g5)), (6, some (.int l6)), (7, some (.int l7))] (by simp only [Subs]; repeat' first | exact trivial | constructor | rfl) hk
        · rw [if_neg c17] at hf
          refine V.aload_n dX5_findRow_75 rfl ?_
          refine V.aload_n dX5_findRow_76 rfl ?_
          obtain ⟨I20, hk19, hf⟩ := bnd_some hf
          try dsimp only at hf
          refine V.inv cv_X5_60 (c_s_copyFrom hs_b hs_a hk19) dX5_findRow_77 (hs_b.1 0 (8, 0) rfl) (by decide) rfl rfl rfl (Nat.le_of_ble_eq_true rfl) (by decide) (by decide) (Nat.le_refl _) (Nat.le_refl _) (fun _ _ hq => ?_)
          obtain ⟨rfl, rfl⟩ := hq
          refine V.aload_n dX5_findRow_80 rfl ?_
          refine V.aload_n dX5_findRow_81 rfl ?_
          refine V.getr fl_X5_25 dX5_findRow_82 (hx.1 108 (5, 0) rfl) (hx.2.1 108 5 113 rfl) (by decide) rfl ?_
          obtain ⟨I23, hk22, hf⟩ := bnd_some hf
          try dsimp only at hf
          refine V.inv cv_X5_64 (c_s_arrange hs_b (lenT_of (hx.1 113 (20, 6) rfl)) hk22) dX5_findRow_85 (hs_b.1 0 (8, 0) rfl) (by decide) rfl rfl rfl (Nat.le_of_ble_eq_true rfl) (by decide) (by decide) (Nat.le_refl _) (Nat.le_refl _) (fun _ _ hq => ?_)
          obtain ⟨rfl, rfl⟩ := hq
          refine V.aload_n dX5_findRow_88 rfl ?_
          refine V.aload_n dX5_findRow_89 rfl ?_
          refine V.aload_n dX5_findRow_90 rfl ?_
          refine V.iload dX5_findRow_91 rfl ?_
          obtain ⟨⟨u26, I27⟩, hk25, hf⟩ := bnd_some hf
          try dsimp only at hf
          refine V.inv cv_X5_68 (c_ni_minutesUp hx hs_c hs_b hk25) dX5_findRow_93 (hx.1 108 (5, 0) rfl) (by decide) rfl rfl rfl (Nat.le_of_ble_eq_true rfl) (by decide) (by decide) (Nat.le_refl _) (Nat.le_refl _) (fun _ _ hq => ?_)
          obtain ⟨rfl, rfl⟩ := hq
          try dsimp only
          refine V.istore dX5_findRow_96 (by decide) (by first | exact rfl | exact trivial) ?_
          refine V.iload dX5_findRow_98 rfl ?_
          refine V.aload_n dX5_findRow_100 rfl ?_
          refine V.getf fl_X5_51 dX5_findRow_101 (hx.1 108 (5, 0) rfl) (by decide) rfl ?_
          refine V.icmp_le 128 dX5_findRow_104 (by decide) (fun c28 => ?_) (fun c28 => ?_)
          · rw [if_pos c28] at hf
            refine V.aload_n dX5_findRow_128 rfl ?_
            refine V.aload_n dX5_findRow_129 rfl ?_
            refine V.getf fl_X5_78 dX5_findRow_130 (hs_c.1.1 0 (1, 0) rfl) (by decide) rfl ?_
            obtain ⟨⟨u31, I32⟩, hk30, hf⟩ := bnd_some hf
            try dsimp only at hf
            refine V.inv cv_X5_81 (c_ni_goToNextOrder hx hk30) dX5_findRow_133 (hx.1 108 (5, 0) rfl) (by decide) rfl rfl rfl (Nat.le_of_ble_eq_true rfl) (by decide) (by decide) (Nat.le_refl _) (Nat.le_refl _) (fun _ _ hq => ?_)
            obtain ⟨rfl, rfl⟩ := hq
            try dsimp only
            refine V.istore dX5_findRow_136 (by decide) (by first | exact rfl | exact trivial) ?_
            refine V.iinc (v := (l7 + 1)) dX5_findRow_138 rfl rfl (by first | exact rfl | exact trivial) ?_
            refine V.goto 52 dX5_findRow_141 (by decide) ?_
            exact V.lo [(0, some (.ref (x + 108))), (1, some (.ref c)), (2, some (.ref a)), (3, some (.ref b)), (4, some (.int g4)), (5, some (.int g5)), (6, some (.int u31)), (7, some (.int (l7 + 1)))] (by simp only [Subs]; repeat' first | exact trivial | constructor | rfl) (ih _ _ _ hf hk)
          · rw [if_neg c28] at hf
            refine V.aload_n dX5_findRow_107 rfl ?_
            refine V.iload dX5_findRow_108 rfl ?_
            refine V.putiE fl_X5_51 dX5_findRow_110 (hx.1 108 (5, 0) rfl) (by decide) (fun h => by cases h) rfl rfl rfl (Nat.le_of_ble_eq_true rfl) (fun I33 e34 => ?_)
            rw [← e34] at hf
            try dsimp only at hf
            clear e34
            refine V.aload_n dX5_findRow_113 rfl ?_
            refine V.getr fl_X5_25 dX5_findRow_114 (hx.1 108 (5, 0) rfl) (hx.2.1 108 5 113 rfl) (by decide) rfl ?_
            refine V.iconst (v := 0) dX5_findRow_117 (by decide) ?_
            refine V.aload_n dX5_findRow_118 rfl ?_
            refine V.getr fl_X5_22 dX5_findRow_119 (hx.1 108 (5, 0) rfl) (hx.2.1 108 3 112 rfl) (by decide) rfl ?_
            refine V.iconst (v := 0) dX5_findRow_122 (by decide) ?_
            refine V.bipush (v := 6) dX5_findRow_123 (by decide) ?_
            refine V.acopy dX5_findRow_125 ca_X5_72 (hx.1 113 (20, 6) rfl) (hx.1 112 (20, 6) rfl) (by decide) (by decide) (by decide) (by decide) (by decide) (by decide) (Nat.le_of_ble_eq_true rfl) (fun I35 e36 => ?_)
            rw [← e36] at hf
            try dsimp only at hf
            clear e36
            refine V.aload_n dX5_findRow_128 rfl ?_
            refine V.aload_n dX5_findRow_129 rfl ?_
            refine V.getf fl_X5_78 dX5_findRow_130 (hs_c.1.1 0 (1, 0) rfl) (by decide) rfl ?_
            obtain ⟨⟨u39, I40⟩, hk38, hf⟩ := bnd_some hf
            try dsimp only at hf
            refine V.inv cv_X5_81 (c_ni_goToNextOrder hx hk38) dX5_findRow_133 (hx.1 108 (5, 0) rfl) (by decide) rfl rfl rfl (Nat.le_of_ble_eq_true rfl) (by decide) (by decide) (Nat.le_refl _) (Nat.le_refl _) (fun _ _ hq => ?_)
            obtain ⟨rfl, rfl⟩ := hq
            try dsimp only
            refine V.istore dX5_findRow_136 (by decide) (by first | exact rfl | exact trivial) ?_
            refine V.iinc (v := (l7 + 1)) dX5_findRow_138 rfl rfl (by first | exact rfl | exact trivial) ?_
            refine V.goto 52 dX5_findRow_141 (by decide) ?_
            exact V.lo [(0, some (.ref (x + 108))), (1, some (.ref c)), (2, some (.ref a)), (3, some (.ref b)), (4, some (.int g4)), (5, some (.int g5)), (6, some (.int u39)), (7, some (.int (l7 + 1)))] (by simp only [Subs]; repeat' first | exact trivial | constructor | rfl) (ih _ _ _ hf hk)
theorem c_ni_findRow {l : Launch} {D : va_G} {E : Nat → ClassId} {B : Nat → Prop} {n F : Nat} {T : Nat → Option (Nat × Nat)} {I : Nat → Nat → Int32} {J : Nat → Nat → Int64} {P : Nat → Nat → Option Nat} {x : Nat} {c : Nat} {a : Nat} {b : Nat} {v4 : Int32} {r : (Nat → Nat → Int32)} (hx : isSR T P x) (hs_c : isCt T P c) (hs_a : isSt T P a) (hs_b : isSt T P b) (hf : ni_findRow F T I P x c a b v4 = some r) : Ct l D E B yX5_findRow cX5_findRow 9 none 5 0 0 [.ref (x + 108), .ref c, .ref a, .ref b, .int v4] (n, T, I, J, P) (Ret (none) (n, T, r, J, P)) := by
  unfold ni_findRow at hf
  refine Ct.ofV (by decide) (Nat.le_of_ble_eq_true rfl) ?_
  refine V.iconst (v := 0) dX5_findRow_0 (by decide) ?_
  refine V.istore dX5_findRow_1 (by decide) (by first | exact rfl | exact trivial) ?_
  obtain ⟨⟨m7, I8⟩, hk6, hf⟩ := bnd_some hf
  try dsimp only at hf
  refine V.lo [(0, some (.ref (x + 108))), (1, some (.ref c)), (2, some (.ref a)), (3, some (.ref b)), (4, some (.int v4)), (5, some (.int 0))] (by simp only [Subs]; repeat' first | exact trivial | constructor | rfl) (l_ni_findRow_3 hx hs_c hs_a hs_b _ F _ _ hk6 ?_)
  try dsimp only
  refine V.aload_n dX5_findRow_25 rfl ?_
  refine V.iconst (v := -1) dX5_findRow_26 (by decide) ?_
  refine V.putiE fl_X5_51 dX5_findRow_27 (hx.1 108 (5, 0) rfl) (by decide) (fun h => by cases h) rfl rfl rfl (Nat.le_of_ble_eq_true rfl) (fun I9 e10 => ?_)
  rw [← e10] at hf
  try dsimp only at hf
  clear e10
  refine V.aload_n dX5_findRow_30 rfl ?_
  obtain ⟨u13, hk12, hf⟩ := bnd_some hf
  try dsimp only at hf
  refine V.inv cv_X5_54 (c_ct_heedsNeighbours hs_c hk12) dX5_findRow_31 (hs_c.1.1 0 (1, 0) rfl) (by decide) rfl rfl rfl (Nat.le_of_ble_eq_true rfl) (by decide) (by decide) (Nat.le_refl _) (Nat.le_refl _) (fun _ _ hq => ?_)
  obtain ⟨rfl, rfl⟩ := hq
  refine V.if_eq 43 dX5_findRow_34 (by decide) (fun c14 => ?_) (fun c14 => ?_)
  · rw [if_pos c14] at hf
    refine V.iconst (v := 1) dX5_findRow_43 (by decide) ?_
    refine V.istore dX5_findRow_44 (by decide) (by first | exact rfl | exact trivial) ?_
    refine V.iconst (v := 1) dX5_findRow_46 (by decide) ?_
    refine V.istore dX5_findRow_47 (by decide) (by first | exact rfl | exact trivial) ?_
    refine V.iconst (v := 0) dX5_findRow_49 (by decide) ?_
    refine V.istore dX5_findRow_50 (by decide) (by first | exact rfl | exact trivial) ?_
    obtain ⟨⟨m43, m44, I45⟩, hk42, hf⟩ := bnd_some hf
    try dsimp only at hf
    refine V.lo [(0, some (.ref (x + 108))), (1, some (.ref c)), (2, some (.ref a)), (3, some (.ref b)), (4, some (.int v4)), (5, some (.int 1)), (6, some (.int 1)), (7, some (.int 0))] (by simp only [Subs]; repeat' first | exact trivial | constructor | rfl) (l_ni_findRow_52 hx hs_c hs_a hs_b _ F _ _ _ hk42 ?_)
    try dsimp only
    obtain rfl := Option.some.inj hf
    exact V.vret dX5_findRow_144 rfl (Nat.le_refl _) (Nat.le_refl _) ⟨rfl, rfl⟩
  · rw [if_neg c14] at hf
    refine V.sipush (v := 720) dX5_findRow_37 (by decide) ?_
    refine V.goto 44 dX5_findRow_40 (by decide) ?_
    refine V.istore dX5_findRow_44 (by decide) (by first | exact rfl | exact trivial) ?_
    refine V.iconst (v := 1) dX5_findRow_46 (by decide) ?_
    refine V.istore dX5_findRow_47 (by decide) (by first | exact rfl | exact trivial) ?_
    refine V.iconst (v := 0) dX5_findRow_49 (by decide) ?_
    refine V.istore dX5_findRow_50 (by decide) (by first | exact rfl | exact trivial) ?_
    obtain ⟨⟨m48, m49, I50⟩, hk47, hf⟩ := bnd_some hf
    try dsimp only at hf
    refine V.lo [(0, some (.ref (x + 108))), (1, some (.ref c)), (2, some (.ref a)), (3, some (.ref b)), (4, some (.int v4)), (5, some (.int 720)), (6, some (.int 1)), (7, some (.int 0))] (by simp only [Subs]; repeat' first | exact trivial | constructor | rfl) (l_ni_findRow_52 hx hs_c hs_a hs_b _ F _ _ _ hk47 ?_)
    try dsimp only
    obtain rfl := Option.some.inj hf
    exact V.vret dX5_findRow_144 rfl (Nat.le_refl _) (Nat.le_refl _) ⟨rfl, rfl⟩
theorem dX10_standAgainst_0 : decode cX10_standAgainst 0 = .ok (.aload_n 0, 1) := by decide +kernel
theorem dX10_standAgainst_1 : decode cX10_standAgainst 1 = .ok (.getfield 35, 3) := by decide +kernel
theorem dX10_standAgainst_4 : decode cX10_standAgainst 4 = .ok (.aload_n 0, 1) := by decide +kernel
theorem dX10_standAgainst_5 : decode cX10_standAgainst 5 = .ok (.getfield 31, 3) := by decide +kernel
theorem dX10_standAgainst_8 : decode cX10_standAgainst 8 = .ok (.invokevirtual 38, 3) := by decide +kernel
theorem dX10_standAgainst_11 : decode cX10_standAgainst 11 = .ok (.iconst 0, 1) := by decide +kernel
theorem dX10_standAgainst_12 : decode cX10_standAgainst 12 = .ok (.istore 7, 2) := by decide +kernel
theorem dX10_standAgainst_14 : decode cX10_standAgainst 14 = .ok (.iconst 0, 1) := by decide +kernel
theorem dX10_standAgainst_15 : decode cX10_standAgainst 15 = .ok (.istore 8, 2) := by decide +kernel
theorem dX10_standAgainst_17 : decode cX10_standAgainst 17 = .ok (.iconst 0, 1) := by decide +kernel
theorem dX10_standAgainst_18 : decode cX10_standAgainst 18 = .ok (.istore 9, 2) := by decide +kernel
theorem dX10_standAgainst_20 : decode cX10_standAgainst 20 = .ok (.iload 9, 2) := by decide +kernel
theorem dX10_standAgainst_22 : decode cX10_standAgainst 22 = .ok (.bipush 20, 2) := by decide +kernel
theorem dX10_standAgainst_24 : decode cX10_standAgainst 24 = .ok (.if_icmp .gt 94, 3) := by decide +kernel
theorem dX10_standAgainst_27 : decode cX10_standAgainst 27 = .ok (.aload_n 0, 1) := by decide +kernel
theorem dX10_standAgainst_28 : decode cX10_standAgainst 28 = .ok (.getfield 35, 3) := by decide +kernel
theorem dX10_standAgainst_31 : decode cX10_standAgainst 31 = .ok (.iload_n 3, 1) := by decide +kernel
theorem dX10_standAgainst_32 : decode cX10_standAgainst 32 = .ok (.invokevirtual 60, 3) := by decide +kernel
theorem dX10_standAgainst_35 : decode cX10_standAgainst 35 = .ok (.ifCond .eq 22, 3) := by decide +kernel
theorem dX10_standAgainst_38 : decode cX10_standAgainst 38 = .ok (.iload 9, 2) := by decide +kernel
theorem dX10_standAgainst_40 : decode cX10_standAgainst 40 = .ok (.istore 7, 2) := by decide +kernel
theorem dX10_standAgainst_42 : decode cX10_standAgainst 42 = .ok (.iload 9, 2) := by decide +kernel
theorem dX10_standAgainst_44 : decode cX10_standAgainst 44 = .ok (.iload 5, 2) := by decide +kernel
theorem dX10_standAgainst_46 : decode cX10_standAgainst 46 = .ok (.if_icmp .ne 11, 3) := by decide +kernel
theorem dX10_standAgainst_49 : decode cX10_standAgainst 49 = .ok (.aload_n 0, 1) := by decide +kernel
theorem dX10_standAgainst_50 : decode cX10_standAgainst 50 = .ok (.getfield 35, 3) := by decide +kernel
theorem dX10_standAgainst_53 : decode cX10_standAgainst 53 = .ok (.iload_n 3, 1) := by decide +kernel
theorem dX10_standAgainst_54 : decode cX10_standAgainst 54 = .ok (.invokevirtual 64, 3) := by decide +kernel
theorem dX10_standAgainst_57 : decode cX10_standAgainst 57 = .ok (.aload_n 0, 1) := by decide +kernel
theorem dX10_standAgainst_58 : decode cX10_standAgainst 58 = .ok (.getfield 35, 3) := by decide +kernel
theorem dX10_standAgainst_61 : decode cX10_standAgainst 61 = .ok (.iload 4, 2) := by decide +kernel
theorem dX10_standAgainst_63 : decode cX10_standAgainst 63 = .ok (.invokevirtual 60, 3) := by decide +kernel
theorem dX10_standAgainst_66 : decode cX10_standAgainst 66 = .ok (.ifCond .eq 23, 3) := by decide +kernel
theorem dX10_standAgainst_69 : decode cX10_standAgainst 69 = .ok (.iload 9, 2) := by decide +kernel
theorem dX10_standAgainst_71 : decode cX10_standAgainst 71 = .ok (.istore 8, 2) := by decide +kernel
theorem dX10_standAgainst_73 : decode cX10_standAgainst 73 = .ok (.iload 9, 2) := by decide +kernel
theorem dX10_standAgainst_75 : decode cX10_standAgainst 75 = .ok (.iload 6, 2) := by decide +kernel
theorem dX10_standAgainst_77 : decode cX10_standAgainst 77 = .ok (.if_icmp .ne 12, 3) := by decide +kernel
theorem dX10_standAgainst_80 : decode cX10_standAgainst 80 = .ok (.aload_n 0, 1) := by decide +kernel
theorem dX10_standAgainst_81 : decode cX10_standAgainst 81 = .ok (.getfield 35, 3) := by decide +kernel
theorem dX10_standAgainst_84 : decode cX10_standAgainst 84 = .ok (.iload 4, 2) := by decide +kernel
theorem dX10_standAgainst_86 : decode cX10_standAgainst 86 = .ok (.invokevirtual 64, 3) := by decide +kernel
theorem dX10_standAgainst_89 : decode cX10_standAgainst 89 = .ok (.aload_n 0, 1) := by decide +kernel
theorem dX10_standAgainst_90 : decode cX10_standAgainst 90 = .ok (.getfield 35, 3) := by decide +kernel
theorem dX10_standAgainst_93 : decode cX10_standAgainst 93 = .ok (.getfield 42, 3) := by decide +kernel
theorem dX10_standAgainst_96 : decode cX10_standAgainst 96 = .ok (.ifCond .ne 6, 3) := by decide +kernel
theorem dX10_standAgainst_99 : decode cX10_standAgainst 99 = .ok (.goto 19, 3) := by decide +kernel
theorem dX10_standAgainst_102 : decode cX10_standAgainst 102 = .ok (.aload_n 0, 1) := by decide +kernel
theorem dX10_standAgainst_103 : decode cX10_standAgainst 103 = .ok (.getfield 35, 3) := by decide +kernel
theorem dX10_standAgainst_106 : decode cX10_standAgainst 106 = .ok (.aload_n 1, 1) := by decide +kernel
theorem dX10_standAgainst_107 : decode cX10_standAgainst 107 = .ok (.iload_n 2, 1) := by decide +kernel
theorem dX10_standAgainst_108 : decode cX10_standAgainst 108 = .ok (.iconst 1, 1) := by decide +kernel
theorem dX10_standAgainst_109 : decode cX10_standAgainst 109 = .ok (.invokevirtual 68, 3) := by decide +kernel
theorem dX10_standAgainst_112 : decode cX10_standAgainst 112 = .ok (.iinc 9 1, 3) := by decide +kernel
theorem dX10_standAgainst_115 : decode cX10_standAgainst 115 = .ok (.goto (-95), 3) := by decide +kernel
theorem dX10_standAgainst_118 : decode cX10_standAgainst 118 = .ok (.aload_n 0, 1) := by decide +kernel
theorem dX10_standAgainst_119 : decode cX10_standAgainst 119 = .ok (.getfield 22, 3) := by decide +kernel
theorem dX10_standAgainst_122 : decode cX10_standAgainst 122 = .ok (.iload 5, 2) := by decide +kernel
theorem dX10_standAgainst_124 : decode cX10_standAgainst 124 = .ok (.bipush 21, 2) := by decide +kernel
theorem dX10_standAgainst_126 : decode cX10_standAgainst 126 = .ok (.imul, 1) := by decide +kernel
theorem dX10_standAgainst_127 : decode cX10_standAgainst 127 = .ok (.iload 6, 2) := by decide +kernel
theorem dX10_standAgainst_129 : decode cX10_standAgainst 129 = .ok (.iadd, 1) := by decide +kernel
theorem dX10_standAgainst_130 : decode cX10_standAgainst 130 = .ok (.aload_n 1, 1) := by decide +kernel
theorem dX10_standAgainst_131 : decode cX10_standAgainst 131 = .ok (.getfield 72, 3) := by decide +kernel
theorem dX10_standAgainst_134 : decode cX10_standAgainst 134 = .ok (.iload 7, 2) := by decide +kernel
theorem dX10_standAgainst_136 : decode cX10_standAgainst 136 = .ok (.iload 8, 2) := by decide +kernel
theorem dX10_standAgainst_138 : decode cX10_standAgainst 138 = .ok (.if_icmp .le 7, 3) := by decide +kernel
theorem dX10_standAgainst_141 : decode cX10_standAgainst 141 = .ok (.iconst 0, 1) := by decide +kernel
theorem dX10_standAgainst_142 : decode cX10_standAgainst 142 = .ok (.goto 4, 3) := by decide +kernel
theorem dX10_standAgainst_145 : decode cX10_standAgainst 145 = .ok (.iconst 1, 1) := by decide +kernel
theorem dX10_standAgainst_146 : decode cX10_standAgainst 146 = .ok (.iaload, 1) := by decide +kernel
theorem dX10_standAgainst_147 : decode cX10_standAgainst 147 = .ok (.aload_n 0, 1) := by decide +kernel
theorem dX10_standAgainst_148 : decode cX10_standAgainst 148 = .ok (.getfield 35, 3) := by decide +kernel
theorem dX10_standAgainst_151 : decode cX10_standAgainst 151 = .ok (.getfield 46, 3) := by decide +kernel
theorem dX10_standAgainst_154 : decode cX10_standAgainst 154 = .ok (.iload_n 3, 1) := by decide +kernel
theorem dX10_standAgainst_155 : decode cX10_standAgainst 155 = .ok (.iaload, 1) := by decide +kernel
theorem dX10_standAgainst_156 : decode cX10_standAgainst 156 = .ok (.isub, 1) := by decide +kernel
theorem dX10_standAgainst_157 : decode cX10_standAgainst 157 = .ok (.iastore, 1) := by decide +kernel
theorem dX10_standAgainst_158 : decode cX10_standAgainst 158 = .ok (.aload_n 0, 1) := by decide +kernel
theorem dX10_standAgainst_159 : decode cX10_standAgainst 159 = .ok (.getfield 25, 3) := by decide +kernel
theorem dX10_standAgainst_162 : decode cX10_standAgainst 162 = .ok (.iload 5, 2) := by decide +kernel
theorem dX10_standAgainst_164 : decode cX10_standAgainst 164 = .ok (.bipush 21, 2) := by decide +kernel
theorem dX10_standAgainst_166 : decode cX10_standAgainst 166 = .ok (.imul, 1) := by decide +kernel
theorem dX10_standAgainst_167 : decode cX10_standAgainst 167 = .ok (.iload 6, 2) := by decide +kernel
theorem dX10_standAgainst_169 : decode cX10_standAgainst 169 = .ok (.iadd, 1) := by decide +kernel
theorem dX10_standAgainst_170 : decode cX10_standAgainst 170 = .ok (.aload_n 1, 1) := by decide +kernel
theorem dX10_standAgainst_171 : decode cX10_standAgainst 171 = .ok (.getfield 72, 3) := by decide +kernel
theorem dX10_standAgainst_174 : decode cX10_standAgainst 174 = .ok (.iload 8, 2) := by decide +kernel
theorem dX10_standAgainst_176 : decode cX10_standAgainst 176 = .ok (.iload 7, 2) := by decide +kernel
theorem dX10_standAgainst_178 : decode cX10_standAgainst 178 = .ok (.if_icmp .le 7, 3) := by decide +kernel
theorem dX10_standAgainst_181 : decode cX10_standAgainst 181 = .ok (.iconst 0, 1) := by decide +kernel
theorem dX10_standAgainst_182 : decode cX10_standAgainst 182 = .ok (.goto 4, 3) := by decide +kernel
theorem dX10_standAgainst_185 : decode cX10_standAgainst 185 = .ok (.iconst 1, 1) := by decide +kernel
theorem dX10_standAgainst_186 : decode cX10_standAgainst 186 = .ok (.iaload, 1) := by decide +kernel
theorem dX10_standAgainst_187 : decode cX10_standAgainst 187 = .ok (.aload_n 0, 1) := by decide +kernel
theorem dX10_standAgainst_188 : decode cX10_standAgainst 188 = .ok (.getfield 35, 3) := by decide +kernel
theorem dX10_standAgainst_191 : decode cX10_standAgainst 191 = .ok (.getfield 46, 3) := by decide +kernel
theorem dX10_standAgainst_194 : decode cX10_standAgainst 194 = .ok (.iload 4, 2) := by decide +kernel
theorem dX10_standAgainst_196 : decode cX10_standAgainst 196 = .ok (.iaload, 1) := by decide +kernel
theorem dX10_standAgainst_197 : decode cX10_standAgainst 197 = .ok (.isub, 1) := by decide +kernel
theorem dX10_standAgainst_198 : decode cX10_standAgainst 198 = .ok (.iastore, 1) := by decide +kernel
theorem dX10_standAgainst_199 : decode cX10_standAgainst 199 = .ok (.return_, 1) := by decide +kernel
def wa_standAgainst_20 (F : Nat) (T : Nat → Option (Nat × Nat)) (P : Nat → Nat → Option Nat) (x : Nat) (c : Nat) (g2 : Int32) (g3 : Int32) (g4 : Int32) (g5 : Int32) (g6 : Int32) : Nat → Int32 → Int32 → Int32 → (Nat → Nat → Int32) → Option (Int32 × Int32 × Int32 × (Nat → Nat → Int32))
  | 0, _, _, _, _ => none
  | k + 1, l7, l8, l9, I => if 20 < l9 then (some (l7, l8, l9, I)) else (if (s_isUp I (x + 127) g3) = 0 then (if (s_isUp I (x + 127) g4) = 0 then (if (I (x + 127) 1) = 0 then (some (l7, l8, l9, I)) else ((s_playMinute F T I P (x + 127) c g2 1).bind (fun q8 => let I10 := q8; wa_standAgainst_20 F T P x c g2 g3 g4 g5 g6 k l7 l8 (l9 + 1) I10))) else (if l9 = g6 then ((s_seat I (x + 127) g4).bind (fun q16 => let I18 := q16; if (I18 (x + 127) 1) = 0 then (some (l7, l9, l9, I18)) else ((s_playMinute F T I18 P (x + 127) c g2 1).bind (fun q20 => let I22 := q20; wa_standAgainst_20 F T P x c g2 g3 g4 g5 g6 k l7 l9 (l9 + 1) I22)))) else (if (I (x + 127) 1) = 0 then (some (l7, l9, l9, I)) else ((s_playMinute F T I P (x + 127) c g2 1).bind (fun q13 => let I15 := q13; wa_standAgainst_20 F T P x c g2 g3 g4 g5 g6 k l7 l9 (l9 + 1) I15))))) else (if l9 = g5 then ((s_seat I (x + 127) g3).bind (fun q41 => let I43 := q41; if (s_isUp I43 (x + 127) g4) = 0 then (if (I43 (x + 127) 1) = 0 then (some (l9, l8, l9, I43)) else ((s_playMinute F T I43 P (x + 127) c g2 1).bind (fun q46 => let I48 := q46; wa_standAgainst_20 F T P x c g2 g3 g4 g5 g6 k l9 l8 (l9 + 1) I48))) else (if l9 = g6 then ((s_seat I43 (x + 127) g4).bind (fun q54 => let I56 := q54; if (I56 (x + 127) 1) = 0 then (some (l9, l9, l9, I56)) else ((s_playMinute F T I56 P (x + 127) c g2 1).bind (fun q58 => let I60 := q58; wa_standAgainst_20 F T P x c g2 g3 g4 g5 g6 k l9 l9 (l9 + 1) I60)))) else (if (I43 (x + 127) 1) = 0 then (some (l9, l9, l9, I43)) else ((s_playMinute F T I43 P (x + 127) c g2 1).bind (fun q51 => let I53 := q51; wa_standAgainst_20 F T P x c g2 g3 g4 g5 g6 k l9 l9 (l9 + 1) I53)))))) else (if (s_isUp I (x + 127) g4) = 0 then (if (I (x + 127) 1) = 0 then (some (l9, l8, l9, I)) else ((s_playMinute F T I P (x + 127) c g2 1).bind (fun q26 => let I28 := q26; wa_standAgainst_20 F T P x c g2 g3 g4 g5 g6 k l9 l8 (l9 + 1) I28))) else (if l9 = g6 then ((s_seat I (x + 127) g4).bind (fun q34 => let I36 := q34; if (I36 (x + 127) 1) = 0 then (some (l9, l9, l9, I36)) else ((s_playMinute F T I36 P (x + 127) c g2 1).bind (fun q38 => let I40 := q38; wa_standAgainst_20 F T P x c g2 g3 g4 g5 g6 k l9 l9 (l9 + 1) I40)))) else (if (I (x + 127) 1) = 0 then (some (l9, l9, l9, I)) else ((s_playMinute F T I P (x + 127) c g2 1).bind (fun q31 => let I33 := q31; wa_standAgainst_20 F T P x c g2 g3 g4 g5 g6 k l9 l9 (l9 + 1) I33)))))))
def wa_standAgainst (F : Nat) (T : Nat → Option (Nat × Nat)) (I : Nat → Nat → Int32) (P : Nat → Nat → Option Nat) (x : Nat) (c : Nat) (v2 : Int32) (v3 : Int32) (v4 : Int32) (v5 : Int32) (v6 : Int32) : Option ((Nat → Nat → Int32)) := (s_copyFrom I (x + 127) (x + 120)).bind (fun q1 => let I3 := q1; (wa_standAgainst_20 F T P x c v2 v3 v4 v5 v6 F 0 0 0 I3).bind (fun q61 => let m63 := q61.1; let m64 := q61.2.1; let m65 := q61.2.2.1; let I66 := q61.2.2.2; if m63 ≤ m64 then (chk v3 6 (chk ((v5 * 21) + v6) 441 (let I70 := uI I66 (x + 118) (Int32.toNatClampNeg ((v5 * 21) + v6)) ((I66 (c + 4) (Int32.toNatClampNeg 1)) - (I66 ((x + 127) + 2) (Int32.toNatClampNeg v3))); if m64 ≤ m63 then (chk v4 6 (let I74 := uI I70 (x + 119) (Int32.toNatClampNeg ((v5 * 21) + v6)) ((I70 (c + 4) (Int32.toNatClampNeg 1)) - (I70 ((x + 127) + 2) (Int32.toNatClampNeg v4))); some I74)) else (chk v4 6 (let I77 := uI I70 (x + 119) (Int32.toNatClampNeg ((v5 * 21) + v6)) ((I70 (c + 4) (Int32.toNatClampNeg 0)) - (I70 ((x + 127) + 2) (Int32.toNatClampNeg v4))); some I77))))) else (chk v3 6 (chk ((v5 * 21) + v6) 441 (let I81 := uI I66 (x + 118) (Int32.toNatClampNeg ((v5 * 21) + v6)) ((I66 (c + 4) (Int32.toNatClampNeg 0)) - (I66 ((x + 127) + 2) (Int32.toNatClampNeg v3))); if m64 ≤ m63 then (chk v4 6 (let I85 := uI I81 (x + 119) (Int32.toNatClampNeg ((v5 * 21) + v6)) ((I81 (c + 4) (Int32.toNatClampNeg 1)) - (I81 ((x + 127) + 2) (Int32.toNatClampNeg v4))); some I85)) else (chk v4 6 (let I88 := uI I81 (x + 119) (Int32.toNatClampNeg ((v5 * 21) + v6)) ((I81 (c + 4) (Int32.toNatClampNeg 0)) - (I81 ((x + 127) + 2) (Int32.toNatClampNeg v4))); some I88)))))))
theorem l_wa_standAgainst_20 {l : Launch} {D : va_G} {E : Nat → ClassId} {B : Nat → Prop} {n F : Nat} {Q : Option Value → HT → Prop} {T : Nat → Option (Nat × Nat)} {J : Nat → Nat → Int64} {P : Nat → Nat → Option Nat} {x : Nat} {c : Nat} {g2 : Int32} {g3 : Int32} {g4 : Int32} {g5 : Int32} {g6 : Int32} (hx : isSR T P x) (hs_c : isCt T P c)  (r : Int32 × Int32 × Int32 × (Nat → Nat → Int32)) : ∀ (k : Nat) (l7 : Int32) (l8 : Int32) (l9 : Int32) (I : (Nat → Nat → Int32)), wa_standAgainst_20 F T P x c g2 g3 g4 g5 g6 k l7 l8 l9 I = some r → V l D E B yX10_standAgainst cX10_standAgainst 10 none 4 0 0 Q 0 0 (n, T, r.2.2.2, J, P) 118 [(0, some (.ref (x + 114))), (1, some (.ref c)), (2, some (.int g2)), (3, some (.int g3)), (4, some (.int g4)), (5, some (.int g5)), (6, some (.int g6)), (7, some (.int (r.1))), (8, some (.int (r.2.1))), (9, some (.int (r.2.2.1)))] [] → V l D E B yX10_standAgainst cX10_standAgainst 10 none 4 0 0 Q 0 0 (n, T, I, J, P) 20 [(0, some (.ref (x + 114))), (1, some (.ref c)), (2, some (.int g2)), (3, some (.int g3)), (4, some (.int g4)), (5, some (.int g5)), (6, some (.int g6)), (7, some (.int l7)), (8, some (.int l8)), (9, some (.int l9))] [] := by
  intro k
  induction k with
  | zero =>
    intro l7 l8 l9 I hf hk
    cases hf
  | succ k ih =>
    intro l7 l8 l9 I hf hk
    unfold wa_standAgainst_20 at hf
    refine V.iload dX10_standAgainst_20 rfl ?_
    refine V.bipush (v := 20) dX10_standAgainst_22 (by decide) ?_
    refine V.icmp_gt 118 dX10_standAgainst_24 (by decide) (fun c4 => ?_) (fun c4 => ?_)
    · rw [if_pos c4] at hf
      obtain rfl := Option.some.inj hf
      exact V.lo [(0, some (.ref (x + 114))), (1, some (.ref c)), (2, some (.int g2)), (3, some (.int g3)), (4, some (.int g4)), (5, some (.int g5)), (6, some (.int g6)), (7, some (.int l7)), (8, some (.int l8)), (9, some (.int l9))] (by simp only [Subs]; repeat' first | exact trivial | constructor | rfl) hk
    · rw [if_neg c4] at hf
      refine V.aload_n dX10_standAgainst_27 rfl ?_
      refine V.getr fl_X10_35 dX10_standAgainst_28 (hx.1 114 (10, 0) rfl) (hx.2.1 114 6 127 rfl) (by decide) rfl ?_
      refine V.iload_n dX10_standAgainst_31 rfl ?_
      refine V.inv cv_X10_60 (c_s_isUp (hx.2.2.1 127 rfl)) dX10_standAgainst_32 ((hx.2.2.1 127 rfl).1 0 (8, 0) rfl) (by decide) rfl rfl rfl (Nat.le_of_ble_eq_true rfl) (by decide) (by decide) (Nat.le_refl _) (Nat.le_refl _) (fun _ _ hq => ?_)
      obtain ⟨rfl, rfl⟩ := hq
      refine V.if_eq 57 dX10_standAgainst_35 (by decide) (fun c5 => ?_) (fun c5 => ?_)
      · rw [if_pos c5] at hf
        refine V.aload_n dX10_standAgainst_57 rfl ?_
        refine V.getr fl_X10_35 dX10_standAgainst_58 (hx.1 114 (10, 0) rfl) (hx.2.1 114 6 127 rfl) (by decide) rfl ?_
        refine V.iload dX10_standAgainst_61 rfl ?_
        refine V.inv cv_X10_60 (c_s_isUp (hx.2.2.1 127 rfl)) dX10_standAgainst_63 ((hx.2.2.1 127 rfl).1 0 (8, 0) rfl) (by decide) rfl rfl rfl (Nat.le_of_ble_eq_true rfl) (by decide) (by decide) (Nat.le_refl _) (Nat.le_refl _) (fun _ _ hq => ?_)
        obtain ⟨rfl, rfl⟩ := hq
        refine V.if_eq 89 dX10_standAgainst_66 (by decide) (fun c6 => ?_) (fun c6 => ?_)
        · rw [if_pos c6] at hf
          refine V.aload_n dX10_standAgainst_89 rfl ?_
          refine V.getr fl_X10_35 dX10_standAgainst_90 (hx.1 114 (10, 0) rfl) (hx.2.1 114 6 127 rfl) (by decide) rfl ?_
          refine V.getf fl_X10_42 dX10_standAgainst_93 ((hx.2.2.1 127 rfl).1 0 (8, 0) rfl) (by decide) rfl ?_
          refine V.if_ne 102 dX10_standAgainst_96 (by decide) (fun c7 => ?_) (fun c7 => ?_)
          · rw [if_neg c7] at hf
            refine V.aload_n dX10_standAgainst_102 rfl ?_
            refine V.getr fl_X10_35 dX10_standAgainst_103 (hx.1 114 (10, 0) rfl) (hx.2.1 114 6 127 rfl) (by decide) rfl ?_
            refine V.aload_n dX10_standAgainst_106 rfl ?_
            refine V.iload_n dX10_standAgainst_107 rfl ?_
            refine V.iconst (v := 1) dX10_standAgainst_108 (by decide) ?_
            obtain ⟨I10, hk9, hf⟩ := bnd_some hf
            try dsimp only at hf
            refine V.inv cv_X10_68 (c_s_playMinute (hx.2.2.1 127 rfl) hs_c hk9) dX10_standAgainst_109 ((hx.2.2.1 127 rfl).1 0 (8, 0) rfl) (by decide) rfl rfl rfl (Nat.le_of_ble_eq_true rfl) (by decide) (by decide) (Nat.le_refl _) (Nat.le_refl _) (fun _ _ hq => ?_)
            obtain ⟨rfl, rfl⟩ := hq
            refine V.iinc (v := (l9 + 1)) dX10_standAgainst_112 rfl rfl (by first | exact rfl | exact trivial) ?_
            refine V.goto 20 dX10_standAgainst_115 (by decide) ?_
            exact V.lo [(0, some (.ref (x + 114))), (1, some (.ref c)), (2, some (.int g2)), (3, some (.int g3)), (4, some (.int g4)), (5, some (.int g5)), (6, some (.int g6)), (7, some (.int l7)), (8, some (.int l8)), (9, some (.int (l9 + 1)))] (by simp only [Subs]; repeat' first | exact trivial | constructor | rfl) (ih _ _ _ _ hf hk)
          · rw [if_pos c7] at hf
            refine V.goto 118 dX10_standAgainst_99 (by decide) ?_
            obtain rfl := Option.some.inj hf
            exact V.lo [(0, some (.ref (x + 114))), (1, some (.ref c)), (2, some (.int g2)), (3, some (.int g3)), (4, some (.int g4)), (5, some (.int g5)), (6, some (.int g6)), (7, some (.int l7)), (8, some (.int l8)), (9, some (.int l9))] (by simp only [Subs]; repeat' first | exact trivial | constructor | rfl) hk
        · rw [if_neg c6] at hf
          refine V.iload dX10_standAgainst_69 rfl ?_
          refine V.istore dX10_standAgainst_71 (by decide) (by first | exact rfl | exact trivial) ?_
          refine V.iload dX10_standAgainst_73 rfl ?_
          refine V.iload dX10_standAgainst_75 rfl ?_
          refine V.icmp_ne 89 dX10_standAgainst_77 (by decide) (fun c11 => ?_) (fun c11 => ?_)
          · rw [if_neg c11] at hf
            refine V.aload_n dX10_standAgainst_89 rfl ?_
            refine V.getr fl_X10_35 dX10_standAgainst_90 (hx.1 114 (10, 0) rfl) (hx.2.1 114 6 127 rfl) (by decide) rfl ?_
            refine V.getf fl_X10_42 dX10_standAgainst_93 ((hx.2.2.1 127 rfl).1 0 (8, 0) rfl) (by decide) rfl ?_
            refine V.if_ne 102 dX10_standAgainst_96 (by decide) (fun c12 => ?_) (fun c12 => ?_)
            · rw [if_neg c12] at hf
              refine V.aload_n dX10_standAgainst_102 rfl ?_
              refine V.getr fl_X10_35 dX10_standAgainst_103 (hx.1 114 (10, 0) rfl) (hx.2.1 114 6 127 rfl) (by decide) rfl ?_
              refine V.aload_n dX10_standAgainst_106 rfl ?_
              refine V.iload_n dX10_standAgainst_107 rfl ?_
              refine V.iconst (v := 1) dX10_standAgainst_108 (by decide) ?_
              obtain ⟨I15, hk14, hf⟩ := bnd_some hf
              try dsimp only at hf
              refine V.inv cv_X10_68 (c_s_playMinute (hx.2.2.1 127 rfl) hs_c hk14) dX10_standAgainst_109 ((hx.2.2.1 127 rfl).1 0 (8, 0) rfl) (by decide) rfl rfl rfl (Nat.le_of_ble_eq_true rfl) (by decide) (by decide) (Nat.le_refl _) (Nat.le_refl _) (fun _ _ hq => ?_)
              obtain ⟨rfl, rfl⟩ := hq
              refine V.iinc (v := (l9 + 1)) dX10_standAgainst_112 rfl rfl (by first | exact rfl | exact trivial) ?_
              refine V.goto 20 dX10_standAgainst_115 (by decide) ?_
              exact V.lo [(0, some (.ref (x + 114))), (1, some (.ref c)), (2, some (.int g2)), (3, some (.int g3)), (4, some (.int g4)), (5, some (.int g5)), (6, some (.int g6)), (7, some (.int l7)), (8, some (.int l9)), (9, some (.int (l9 + 1)))] (by simp only [Subs]; repeat' first | exact trivial | constructor | rfl) (ih _ _ _ _ hf hk)
            · rw [if_pos c12] at hf
              refine V.goto 118 dX10_standAgainst_99 (by decide) ?_
              obtain rfl := Option.some.inj hf
              exact V.lo [(0, some (.ref (x + 114))), (1, some (.ref c)), (2, some (.int g2)), (3, some (.int g3)), (4, some (.int g4)), (5, some (.int g5)), (6, some (.int g6)), (7, some (.int l7)), (8, some (.int l9)), (9, some (.int l9))] (by simp only [Subs]; repeat' first | exact trivial | constructor | rfl) hk
          · rw [if_pos c11] at hf
            refine V.aload_n dX10_standAgainst_80 rfl ?_
            refine V.getr fl_X10_35 dX10_standAgainst_81 (hx.1 114 (10, 0) rfl) (hx.2.1 114 6 127 rfl) (by decide) rfl ?_
            refine V.iload dX10_standAgainst_84 rfl ?_
            obtain ⟨I18, hk17, hf⟩ := bnd_some hf
            try dsimp only at hf
            refine V.inv cv_X10_64 (c_s_seat (hx.2.2.1 127 rfl) hk17) dX10_standAgainst_86 ((hx.2.2.1 127 rfl).1 0 (8, 0) rfl) (by decide) rfl rfl rfl (Nat.le_of_ble_eq_true rfl) (by decide) (by decide) (Nat.le_refl _) (Nat.le_refl _) (fun _ _ hq => ?_)
            obtain ⟨rfl, rfl⟩ := hq
            refine V.aload_n dX10_standAgainst_89 rfl ?_
            refine V.getr fl_X10_35 dX10_standAgainst_90 (hx.1 114 (10, 0) rfl) (hx.2.1 114 6 127 rfl) (by decide) rfl ?_
            refine V.getf fl_X10_42 dX10_standAgainst_93 ((hx.2.2.1 127 rfl).1 0 (8, 0) rfl) (by decide) rfl ?_
            refine V.if_ne 102 dX10_standAgainst_96 (by decide) (fun c19 => ?_) (fun c19 => ?_)
            · rw [if_neg c19] at hf
              refine V.aload_n dX10_standAgainst_102 rfl ?_
              refine V.getr fl_X10_35 dX10_standAgainst_103 (hx.1 114 (10, 0) rfl) (hx.2.1 114 6 127 rfl) (by decide) rfl ?_
              refine V.aload_n dX10_standAgainst_106 rfl ?_
              refine V.iload_n dX10_standAgainst_107 rfl ?_
              refine V.iconst (v := 1) dX10_standAgainst_108 (by decide) ?_
              obtain ⟨I22, hk21, hf⟩ := bnd_some hf
              try dsimp only at hf
              refine V.inv cv_X10_68 (c_s_playMinute (hx.2.2.1 127 rfl) hs_c hk21) dX10_standAgainst_109 ((hx.2.2.1 127 rfl).1 0 (8, 0) rfl) (by decide) rfl rfl rfl (Nat.le_of_ble_eq_true rfl) (by decide) (by decide) (Nat.le_refl _) (Nat.le_refl _) (fun _ _ hq => ?_)
              obtain ⟨rfl, rfl⟩ := hq
              refine V.iinc (v := (l9 + 1)) dX10_standAgainst_112 rfl rfl (by first | exact rfl | exact trivial) ?_
              refine V.goto 20 dX10_standAgainst_115 (by decide) ?_
              exact V.lo [(0, some (.ref (x + 114))), (1, some (.ref c)), (2, some (.int g2)), (3, some (.int g3)), (4, some (.int g4)), (5, some (.int g5)), (6, some (.int g6)), (7, some (.int l7)), (8, some (.int l9)), (9, some (.int (l9 + 1)))] (by simp only [Subs]; repeat' first | exact trivial | constructor | rfl) (ih _ _ _ _ hf hk)
            · rw [if_pos c19] at hf
              refine V.goto 118 dX10_standAgainst_99 (by decide) ?_
              obtain rfl := Option.some.inj hf
              exact V.lo [(0, some (.ref (x + 114))), (1, some (.ref c)), (2, some (.int g2)), (3, some (.int g3)), (4, some (.int g4)), (5, some (.int g5)), (6, some (.int g6)), (7, some (.int l7)), (8, some (.int l9)), (9, some (.int l9))] (by simp only [Subs]; repeat' first | exact trivial | constructor | rfl) hk
      · rw [if_neg c5] at hf
        refine V.iload dX10_standAgainst_38 rfl ?_
        refine V.istore dX10_standAgainst_40 (by decide) (by first | exact rfl | exact trivial) ?_
        refine V.iload dX10_standAgainst_42 rfl ?_
        refine V.iload dX10_standAgainst_44 rfl ?_
        refine V.icmp_ne 57 dX10_standAgainst_46 (by decide) (fun c23 => ?_) (fun c23 => ?_)
        · rw [if_neg c23] at hf
          refine V.aload_n dX10_standAgainst_57 rfl ?_
          refine V.getr fl_X10_35 dX10_standAgainst_58 (hx.1 114 (10, 0) rfl) (hx.2.1 114 6 127 rfl) (by decide) rfl ?_
          refine V.iload dX10_standAgainst_61 rfl ?_
          refine V.inv cv_X10_60 (c_s_isUp (hx.2.2.1 127 rfl)) dX10_standAgainst_63 ((hx.2.2.1 127 rfl).1 0 (8, 0) rfl) (by decide) rfl rfl rfl (Nat.le_of_ble_eq_true rfl) (by decide) (by decide) (Nat.le_refl _) (Nat.le_refl _) (fun _ _ hq => ?_)
          obtain ⟨rfl, rfl⟩ := hq
          refine V.if_eq 89 dX10_standAgainst_66 (by decide) (fun c24 => ?_) (fun c24 => ?_)
          · rw [if_pos c24] at hf
            refine V.aload_n dX10_standAgainst_89 rfl ?_
            refine V.getr fl_X10_35 dX10_standAgainst_90 (hx.1 114 (10, 0) rfl) (hx.2.1 114 6 127 rfl) (by decide) rfl ?_
            refine V.getf fl_X10_42 dX10_standAgainst_93 ((hx.2.2.1 127 rfl).1 0 (8, 0) rfl) (by decide) rfl ?_
            refine V.if_ne 102 dX10_standAgainst_96 (by decide) (fun c25 => ?_) (fun c25 => ?_)
            · rw [if_neg c25] at hf
              refine V.aload_n dX10_standAgainst_102 rfl ?_
              refine V.getr fl_X10_35 dX10_standAgainst_103 (hx.1 114 (10, 0) rfl) (hx.2.1 114 6 127 rfl) (by decide) rfl ?_
              refine V.aload_n dX10_standAgainst_106 rfl ?_
              refine V.iload_n dX10_standAgainst_107 rfl ?_
              refine V.iconst (v := 1) dX10_standAgainst_108 (by decide) ?_
              obtain ⟨I28, hk27, hf⟩ := bnd_some hf
              try dsimp only at hf
              refine V.inv cv_X10_68 (c_s_playMinute (hx.2.2.1 127 rfl) hs_c hk27) dX10_standAgainst_109 ((hx.2.2.1 127 rfl).1 0 (8, 0) rfl) (by decide) rfl rfl rfl (Nat.le_of_ble_eq_true rfl) (by decide) (by decide) (Nat.le_refl _) (Nat.le_refl _) (fun _ _ hq => ?_)
              obtain ⟨rfl, rfl⟩ := hq
              refine V.iinc (v := (l9 + 1)) dX10_standAgainst_112 rfl rfl (by first | exact rfl | exact trivial) ?_
              refine V.goto 20 dX10_standAgainst_115 (by decide) ?_
              exact V.lo [(0, some (.ref (x + 114))), (1, some (.ref c)), (2, some (.int g2)), (3, some (.int g3)), (4, some (.int g4)), (5, some (.int g5)), (6, some (.int g6)), (7, some (.int l9)), (8, some (.int l8)), (9, some (.int (l9 + 1)))] (by simp only [Subs]; repeat' first | exact trivial | constructor | rfl) (ih _ _ _ _ hf hk)
            · rw [if_pos c25] at hf
              refine V.goto 118 dX10_standAgainst_99 (by decide) ?_
              obtain rfl := Option.some.inj hf
              exact V.lo [(0, some (.ref (x + 114))), (1, some (.ref c)), (2, some (.int g2)), (3, some (.int g3)), (4, some (.int g4)), (5, some (.int g5)), (6, some (.int g6)), (7, some (.int l9)), (8, some (.int l8)), (9, some (.int l9))] (by simp only [Subs]; repeat' first | exact trivial | constructor | rfl) hk
          · rw [if_neg c24] at hf
            refine V.iload dX10_standAgainst_69 rfl ?_
            refine V.istore dX10_standAgainst_71 (by decide) (by first | exact rfl | exact trivial) ?_
            refine V.iload dX10_standAgainst_73 rfl ?_
            refine V.iload dX10_standAgainst_75 rfl ?_
            refine V.icmp_ne 89 dX10_standAgainst_77 (by decide) (fun c29 => ?_) (fun c29 => ?_)
            · rw [if_neg c29] at hf
              refine V.aload_n dX10_standAgainst_89 rfl ?_
              refine V.getr fl_X10_35 dX10_standAgainst_90 (hx.1 114 (10, 0) rfl) (hx.2.1 114 6 127 rfl) (by decide) rfl ?_
              refine V.getf fl_X10_42 dX10_standAgainst_93 ((hx.2.2.1 127 rfl).1 0 (8, 0) rfl) (by decide) rfl ?_
              refine V.if_ne 102 dX10_standAgainst_96 (by decide) (fun c30 => ?_) (fun c30 => ?_)
              · rw [if_neg c30] at hf
                refine V.aload_n dX10_standAgainst_102 rfl ?_
                refine V.getr fl_X10_35 dX10_standAgainst_103 (hx.1 114 (10, 0) rfl) (hx.2.1 114 6 127 rfl) (by decide) rfl ?_
                refine V.aload_n dX10_standAgainst_106 rfl ?_
                refine V.iload_n dX10_standAgainst_107 rfl ?_
                refine V.iconst (v := 1) dX10_standAgainst_108 (by decide) ?_
                obtain ⟨I33, hk32, hf⟩ := bnd_some hf
                try dsimp only at hf
                refine V.inv cv_X10_68 (c_s_playMinute (hx.2.2.1 127 rfl) hs_c hk32) dX10_standAgainst_109 ((hx.2.2.1 127 rfl).1 0 (8, 0) rfl) (by decide) rfl rfl rfl (Nat.le_of_ble_eq_true rfl) (by decide) (by decide) (Nat.le_refl _) (Nat.le_refl _) (fun _ _ hq => ?_)
                obtain ⟨rfl, rfl⟩ := hq
                refine V.iinc (v := (l9 + 1)) dX10_standAgainst_112 rfl rfl (by first | exact rfl | exact trivial) ?_
                refine V.goto 20 dX10_standAgainst_115 (by decide) ?_
                exact V.lo [(0, some (.ref (x + 114))), (1, some (.ref c)), (2, some (.int g2)), (3, some (.int g3)), (4, some (.int g4)), (5, some (.int g5)), (6, some (.int g6)), (7, some (.int l9)), (8, some (.int l9)), (9, some (.int (l9 + 1)))] (by simp only [Subs]; repeat' first | exact trivial | constructor | rfl) (ih _ _ _ _ hf hk)
              · rw [if_pos c30] at hf
                refine V.goto 118 dX10_standAgainst_99 (by decide) ?_
                obtain rfl := Option.some.inj hf
                exact V.lo [(0, some (.ref (x + 114))), (1, some (.ref c)), (2, some (.int g2)), (3, some (.int g3)), (4, some (.int g4)), (5, some (.int g5)), (6, some (.int g6)), (7, some (.int l9)), (8, some (.int l9)), (9, some (.int l9))] (by simp only [Subs]; repeat' first | exact trivial | constructor | rfl) hk
            · rw [if_pos c29] at hf
              refine V.aload_n dX10_standAgainst_80 rfl ?_
              refine V.getr fl_X10_35 dX10_standAgainst_81 (hx.1 114 (10, 0) rfl) (hx.2.1 114 6 127 rfl) (by decide) rfl ?_
              refine V.iload dX10_standAgainst_84 rfl ?_
              obtain ⟨I36, hk35, hf⟩ := bnd_some hf
              try dsimp only at hf
              refine V.inv cv_X10_64 (c_s_seat (hx.2.2.1 127 rfl) hk35) dX10_standAgainst_86 ((hx.2.2.1 127 rfl).1 0 (8, 0) rfl) (by decide) rfl rfl rfl (Nat.le_of_ble_eq_true rfl) (by decide) (by decide) (Nat.le_refl _) (Nat.le_refl _) (fun _ _ hq => ?_)
              obtain ⟨rfl, rfl⟩ := hq
              refine V.aload_n dX10_standAgainst_89 rfl ?_
              refine V.getr fl_X10_35 dX10_standAgainst_90 (hx.1 114 (10, 0) rfl) (hx.2.1 114 6 127 rfl) (by decide) rfl ?_
              refine V.getf fl_X10_42 dX10_standAgainst_93 ((hx.2.2.1 127 rfl).1 0 (8, 0) rfl) (by decide) rfl ?_
              refine V.if_ne 102 dX10_standAgainst_96 (by decide) (fun c37 => ?_) (fun c37 => ?_)
              · rw [if_neg c37] at hf
                refine V.aload_n dX10_standAgainst_102 rfl ?_
                refine V.getr fl_X10_35 dX10_standAgainst_103 (hx.1 114 (10, 0) rfl) (hx.2.1 114 6 127 rfl) (by decide) rfl ?_
                refine V.aload_n dX10_standAgainst_106 rfl ?_
                refine V.iload_n dX10_standAgainst_107 rfl ?_
                refine V.iconst (v := 1) dX10_standAgainst_108 (by decide) ?_
                obtain ⟨I40, hk39, hf⟩ := bnd_some hf
                try dsimp only at hf
                refine V.inv cv_X10_68 (c_s_playMinute (hx.2.2.1 127 rfl) hs_c hk39) dX10_standAgainst_109 ((hx.2.2.1 127 rfl).1 0 (8, 0) rfl) (by decide) rfl rfl rfl (Nat.le_of_ble_eq_true rfl) (by decide) (by decide) (Nat.le_refl _) (Nat.le_refl _) (fun _ _ hq => ?_)
                obtain ⟨rfl, rfl⟩ := hq
                refine V.iinc (v := (l9 + 1)) dX10_standAgainst_112 rfl rfl (by first | exact rfl | exact trivial) ?_
                refine V.goto 20 dX10_standAgainst_115 (by decide) ?_
                exact V.lo [(0, some (.ref (x + 114))), (1, some (.ref c)), (2, some (.int g2)), (3, some (.int g3)), (4, some (.int g4)), (5, some (.int g5)), (6, some (.int g6)), (7, some (.int l9)), (8, some (.int l9)), (9, some (.int (l9 + 1)))] (by simp only [Subs]; repeat' first | exact trivial | constructor | rfl) (ih _ _ _ _ hf hk)
              · rw [if_pos c37] at hf
                refine V.goto 118 dX10_standAgainst_99 (by decide) ?_
                obtain rfl := Option.some.inj hf
                exact V.lo [(0, some (.ref (x + 114))), (1, some (.ref c)), (2, some (.int g2)), (3, some (.int g3)), (4, some (.int g4)), (5, some (.int g5)), (6, some (.int g6)), (7, some (.int l9)), (8, some (.int l9)), (9, some (.int l9))] (by simp only [Subs]; repeat' first | exact trivial | constructor | rfl) hk
        · rw [if_pos c23] at hf
          refine V.aload_n dX10_standAgainst_49 rfl ?_
          refine V.getr fl_X10_35 dX10_standAgainst_50 (hx.1 114 (10, 0) rfl) (hx.2.1 114 6 127 rfl) (by decide) rfl ?_
          refine V.iload_n dX10_standAgainst_53 rfl ?_
          obtain ⟨I43, hk42, hf⟩ := bnd_some hf
          try dsimp only at hf
          refine V.inv cv_X10_64 (c_s_seat (hx.2.2.1 127 rfl) hk42) dX10_standAgainst_54 ((hx.2.2.1 127 rfl).1 0 (8, 0) rfl) (by decide) rfl rfl rfl (Nat.le_of_ble_eq_true rfl) (by decide) (by decide) (Nat.le_refl _) (Nat.le_refl _) (fun _ _ hq => ?_)
          obtain ⟨rfl, rfl⟩ := hq
          refine V.aload_n dX10_standAgainst_57 rfl ?_
          refine V.getr fl_X10_35 dX10_standAgainst_58 (hx.1 114 (10, 0) rfl) (hx.2.1 114 6 127 rfl) (by decide) rfl ?_
          refine V.iload dX10_standAgainst_61 rfl ?_
          refine V.inv cv_X10_60 (c_s_isUp (hx.2.2.1 127 rfl)) dX10_standAgainst_63 ((hx.2.2.1 127 rfl).1 0 (8, 0) rfl) (by decide) rfl rfl rfl (Nat.le_of_ble_eq_true rfl) (by decide) (by decide) (Nat.le_refl _) (Nat.le_refl _) (fun _ _ hq => ?_)
          obtain ⟨rfl, rfl⟩ := hq
          refine V.if_eq 89 dX10_standAgainst_66 (by decide) (fun c44 => ?_) (fun c44 => ?_)
          · rw [if_pos c44] at hf
            refine V.aload_n dX10_standAgainst_89 rfl ?_
            refine V.getr fl_X10_35 dX10_standAgainst_90 (hx.1 114 (10, 0) rfl) (hx.2.1 114 6 127 rfl) (by decide) rfl ?_
            refine V.getf fl_X10_42 dX10_standAgainst_93 ((hx.2.2.1 127 rfl).1 0 (8, 0) rfl) (by decide) rfl ?_
            refine V.if_ne 102 dX10_standAgainst_96 (by decide) (fun c45 => ?_) (fun c45 => ?_)
            · rw [if_neg c45] at hf
              refine V.aload_n dX10_standAgainst_102 rfl ?_
              refine V.getr fl_X10_35 dX10_standAgainst_103 (hx.1 114 (10, 0) rfl) (hx.2.1 114 6 127 rfl) (by decide) rfl ?_
              refine V.aload_n dX10_standAgainst_106 rfl ?_
              refine V.iload_n dX10_standAgainst_107 rfl ?_
              refine V.iconst (v := 1) dX10_standAgainst_108 (by decide) ?_
              obtain ⟨I48, hk47, hf⟩ := bnd_some hf
              try dsimp only at hf
              refine V.inv cv_X10_68 (c_s_playMinute (hx.2.2.1 127 rfl) hs_c hk47) dX10_standAgainst_109 ((hx.2.2.1 127 rfl).1 0 (8, 0) rfl) (by decide) rfl rfl rfl (Nat.le_of_ble_eq_true rfl) (by decide) (by decide) (Nat.le_refl _) (Nat.le_refl _) (fun _ _ hq => ?_)
              obtain ⟨rfl, rfl⟩ := hq
              refine V.iinc (v := (l9 + 1)) dX10_standAgainst_112 rfl rfl (by first | exact rfl | exact trivial) ?_
              refine V.goto 20 dX10_standAgainst_115 (by decide) ?_
              exact V.lo [(0, some (.ref (x + 114))), (1, some (.ref c)), (2, some (.int g2)), (3, some (.int g3)), (4, some (.int g4)), (5, some (.int g5)), (6, some (.int g6)), (7, some (.int l9)), (8, some (.int l8)), (9, some (.int (l9 + 1)))] (by simp only [Subs]; repeat' first | exact trivial | constructor | rfl) (ih _ _ _ _ hf hk)
            · rw [if_pos c45] at hf
              refine V.goto 118 dX10_standAgainst_99 (by decide) ?_
              obtain rfl := Option.some.inj hf
              exact V.lo [(0, some (.ref (x + 114))), (1, some (.ref c)), (2, some (.int g2)), (3, some (.int g3)), (4, some (.int g4)), (5, some (.int g5)), (6, some (.int g6)), (7, some (.int l9)), (8, some (.int l8)), (9, some (.int l9))] (by simp only [Subs]; repeat' first | exact trivial | constructor | rfl) hk
          · rw [if_neg c44] at hf
            refine V.iload dX10_standAgainst_69 rfl ?_
            refine V.istore dX10_standAgainst_71 (by decide) (by first | exact rfl | exact trivial) ?_
            refine V.iload dX10_standAgainst_73 rfl ?_
            refine V.iload dX10_standAgainst_75 rfl ?_
            refine V.icmp_ne 89 dX10_standAgainst_77 (by decide) (fun c49 => ?_) (fun c49 => ?_)
            · rw [if_neg c49] at hf
              refine V.aload_n dX10_standAgainst_89 rfl ?_
              refine V.getr fl_X10_35 dX10_standAgainst_90 (hx.1 114 (10, 0) rfl) (hx.2.1 114 6 127 rfl) (by decide) rfl ?_
              refine V.getf fl_X10_42 dX10_standAgainst_93 ((hx.2.2.1 127 rfl).1 0 (8, 0) rfl) (by decide) rfl ?_
              refine V.if_ne 102 dX10_standAgainst_96 (by decide) (fun c50 => ?_) (fun c50 => ?_)
              · rw [if_neg c50] at hf
                refine V.aload_n dX10_standAgainst_102 rfl ?_
                refine V.getr fl_X10_35 dX10_standAgainst_103 (hx.1 114 (10, 0) rfl) (hx.2.1 114 6 127 rfl) (by decide) rfl ?_
                refine V.aload_n dX10_standAgainst_106 rfl ?_
                refine V.iload_n dX10_standAgainst_107 rfl ?_
                refine V.iconst (v := 1) dX10_standAgainst_108 (by decide) ?_
                obtain ⟨I53, hk52, hf⟩ := bnd_some hf
                try dsimp only at hf
                refine V.inv cv_X10_68 (c_s_playMinute (hx.2.2.1 127 rfl) hs_c hk52) dX10_standAgainst_109 ((hx.2.2.1 127 rfl).1 0 (8, 0) rfl) (by decide) rfl rfl rfl (Nat.le_of_ble_eq_true rfl) (by decide) (by decide) (Nat.le_refl _) (Nat.le_refl _) (fun _ _ hq => ?_)
                obtain ⟨rfl, rfl⟩ := hq
                refine V.iinc (v := (l9 + 1)) dX10_standAgainst_112 rfl rfl (by first | exact rfl | exact trivial) ?_
                refine V.goto 20 dX10_standAgainst_115 (by decide) ?_
                exact V.lo [(0, some (.ref (x + 114))), (1, some (.ref c)), (2, some (.int g2)), (3, some (.int g3)), (4, some (.int g4)), (5, some (.int g5)), (6, some (.int g6)), (7, some (.int l9)), (8, some (.int l9)), (9, some (.int (l9 + 1)))] (by simp only [Subs]; repeat' first | exact trivial | constructor | rfl) (ih _ _ _ _ hf hk)
              · rw [if_pos c50] at hf
                refine V.goto 118 dX10_standAgainst_99 (by decide) ?_
                obtain rfl := Option.some.inj hf
                exact V.lo [(0, some (.ref (x + 114))), (1, some (.ref c)), (2, some (.int g2)), (3, some (.int g3)), (4, some (.int g4)), (5, some (.int g5)), (6, some (.int g6)), (7, some (.int l9)), (8, some (.int l9)), (9, some (.int l9))] (by simp only [Subs]; repeat' first | exact trivial | constructor | rfl) hk
            · rw [if_pos c49] at hf
              refine V.aload_n dX10_standAgainst_80 rfl ?_
              refine V.getr fl_X10_35 dX10_standAgainst_81 (hx.1 114 (10, 0) rfl) (hx.2.1 114 6 127 rfl) (by decide) rfl ?_
              refine V.iload dX10_standAgainst_84 rfl ?_
              obtain ⟨I56, hk55, hf⟩ := bnd_some hf
              try dsimp only at hf
              refine V.inv cv_X10_64 (c_s_seat (hx.2.2.1 127 rfl) hk55) dX10_standAgainst_86 ((hx.2.2.1 127 rfl).1 0 (8, 0) rfl) (by decide) rfl rfl rfl (Nat.le_of_ble_eq_true rfl) (by decide) (by decide) (Nat.le_refl _) (Nat.le_refl _) (fun _ _ hq => ?_)
              obtain ⟨rfl, rfl⟩ := hq
              refine V.aload_n dX10_standAgainst_89 rfl ?_
              refine V.getr fl_X10_35 dX10_standAgainst_90 (hx.1 114 (10, 0) rfl) (hx.2.1 114 6 127 rfl) (by decide) rfl ?_
              refine V.getf fl_X10_42 dX10_standAgainst_93 ((hx.2.2.1 127 rfl).1 0 (8, 0) rfl) (by decide) rfl ?_
              refine V.if_ne 102 dX10_standAgainst_96 (by decide) (fun c57 => ?_) (fun c57 => ?_)
              · rw [if_neg c57] at hf
                refine V.aload_n dX10_standAgainst_102 rfl ?_
                refine V.getr fl_X10_35 dX10_standAgainst_103 (hx.1 114 (10, 0) rfl) (hx.2.1 114 6 127 rfl) (by decide) rfl ?_
                refine V.aload_n dX10_standAgainst_106 rfl ?_
                refine V.iload_n dX10_standAgainst_107 rfl ?_
                refine V.iconst (v := 1) dX10_standAgainst_108 (by decide) ?_
                obtain ⟨I60, hk59, hf⟩ := bnd_some hf
                try dsimp only at hf
                refine V.inv cv_X10_68 (c_s_playMinute (hx.2.2.1 127 rfl) hs_c hk59) dX10_standAgainst_109 ((hx.2.2.1 127 rfl).1 0 (8, 0) rfl) (by decide) rfl rfl rfl (Nat.le_of_ble_eq_true rfl) (by decide) (by decide) (Nat.le_refl _) (Nat.le_refl _) (fun _ _ hq => ?_)
                obtain ⟨rfl, rfl⟩ := hq
                refine V.iinc (v := (l9 + 1)) dX10_standAgainst_112 rfl rfl (by first | exact rfl | exact trivial) ?_
                refine V.goto 20 dX10_standAgainst_115 (by decide) ?_
                exact V.lo [(0, some (.ref (x + 114))), (1, some (.ref c)), (2, some (.int g2)), (3, some (.int g3)), (4, some (.int g4)), (5, some (.int g5)), (6, some (.int g6)), (7, some (.int l9)), (8, some (.int l9)), (9, some (.int (l9 + 1)))] (by simp only [Subs]; repeat' first | exact trivial | constructor | rfl) (ih _ _ _ _ hf hk)
              · rw [if_pos c57] at hf
                refine V.goto 118 dX10_standAgainst_99 (by decide) ?_
                obtain rfl := Option.some.inj hf
                exact V.lo [(0, some (.ref (x + 114))), (1, some (.ref c)), (2, some (.int g2)), (3, some (.int g3)), (4, some (.int g4)), (5, some (.int g5)), (6, some (.int g6)), (7, some (.int l9)), (8, some (.int l9)), (9, some (.int l9))] (by simp only [Subs]; repeat' first | exact trivial | constructor | rfl) hk
theorem c_wa_standAgainst {l : Launch} {D : va_G} {E : Nat → ClassId} {B : Nat → Prop} {n F : Nat} {T : Nat → Option (Nat × Nat)} {I : Nat → Nat → Int32} {J : Nat → Nat → Int64} {P : Nat → Nat → Option Nat} {x : Nat} {c : Nat} {v2 : Int32} {v3 : Int32} {v4 : Int32} {v5 : Int32} {v6 : Int32} {r : (Nat → Nat → Int32)} (hx : isSR T P x) (hs_c : isCt T P c) (hf : wa_standAgainst F T I P x c v2 v3 v4 v5 v6 = some r) : Ct l D E B yX10_standAgainst cX10_standAgainst 10 none 4 0 0 [.ref (x + 114), .ref c, .int v2, .int v3, .int v4, .int v5, .int v6] (n, T, I, J, P) (Ret (none) (n, T, r, J, P)) := by
  unfold wa_standAgainst at hf
  refine Ct.ofV (by decide) (Nat.le_of_ble_eq_true rfl) ?_
  refine V.aload_n dX10_standAgainst_0 rfl ?_
  refine V.getr fl_X10_35 dX10_standAgainst_1 (hx.1 114 (10, 0) rfl) (hx.2.1 114 6 127 rfl) (by decide) rfl ?_
  refine V.aload_n dX10_standAgainst_4 rfl ?_
  refine V.getr fl_X10_31 dX10_standAgainst_5 (hx.1 114 (10, 0) rfl) (hx.2.1 114 5 120 rfl) (by decide) rfl ?_
  obtain ⟨I3, hk2, hf⟩ := bnd_some hf
  try dsimp only at hf
  refine V.inv cv_X10_38 (c_s_copyFrom (hx.2.2.1 127 rfl) (hx.2.2.1 120 rfl) hk2) dX10_standAgainst_8 ((hx.2.2.1 127 rfl).1 0 (8, 0) rfl) (by decide) rfl rfl rfl (Nat.le_of_ble_eq_true rfl) (by decide) (by decide) (Nat.le_refl _) (Nat.le_refl _) (fun _ _ hq => ?_)
  obtain ⟨rfl, rfl⟩ := hq
  refine V.iconst (v := 0) dX10_standAgainst_11 (by decide) ?_
  refine V.istore dX10_standAgainst_12 (by decide) (by first | exact rfl | exact trivial) ?_
  refine V.iconst (v := 0) dX10_standAgainst_14 (by decide) ?_
  refine V.istore dX10_standAgainst_15 (by decide) (by first | exact rfl | exact trivial) ?_
  refine V.iconst (v := 0) dX10_standAgainst_17 (by decide) ?_
  refine V.istore dX10_standAgainst_18 (by decide) (by first | exact rfl | exact trivial) ?_
  obtain ⟨⟨m63, m64, m65, I66⟩, hk62, hf⟩ := bnd_some hf
  try dsimp only at hf
  refine V.lo [(0, some (.ref (x + 114))), (1, some (.ref c)), (2, some (.int v2)), (3, some (.int v3)), (4, some (.int v4)), (5, some (.int v5)), (6, some (.int v6)), (7, some (.int 0)), (8, some (.int 0)), (9, some (.int 0))] (by simp only [Subs]; repeat' first | exact trivial | constructor | rfl) (l_wa_standAgainst_20 hx hs_c _ F _ _ _ _ hk62 ?_)
  try dsimp only
  refine V.aload_n dX10_standAgainst_118 rfl ?_
  refine V.getr fl_X10_22 dX10_standAgainst_119 (hx.1 114 (10, 0) rfl) (hx.2.1 114 3 118 rfl) (by decide) rfl ?_
  refine V.iload dX10_standAgainst_122 rfl ?_
  refine V.bipush (v := 21) dX10_standAgainst_124 (by decide) ?_
  refine V.imul dX10_standAgainst_126 ?_
  refine V.iload dX10_standAgainst_127 rfl ?_
  refine V.iadd dX10_standAgainst_129 ?_
  refine V.aload_n dX10_standAgainst_130 rfl ?_
  refine V.getr fl_X10_72 dX10_standAgainst_131 (hs_c.1.1 0 (1, 0) rfl) (hs_c.1.2 0 7 4 rfl) (by decide) rfl ?_
  refine V.iload dX10_standAgainst_134 rfl ?_
  refine V.iload dX10_standAgainst_136 rfl ?_
  refine V.icmp_le 145 dX10_standAgainst_138 (by decide) (fun c67 => ?_) (fun c67 => ?_)
  · rw [if_pos c67] at hf
    refine V.iconst (v := 1) dX10_standAgainst_145 (by decide) ?_
    refine V.iald dX10_standAgainst_146 (hs_c.1.1 4 (20, 6) rfl) (vp_lit (by decide)) ?_
    refine V.aload_n dX10_standAgainst_147 rfl ?_
    refine V.getr fl_X10_35 dX10_standAgainst_148 (hx.1 114 (10, 0) rfl) (hx.2.1 114 6 127 rfl) (by decide) rfl ?_
    refine V.getr fl_X10_46 dX10_standAgainst_151 ((hx.2.2.1 127 rfl).1 0 (8, 0) rfl) ((hx.2.2.1 127 rfl).2 0 5 2 rfl) (by decide) rfl ?_
    refine V.iload_n dX10_standAgainst_154 rfl ?_
    obtain ⟨hb68, hf⟩ := chk_some hf
    refine V.iald dX10_standAgainst_155 ((hx.2.2.1 127 rfl).1 2 (20, 6) rfl) hb68 ?_
    refine V.isub dX10_standAgainst_156 ?_
    obtain ⟨hb69, hf⟩ := chk_some hf
    refine V.iastE dX10_standAgainst_157 (hx.1 118 (20, 441) rfl) hb69 (fun I70 e71 => ?_)
    rw [← e71] at hf
    try dsimp only at hf
    clear e71
    refine V.aload_n dX10_standAgainst_158 rfl ?_
    refine V.getr fl_X10_25 dX10_standAgainst_159 (hx.1 114 (10, 0) rfl) (hx.2.1 114 4 119 rfl) (by decide) rfl ?_
    refine V.iload dX10_standAgainst_162 rfl ?_
    refine V.bipush (v := 21) dX10_standAgainst_164 (by decide) ?_
    refine V.imul dX10_standAgainst_166 ?_
    refine V.iload dX10_standAgainst_167 rfl ?_
    refine V.iadd dX10_standAgainst_169 ?_
    refine V.aload_n dX10_standAgainst_170 rfl ?_
    refine V.getr fl_X10_72 dX10_standAgainst_171 (hs_c.1.1 0 (1, 0) rfl) (hs_c.1.2 0 7 4 rfl) (by decide) rfl ?_
    refine V.iload dX10_standAgainst_174 rfl ?_
    refine V.iload dX10_standAgainst_176 rfl ?_
    refine V.icmp_le 185 dX10_standAgainst_178 (by decide) (fun c72 => ?_) (fun c72 => ?_)
    · rw [if_pos c72] at hf
      refine V.iconst (v := 1) dX10_standAgainst_185 (by decide) ?_
      refine V.iald dX10_standAgainst_186 (hs_c.1.1 4 (20, 6) rfl) (vp_lit (by decide)) ?_
      refine V.aload_n dX10_standAgainst_187 rfl ?_
      refine V.getr fl_X10_35 dX10_standAgainst_188 (hx.1 114 (10, 0) rfl) (hx.2.1 114 6 127 rfl) (by decide) rfl ?_
      refine V.getr fl_X10_46 dX10_standAgainst_191 ((hx.2.2.1 127 rfl).1 0 (8, 0) rfl) ((hx.2.2.1 127 rfl).2 0 5 2 rfl) (by decide) rfl ?_
      refine V.iload dX10_standAgainst_194 rfl ?_
      obtain ⟨hb73, hf⟩ := chk_some hf
      refine V.iald dX10_standAgainst_196 ((hx.2.2.1 127 rfl).1 2 (20, 6) rfl) hb73 ?_
      refine V.isub dX10_standAgainst_197 ?_
      refine V.iastE dX10_standAgainst_198 (hx.1 119 (20, 441) rfl) hb69 (fun I74 e75 => ?_)
      rw [← e75] at hf
      try dsimp only at hf
      clear e75
      obtain rfl := Option.some.inj hf
      exact V.vret dX10_standAgainst_199 rfl (Nat.le_refl _) (Nat.le_refl _) ⟨rfl, rfl⟩
    · rw [if_neg c72] at hf
      refine V.iconst (v := 0) dX10_standAgainst_181 (by decide) ?_
      refine V.goto 186 dX10_standAgainst_182 (by decide) ?_
      refine V.iald dX10_standAgainst_186 (hs_c.1.1 4 (20, 6) rfl) (vp_lit (by decide)) ?_
      refine V.aload_n dX10_standAgainst_187 rfl ?_
      refine V.getr fl_X10_35 dX10_standAgainst_188 (hx.1 114 (10, 0) rfl) (hx.2.1 114 6 127 rfl) (by decide) rfl ?_
      refine V.getr fl_X10_46 dX10_standAgainst_191 ((hx.2.2.1 127 rfl).1 0 (8, 0) rfl) ((hx.2.2.1 127 rfl).2 0 5 2 rfl) (by decide) rfl ?_
      refine V.iload dX10_standAgainst_194 rfl ?_
      obtain ⟨hb76, hf⟩ := chk_some hf
      refine V.iald dX10_standAgainst_196 ((hx.2.2.1 127 rfl).1 2 (20, 6) rfl) hb76 ?_
      refine V.isub dX10_standAgainst_197 ?_
      refine V.iastE dX10_standAgainst_198 (hx.1 119 (20, 441) rfl) hb69 (fun I77 e78 => ?_)
      rw [← e78] at hf
      try dsimp only at hf
      clear e78
      obtain rfl := Option.some.inj hf
      exact V.vret dX10_standAgainst_199 rfl (Nat.le_refl _) (Nat.le_refl _) ⟨rfl, rfl⟩
  · rw [if_neg c67] at hf
    refine V.iconst (v := 0) dX10_standAgainst_141 (by decide) ?_
    refine V.goto 146 dX10_standAgainst_142 (by decide) ?_
    refine V.iald dX10_standAgainst_146 (hs_c.1.1 4 (20, 6) rfl) (vp_lit (by decide)) ?_
    refine V.aload_n dX10_standAgainst_147 rfl ?_
    refine V.getr fl_X10_35 dX10_standAgainst_148 (hx.1 114 (10, 0) rfl) (hx.2.1 114 6 127 rfl) (by decide) rfl ?_
    refine V.getr fl_X10_46 dX10_standAgainst_151 ((hx.2.2.1 127 rfl).1 0 (8, 0) rfl) ((hx.2.2.1 127 rfl).2 0 5 2 rfl) (by decide) rfl ?_
    refine V.iload_n dX10_standAgainst_154 rfl ?_
    obtain ⟨hb79, hf⟩ := chk_some hf
    refine V.iald dX10_standAgainst_155 ((hx.2.2.1 127 rfl).1 2 (20, 6) rfl) hb79 ?_
    refine V.isub dX10_standAgainst_156 ?_
    obtain ⟨hb80, hf⟩ := chk_some hf
    refine V.iastE dX10_standAgainst_157 (hx.1 118 (20, 441) rfl) hb80 (fun I81 e82 => ?_)
    rw [← e82] at hf
    try dsimp only at hf
    clear e82
    refine V.aload_n dX10_standAgainst_158 rfl ?_
    refine V.getr fl_X10_25 dX10_standAgainst_159 (hx.1 114 (10, 0) rfl) (hx.2.1 114 4 119 rfl) (by decide) rfl ?_
    refine V.iload dX10_standAgainst_162 rfl ?_
    refine V.bipush (v := 21) dX10_standAgainst_164 (by decide) ?_
    refine V.imul dX10_standAgainst_166 ?_
    refine V.iload dX10_standAgainst_167 rfl ?_
    refine V.iadd dX10_standAgainst_169 ?_
    refine V.aload_n dX10_standAgainst_170 rfl ?_
    refine V.getr fl_X10_72 dX10_standAgainst_171 (hs_c.1.1 0 (1, 0) rfl) (hs_c.1.2 0 7 4 rfl) (by decide) rfl ?_
    refine V.iload dX10_standAgainst_174 rfl ?_
    refine V.iload dX10_standAgainst_176 rfl ?_
    refine V.icmp_le 185 dX10_standAgainst_178 (by decide) (fun c83 => ?_) (fun c83 => ?_)
    · rw [if_pos c83] at hf
      refine V.iconst (v := 1) dX10_standAgainst_185 (by decide) ?_
      refine V.iald dX10_standAgainst_186 (hs_c.1.1 4 (20, 6) rfl) (vp_lit (by decide)) ?_
      refine V.aload_n dX10_standAgainst_187 rfl ?_
      refine V.getr fl_X10_35 dX10_standAgainst_188 (hx.1 114 (10, 0) rfl) (hx.2.1 114 6 127 rfl) (by decide) rfl ?_
      refine V.getr fl_X10_46 dX10_standAgainst_191 ((hx.2.2.1 127 rfl).1 0 (8, 0) rfl) ((hx.2.2.1 127 rfl).2 0 5 2 rfl) (by decide) rfl ?_
      refine V.iload dX10_standAgainst_194 rfl ?_
      obtain ⟨hb84, hf⟩ := chk_some hf
      refine V.iald dX10_standAgainst_196 ((hx.2.2.1 127 rfl).1 2 (20, 6) rfl) hb84 ?_
      refine V.isub dX10_standAgainst_197 ?_
      refine V.iastE dX10_standAgainst_198 (hx.1 119 (20, 441) rfl) hb80 (fun I85 e86 => ?_)
      rw [← e86] at hf
      try dsimp only at hf
      clear e86
      obtain rfl := Option.some.inj hf
      exact V.vret dX10_standAgainst_199 rfl (Nat.le_refl _) (Nat.le_refl _) ⟨rfl, rfl⟩
    · rw [if_neg c83] at hf
      refine V.iconst (v := 0) dX10_standAgainst_181 (by decide) ?_
      refine V.goto 186 dX10_standAgainst_182 (by decide) ?_
      refine V.iald dX10_standAgainst_186 (hs_c.1.1 4 (20, 6) rfl) (vp_lit (by decide)) ?_
      refine V.aload_n dX10_standAgainst_187 rfl ?_
      refine V.getr fl_X10_35 dX10_standAgainst_188 (hx.1 114 (10, 0) rfl) (hx.2.1 114 6 127 rfl) (by decide) rfl ?_
      refine V.getr fl_X10_46 dX10_standAgainst_191 ((hx.2.2.1 127 rfl).1 0 (8, 0) rfl) ((hx.2.2.1 127 rfl).2 0 5 2 rfl) (by decide) rfl ?_
      refine V.iload dX10_standAgainst_194 rfl ?_
      obtain ⟨hb87, hf⟩ := chk_some hf
      refine V.iald dX10_standAgainst_196 ((hx.2.2.1 127 rfl).1 2 (20, 6) rfl) hb87 ?_
      refine V.isub dX10_standAgainst_197 ?_
      refine V.iastE dX10_standAgainst_198 (hx.1 119 (20, 441) rfl) hb80 (fun I88 e89 => ?_)
      rw [← e89] at hf
      try dsimp only at hf
      clear e89
      obtain rfl := Option.some.inj hf
      exact V.vret dX10_standAgainst_199 rfl (Nat.le_refl _) (Nat.le_refl _) ⟨rfl, rfl⟩
theorem dX10_neitherGains_0 : decode cX10_neitherGains 0 = .ok (.iload_n 1, 1) := by decide +kernel
theorem dX10_neitherGains_1 : decode cX10_neitherGains 1 = .ok (.bipush 21, 2) := by decide +kernel
theorem dX10_neitherGains_3 : decode cX10_neitherGains 3 = .ok (.imul, 1) := by decide +kernel
theorem dX10_neitherGains_4 : decode cX10_neitherGains 4 = .ok (.iload_n 2, 1) := by decide +kernel
theorem dX10_neitherGains_5 : decode cX10_neitherGains 5 = .ok (.iadd, 1) := by decide +kernel
theorem dX10_neitherGains_6 : decode cX10_neitherGains 6 = .ok (.istore 4, 2) := by decide +kernel
theorem dX10_neitherGains_8 : decode cX10_neitherGains 8 = .ok (.iconst 0, 1) := by decide +kernel
theorem dX10_neitherGains_9 : decode cX10_neitherGains 9 = .ok (.istore 5, 2) := by decide +kernel
theorem dX10_neitherGains_11 : decode cX10_neitherGains 11 = .ok (.iload 5, 2) := by decide +kernel
theorem dX10_neitherGains_13 : decode cX10_neitherGains 13 = .ok (.iload_n 3, 1) := by decide +kernel
theorem dX10_neitherGains_14 : decode cX10_neitherGains 14 = .ok (.if_icmp .gt 62, 3) := by decide +kernel
theorem dX10_neitherGains_17 : decode cX10_neitherGains 17 = .ok (.iload 5, 2) := by decide +kernel
theorem dX10_neitherGains_19 : decode cX10_neitherGains 19 = .ok (.bipush 21, 2) := by decide +kernel
theorem dX10_neitherGains_21 : decode cX10_neitherGains 21 = .ok (.if_icmp .ge 55, 3) := by decide +kernel
theorem dX10_neitherGains_24 : decode cX10_neitherGains 24 = .ok (.aload_n 0, 1) := by decide +kernel
theorem dX10_neitherGains_25 : decode cX10_neitherGains 25 = .ok (.getfield 22, 3) := by decide +kernel
theorem dX10_neitherGains_28 : decode cX10_neitherGains 28 = .ok (.iload 5, 2) := by decide +kernel
theorem dX10_neitherGains_30 : decode cX10_neitherGains 30 = .ok (.bipush 21, 2) := by decide +kernel
theorem dX10_neitherGains_32 : decode cX10_neitherGains 32 = .ok (.imul, 1) := by decide +kernel
theorem dX10_neitherGains_33 : decode cX10_neitherGains 33 = .ok (.iload_n 2, 1) := by decide +kernel
theorem dX10_neitherGains_34 : decode cX10_neitherGains 34 = .ok (.iadd, 1) := by decide +kernel
theorem dX10_neitherGains_35 : decode cX10_neitherGains 35 = .ok (.iaload, 1) := by decide +kernel
theorem dX10_neitherGains_36 : decode cX10_neitherGains 36 = .ok (.aload_n 0, 1) := by decide +kernel
theorem dX10_neitherGains_37 : decode cX10_neitherGains 37 = .ok (.getfield 22, 3) := by decide +kernel
theorem dX10_neitherGains_40 : decode cX10_neitherGains 40 = .ok (.iload 4, 2) := by decide +kernel
theorem dX10_neitherGains_42 : decode cX10_neitherGains 42 = .ok (.iaload, 1) := by decide +kernel
theorem dX10_neitherGains_43 : decode cX10_neitherGains 43 = .ok (.if_icmp .gt 25, 3) := by decide +kernel
theorem dX10_neitherGains_46 : decode cX10_neitherGains 46 = .ok (.aload_n 0, 1) := by decide +kernel
theorem dX10_neitherGains_47 : decode cX10_neitherGains 47 = .ok (.getfield 25, 3) := by decide +kernel
theorem dX10_neitherGains_50 : decode cX10_neitherGains 50 = .ok (.iload_n 1, 1) := by decide +kernel
theorem dX10_neitherGains_51 : decode cX10_neitherGains 51 = .ok (.bipush 21, 2) := by decide +kernel
theorem dX10_neitherGains_53 : decode cX10_neitherGains 53 = .ok (.imul, 1) := by decide +kernel
theorem dX10_neitherGains_54 : decode cX10_neitherGains 54 = .ok (.iload 5, 2) := by decide +kernel
theorem dX10_neitherGains_56 : decode cX10_neitherGains 56 = .ok (.iadd, 1) := by decide +kernel
theorem dX10_neitherGains_57 : decode cX10_neitherGains 57 = .ok (.iaload, 1) := by decide +kernel
theorem dX10_neitherGains_58 : decode cX10_neitherGains 58 = .ok (.aload_n 0, 1) := by decide +kernel
theorem dX10_neitherGains_59 : decode cX10_neitherGains 59 = .ok (.getfield 25, 3) := by decide +kernel
theorem dX10_neitherGains_62 : decode cX10_neitherGains 62 = .ok (.iload 4, 2) := by decide +kernel
theorem dX10_neitherGains_64 : decode cX10_neitherGains 64 = .ok (.iaload, 1) := by decide +kernel
theorem dX10_neitherGains_65 : decode cX10_neitherGains 65 = .ok (.if_icmp .le 5, 3) := by decide +kernel
theorem dX10_neitherGains_68 : decode cX10_neitherGains 68 = .ok (.iconst 0, 1) := by decide +kernel
theorem dX10_neitherGains_69 : decode cX10_neitherGains 69 = .ok (.ireturn, 1) := by decide +kernel
theorem dX10_neitherGains_70 : decode cX10_neitherGains 70 = .ok (.iinc 5 1, 3) := by decide +kernel
theorem dX10_neitherGains_73 : decode cX10_neitherGains 73 = .ok (.goto (-62), 3) := by decide +kernel
theorem dX10_neitherGains_76 : decode cX10_neitherGains 76 = .ok (.iconst 1, 1) := by decide +kernel
theorem dX10_neitherGains_77 : decode cX10_neitherGains 77 = .ok (.ireturn, 1) := by decide +kernel
def wa_neitherGains_11 (F : Nat) (I : Nat → Nat → Int32) (x : Nat) (g1 : Int32) (g2 : Int32) (g3 : Int32) (g4 : Int32) : Nat → Int32 → Option ((Int32) ⊕ (Int32))
  | 0, _ => none
  | k + 1, l5 => if g3 < l5 then (some (.inr l5)) else (if 21 ≤ l5 then (some (.inr l5)) else (chk ((l5 * 21) + g2) 441 (chk g4 441 (if (I (x + 118) (Int32.toNatClampNeg g4)) < (I (x + 118) (Int32.toNatClampNeg ((l5 * 21) + g2))) then (some (.inl 0)) else (chk ((g1 * 21) + l5) 441 (if (I (x + 119) (Int32.toNatClampNeg ((g1 * 21) + l5))) ≤ (I (x + 119) (Int32.toNatClampNeg g4)) then (wa_neitherGains_11 F I x g1 g2 g3 g4 k (l5 + 1)) else (some (.inl 0))))))))
def wa_neitherGains (F : Nat) (I : Nat → Nat → Int32) (x : Nat) (v1 : Int32) (v2 : Int32) (v3 : Int32) : Option (Int32) := let x1 := ((v1 * 21) + v2); (wa_neitherGains_11 F I x v1 v2 v3 x1 F 0).bind (fun q10 => match q10 with | .inl r0 => some r0 | .inr q0 => let m12 := q0; some 1)
theorem l_wa_neitherGains_11 {l : Launch} {D : va_G} {E : Nat → ClassId} {B : Nat → Prop} {n F : Nat} {Q : Option Value → HT → Prop} {T : Nat → Option (Nat × Nat)} {I : Nat → Nat → Int32} {J : Nat → Nat → Int64} {P : Nat → Nat → Option Nat} {x : Nat} {g1 : Int32} {g2 : Int32} {g3 : Int32} {g4 : Int32} (hx : isSR T P x)  (r : (Int32) ⊕ (Int32)) : ∀ (k : Nat) (l5 : Int32), wa_neitherGains_11 F I x g1 g2 g3 g4 k l5 = some r → (match r with | .inl r => Q (some (.int r)) (n, T, I, J, P) | .inr r => V l D E B yX10_neitherGains cX10_neitherGains 6 (some .boolean) 0 0 0 Q 0 0 (n, T, I, J, P) 76 [(0, some (.ref (x + 114))), (1, some (.int g1)), (2, some (.int g2)), (3, some (.int g3)), (4, some (.int g4)), (5, some (.int r))] []) → V l D E B yX10_neitherGains cX10_neitherGains 6 (some .boolean) 0 0 0 Q 0 0 (n, T, I, J, P) 11 [(0, some (.ref (x + 114))), (1, some (.int g1)), (2, some (.int g2)), (3, some (.int g3)), (4, some (.int g4)), (5, some (.int l5))] [] := by
  intro k
  induction k with
  | zero =>
    intro l5 hf hk
    cases hf
  | succ k ih =>
    intro l5 hf hk
    unfold wa_neitherGains_11 at hf
    refine V.iload dX10_neitherGains_11 rfl ?_
    refine V.iload_n dX10_neitherGains_13 rfl ?_
    refine V.icmp_gt 76 dX10_neitherGains_14 (by decide) (fun c3 => ?_) (fun c3 => ?_)
    · rw [if_pos c3] at hf
      obtain rfl := Option.some.inj hf
      exact V.lo [(0, some (.ref (x + 114))), (1, some (.int g1)), (2, some (.int g2)), (3, some (.int g3)), (4, some (.int g4)), (5, some (.int l5))] (by simp only [Subs]; repeat' first | exact trivial | constructor | rfl) hk
    · rw [if_neg c3] at hf
      refine V.iload dX10_neitherGains_17 rfl ?_
      refine V.bipush (v := 21) dX10_neitherGains_19 (by decide) ?_
      refine V.icmp_ge 76 dX10_neitherGains_21 (by decide) (fun c4 => ?_) (fun c4 => ?_)
      · rw [if_pos c4] at hf
        obtain rfl := Option.some.inj hf
        exact V.lo [(0, some (.ref (x + 114))), (1, some (.int g1)), (2, some (.int g2)), (3, some (.int g3)), (4, some (.int g4)), (5, some (.int l5))] (by simp only [Subs]; repeat' first | exact trivial | constructor | rfl) hk
      · rw [if_neg c4] at hf
        refine V.aload_n dX10_neitherGains_24 rfl ?_
        refine V.getr fl_X10_22 dX10_neitherGains_25 (hx.1 114 (10, 0) rfl) (hx.2.1 114 3 118 rfl) (by decide) rfl ?_
        refine V.iload dX10_neitherGains_28 rfl ?_
        refine V.bipush (v := 21) dX10_neitherGains_30 (by decide) ?_
        refine V.imul dX10_neitherGains_32 ?_
        refine V.iload_n dX10_neitherGains_33 rfl ?_
        refine V.iadd dX10_neitherGains_34 ?_
        obtain ⟨hb5, hf⟩ := chk_some hf
        refine V.iald dX10_neitherGains_35 (hx.1 118 (20, 441) rfl) hb5 ?_
        refine V.aload_n dX10_neitherGains_36 rfl ?_
        refine V.getr fl_X10_22 dX10_neitherGains_37 (hx.1 114 (10, 0) rfl) (hx.2.1 114 3 118 rfl) (by decide) rfl ?_
        refine V.iload dX10_neitherGains_40 rfl ?_
        obtain ⟨hb6, hf⟩ := chk_some hf
        refine V.iald dX10_neitherGains_42 (hx.1 118 (20, 441) rfl) hb6 ?_
        refine V.icmp_gt 68 dX10_neitherGains_43 (by decide) (fun c7 => ?_) (fun c7 => ?_)
        · rw [if_pos c7] at hf
          refine V.iconst (v := 0) dX10_neitherGains_68 (by decide) ?_
          obtain rfl := Option.some.inj hf
          exact V.zret dX10_neitherGains_69 rfl rfl (Nat.le_refl _) (Nat.le_refl _) hk
        · rw [if_neg c7] at hf
          refine V.aload_n dX10_neitherGains_46 rfl ?_
          refine V.getr fl_X10_25 dX10_neitherGains_47 (hx.1 114 (10, 0) rfl) (hx.2.1 114 4 119 rfl) (by decide) rfl ?_
          refine V.iload_n dX10_neitherGains_50 rfl ?_
          refine V.bipush (v := 21) dX10_neitherGains_51 (by decide) ?_
          refine V.imul dX10_neitherGains_53 ?_
          refine V.iload dX10_neitherGains_54 rfl ?_
          refine V.iadd dX10_neitherGains_56 ?_
          obtain ⟨hb8, hf⟩ := chk_some hf
          refine V.iald dX10_neitherGains_57 (hx.1 119 (20, 441) rfl) hb8 ?_
          refine V.aload_n dX10_neitherGains_58 rfl ?_
          refine V.getr fl_X10_25 dX10_neitherGains_59 (hx.1 114 (10, 0) rfl) (hx.2.1 114 4 119 rfl) (by decide) rfl ?_
          refine V.iload dX10_neitherGains_62 rfl ?_
          refine V.iald dX10_neitherGains_64 (hx.1 119 (20, 441) rfl) hb6 ?_
          refine V.icmp_le 70 dX10_neitherGains_65 (by decide) (fun c9 => ?_) (fun c9 => ?_)
          · rw [if_pos c9] at hf
            refine V.iinc (v := (l5 + 1)) dX10_neitherGains_70 rfl rfl (by first | exact rfl | exact trivial) ?_
            refine V.goto 11 dX10_neitherGains_73 (by decide) ?_
            exact V.lo [(0, some (.ref (x + 114))), (1, some (.int g1)), (2, some (.int g2)), (3, some (.int g3)), (4, some (.int g4)), (5, some (.int (l5 + 1)))] (by simp only [Subs]; repeat' first | exact trivial | constructor | rfl) (ih _ hf hk)
          · rw [if_neg c9] at hf
            refine V.iconst (v := 0) dX10_neitherGains_68 (by decide) ?_
            obtain rfl := Option.some.inj hf
            exact V.zret dX10_neitherGains_69 rfl rfl (Nat.le_refl _) (Nat.le_refl _) hk
theorem c_wa_neitherGains {l : Launch} {D : va_G} {E : Nat → ClassId} {B : Nat → Prop} {n F : Nat} {T : Nat → Option (Nat × Nat)} {I : Nat → Nat → Int32} {J : Nat → Nat → Int64} {P : Nat → Nat → Option Nat} {x : Nat} {v1 : Int32} {v2 : Int32} {v3 : Int32} {r : Int32} (hx : isSR T P x) (hf : wa_neitherGains F I x v1 v2 v3 = some r) : Ct l D E B yX10_neitherGains cX10_neitherGains 6 (some .boolean) 0 0 0 [.ref (x + 114), .int v1, .int v2, .int v3] (n, T, I, J, P) (Ret (some (.int r)) (n, T, I, J, P)) := by
  unfold wa_neitherGains at hf
  refine Ct.ofV (by decide) (Nat.le_of_ble_eq_true rfl) ?_
  refine V.iload_n dX10_neitherGains_0 rfl ?_
  refine V.bipush (v := 21) dX10_neitherGains_1 (by decide) ?_
  refine V.imul dX10_neitherGains_3 ?_
  refine V.iload_n dX10_neitherGains_4 rfl ?_
  refine V.iadd dX10_neitherGains_5 ?_
  refine V.istore dX10_neitherGains_6 (by decide) (by first | exact rfl | exact trivial) ?_
  obtain ⟨x1, e2⟩ : ∃ zz_, zz_ = ((v1 * 21) + v2) := ⟨_, rfl⟩
  rw [← e2] at hf ⊢
  try dsimp only at hf
  refine V.iconst (v := 0) dX10_neitherGains_8 (by decide) ?_
  refine V.istore dX10_neitherGains_9 (by decide) (by first | exact rfl | exact trivial) ?_
  obtain ⟨q10, hk11, hf⟩ := bnd_some hf
  refine V.lo [(0, some (.ref (x + 114))), (1, some (.int v1)), (2, some (.int v2)), (3, some (.int v3)), (4, some (.int x1)), (5, some (.int 0))] (by simp only [Subs]; repeat' first | exact trivial | constructor | rfl) (l_wa_neitherGains_11 hx q10 F _ hk11 ?_)
  rcases q10 with r0 | m12
  · try dsimp only at hf ⊢
    obtain rfl := Option.some.inj hf
    exact ⟨rfl, rfl⟩
  · try dsimp only at hf ⊢
    refine V.iconst (v := 1) dX10_neitherGains_76 (by decide) ?_
    obtain rfl := Option.some.inj hf
    exact V.zret dX10_neitherGains_77 rfl rfl (Nat.le_refl _) (Nat.le_refl _) ⟨rfl, rfl⟩
theorem dX10_find_0 : decode cX10_find 0 = .ok (.aload_n 0, 1) := by decide +kernel
theorem dX10_find_1 : decode cX10_find 1 = .ok (.getfield 31, 3) := by decide +kernel
theorem dX10_find_4 : decode cX10_find 4 = .ok (.aload_n 2, 1) := by decide +kernel
theorem dX10_find_5 : decode cX10_find 5 = .ok (.invokevirtual 38, 3) := by decide +kernel
theorem dX10_find_8 : decode cX10_find 8 = .ok (.aload_n 0, 1) := by decide +kernel
theorem dX10_find_9 : decode cX10_find 9 = .ok (.getfield 31, 3) := by decide +kernel
theorem dX10_find_12 : decode cX10_find 12 = .ok (.iconst 1, 1) := by decide +kernel
theorem dX10_find_13 : decode cX10_find 13 = .ok (.iload_n 3, 1) := by decide +kernel
theorem dX10_find_14 : decode cX10_find 14 = .ok (.ishl, 1) := by decide +kernel
theorem dX10_find_15 : decode cX10_find 15 = .ok (.iconst 1, 1) := by decide +kernel
theorem dX10_find_16 : decode cX10_find 16 = .ok (.iload 4, 2) := by decide +kernel
theorem dX10_find_18 : decode cX10_find 18 = .ok (.ishl, 1) := by decide +kernel
theorem dX10_find_19 : decode cX10_find 19 = .ok (.ior, 1) := by decide +kernel
theorem dX10_find_20 : decode cX10_find 20 = .ok (.putfield 42, 3) := by decide +kernel
theorem dX10_find_23 : decode cX10_find 23 = .ok (.aload_n 0, 1) := by decide +kernel
theorem dX10_find_24 : decode cX10_find 24 = .ok (.getfield 31, 3) := by decide +kernel
theorem dX10_find_27 : decode cX10_find 27 = .ok (.getfield 46, 3) := by decide +kernel
theorem dX10_find_30 : decode cX10_find 30 = .ok (.iload_n 3, 1) := by decide +kernel
theorem dX10_find_31 : decode cX10_find 31 = .ok (.iconst 0, 1) := by decide +kernel
theorem dX10_find_32 : decode cX10_find 32 = .ok (.iastore, 1) := by decide +kernel
theorem dX10_find_33 : decode cX10_find 33 = .ok (.aload_n 0, 1) := by decide +kernel
theorem dX10_find_34 : decode cX10_find 34 = .ok (.getfield 31, 3) := by decide +kernel
theorem dX10_find_37 : decode cX10_find 37 = .ok (.getfield 46, 3) := by decide +kernel
theorem dX10_find_40 : decode cX10_find 40 = .ok (.iload 4, 2) := by decide +kernel
theorem dX10_find_42 : decode cX10_find 42 = .ok (.iconst 0, 1) := by decide +kernel
theorem dX10_find_43 : decode cX10_find 43 = .ok (.iastore, 1) := by decide +kernel
theorem dX10_find_44 : decode cX10_find 44 = .ok (.iconst 0, 1) := by decide +kernel
theorem dX10_find_45 : decode cX10_find 45 = .ok (.istore 7, 2) := by decide +kernel
theorem dX10_find_47 : decode cX10_find 47 = .ok (.iload 7, 2) := by decide +kernel
theorem dX10_find_49 : decode cX10_find 49 = .ok (.iload 6, 2) := by decide +kernel
theorem dX10_find_51 : decode cX10_find 51 = .ok (.if_icmp .gt 53, 3) := by decide +kernel
theorem dX10_find_54 : decode cX10_find 54 = .ok (.iload 7, 2) := by decide +kernel
theorem dX10_find_56 : decode cX10_find 56 = .ok (.bipush 21, 2) := by decide +kernel
theorem dX10_find_58 : decode cX10_find 58 = .ok (.if_icmp .ge 46, 3) := by decide +kernel
theorem dX10_find_61 : decode cX10_find 61 = .ok (.iconst 0, 1) := by decide +kernel
theorem dX10_find_62 : decode cX10_find 62 = .ok (.istore 8, 2) := by decide +kernel
theorem dX10_find_64 : decode cX10_find 64 = .ok (.iload 8, 2) := by decide +kernel
theorem dX10_find_66 : decode cX10_find 66 = .ok (.iload 6, 2) := by decide +kernel
theorem dX10_find_68 : decode cX10_find 68 = .ok (.if_icmp .gt 30, 3) := by decide +kernel
theorem dX10_find_71 : decode cX10_find 71 = .ok (.iload 8, 2) := by decide +kernel
theorem dX10_find_73 : decode cX10_find 73 = .ok (.bipush 21, 2) := by decide +kernel
theorem dX10_find_75 : decode cX10_find 75 = .ok (.if_icmp .ge 23, 3) := by decide +kernel
theorem dX10_find_78 : decode cX10_find 78 = .ok (.aload_n 0, 1) := by decide +kernel
theorem dX10_find_79 : decode cX10_find 79 = .ok (.aload_n 1, 1) := by decide +kernel
theorem dX10_find_80 : decode cX10_find 80 = .ok (.iload 5, 2) := by decide +kernel
theorem dX10_find_82 : decode cX10_find 82 = .ok (.iload_n 3, 1) := by decide +kernel
theorem dX10_find_83 : decode cX10_find 83 = .ok (.iload 4, 2) := by decide +kernel
theorem dX10_find_85 : decode cX10_find 85 = .ok (.iload 7, 2) := by decide +kernel
theorem dX10_find_87 : decode cX10_find 87 = .ok (.iload 8, 2) := by decide +kernel
theorem dX10_find_89 : decode cX10_find 89 = .ok (.invokevirtual 49, 3) := by decide +kernel
theorem dX10_find_92 : decode cX10_find 92 = .ok (.iinc 8 1, 3) := by decide +kernel
theorem dX10_find_95 : decode cX10_find 95 = .ok (.goto (-31), 3) := by decide +kernel
theorem dX10_find_98 : decode cX10_find 98 = .ok (.iinc 7 1, 3) := by decide +kernel
theorem dX10_find_101 : decode cX10_find 101 = .ok (.goto (-54), 3) := by decide +kernel
theorem dX10_find_104 : decode cX10_find 104 = .ok (.aload_n 0, 1) := by decide +kernel
theorem dX10_find_105 : decode cX10_find 105 = .ok (.iconst 0, 1) := by decide +kernel
theorem dX10_find_106 : decode cX10_find 106 = .ok (.putfield 53, 3) := by decide +kernel
theorem dX10_find_109 : decode cX10_find 109 = .ok (.iconst 0, 1) := by decide +kernel
theorem dX10_find_110 : decode cX10_find 110 = .ok (.istore 7, 2) := by decide +kernel
theorem dX10_find_112 : decode cX10_find 112 = .ok (.iload 7, 2) := by decide +kernel
theorem dX10_find_114 : decode cX10_find 114 = .ok (.iload 6, 2) := by decide +kernel
theorem dX10_find_116 : decode cX10_find 116 = .ok (.if_icmp .gt 79, 3) := by decide +kernel
theorem dX10_find_119 : decode cX10_find 119 = .ok (.iload 7, 2) := by decide +kernel
theorem dX10_find_121 : decode cX10_find 121 = .ok (.bipush 21, 2) := by decide +kernel
theorem dX10_find_123 : decode cX10_find 123 = .ok (.if_icmp .ge 72, 3) := by decide +kernel
theorem dX10_find_126 : decode cX10_find 126 = .ok (.iconst 0, 1) := by decide +kernel
theorem dX10_find_127 : decode cX10_find 127 = .ok (.istore 8, 2) := by decide +kernel
theorem dX10_find_129 : decode cX10_find 129 = .ok (.iload 8, 2) := by decide +kernel
theorem dX10_find_131 : decode cX10_find 131 = .ok (.iload 6, 2) := by decide +kernel
theorem dX10_find_133 : decode cX10_find 133 = .ok (.if_icmp .gt 56, 3) := by decide +kernel
theorem dX10_find_136 : decode cX10_find 136 = .ok (.iload 8, 2) := by decide +kernel
theorem dX10_find_138 : decode cX10_find 138 = .ok (.bipush 21, 2) := by decide +kernel
theorem dX10_find_140 : decode cX10_find 140 = .ok (.if_icmp .ge 49, 3) := by decide +kernel
theorem dX10_find_143 : decode cX10_find 143 = .ok (.aload_n 0, 1) := by decide +kernel
theorem dX10_find_144 : decode cX10_find 144 = .ok (.iload 7, 2) := by decide +kernel
theorem dX10_find_146 : decode cX10_find 146 = .ok (.iload 8, 2) := by decide +kernel
theorem dX10_find_148 : decode cX10_find 148 = .ok (.iload 6, 2) := by decide +kernel
theorem dX10_find_150 : decode cX10_find 150 = .ok (.invokevirtual 56, 3) := by decide +kernel
theorem dX10_find_153 : decode cX10_find 153 = .ok (.ifCond .eq 30, 3) := by decide +kernel
theorem dX10_find_156 : decode cX10_find 156 = .ok (.aload_n 0, 1) := by decide +kernel
theorem dX10_find_157 : decode cX10_find 157 = .ok (.getfield 18, 3) := by decide +kernel
theorem dX10_find_160 : decode cX10_find 160 = .ok (.aload_n 0, 1) := by decide +kernel
theorem dX10_find_161 : decode cX10_find 161 = .ok (.getfield 53, 3) := by decide +kernel
theorem dX10_find_164 : decode cX10_find 164 = .ok (.bipush 100, 2) := by decide +kernel
theorem dX10_find_166 : decode cX10_find 166 = .ok (.iload 7, 2) := by decide +kernel
theorem dX10_find_168 : decode cX10_find 168 = .ok (.imul, 1) := by decide +kernel
theorem dX10_find_169 : decode cX10_find 169 = .ok (.iload 8, 2) := by decide +kernel
theorem dX10_find_171 : decode cX10_find 171 = .ok (.iadd, 1) := by decide +kernel
theorem dX10_find_172 : decode cX10_find 172 = .ok (.iastore, 1) := by decide +kernel
theorem dX10_find_173 : decode cX10_find 173 = .ok (.aload_n 0, 1) := by decide +kernel
theorem dX10_find_174 : decode cX10_find 174 = .ok (.dup, 1) := by decide +kernel
theorem dX10_find_175 : decode cX10_find 175 = .ok (.getfield 53, 3) := by decide +kernel
theorem dX10_find_178 : decode cX10_find 178 = .ok (.iconst 1, 1) := by decide +kernel
theorem dX10_find_179 : decode cX10_find 179 = .ok (.iadd, 1) := by decide +kernel
theorem dX10_find_180 : decode cX10_find 180 = .ok (.putfield 53, 3) := by decide +kernel
theorem dX10_find_183 : decode cX10_find 183 = .ok (.iinc 8 1, 3) := by decide +kernel
theorem dX10_find_186 : decode cX10_find 186 = .ok (.goto (-57), 3) := by decide +kernel
theorem dX10_find_189 : decode cX10_find 189 = .ok (.iinc 7 1, 3) := by decide +kernel
theorem dX10_find_192 : decode cX10_find 192 = .ok (.goto (-80), 3) := by decide +kernel
theorem dX10_find_195 : decode cX10_find 195 = .ok (.return_, 1) := by decide +kernel
def wa_find_64 (F : Nat) (T : Nat → Option (Nat × Nat)) (P : Nat → Nat → Option Nat) (x : Nat) (c : Nat) (a : Nat) (g3 : Int32) (g4 : Int32) (g5 : Int32) (g6 : Int32) (g7 : Int32) : Nat → Int32 → (Nat → Nat → Int32) → Option (Int32 × (Nat → Nat → Int32))
  | 0, _, _ => none
  | k + 1, l8, I => if g6 < l8 then (some (l8, I)) else (if 21 ≤ l8 then (some (l8, I)) else ((wa_standAgainst F T I P x c g5 g3 g4 g7 l8).bind (fun q16 => let I18 := q16; wa_find_64 F T P x c a g3 g4 g5 g6 g7 k (l8 + 1) I18)))
def wa_find_47 (F : Nat) (T : Nat → Option (Nat × Nat)) (P : Nat → Nat → Option Nat) (x : Nat) (c : Nat) (a : Nat) (g3 : Int32) (g4 : Int32) (g5 : Int32) (g6 : Int32) : Nat → Int32 → (Nat → Nat → Int32) → Option (Int32 × (Nat → Nat → Int32))
  | 0, _, _ => none
  | k + 1, l7, I => if g6 < l7 then (some (l7, I)) else (if 21 ≤ l7 then (some (l7, I)) else ((wa_find_64 F T P x c a g3 g4 g5 g6 l7 F 0 I).bind (fun q19 => let m21 := q19.1; let I22 := q19.2; wa_find_47 F T P x c a g3 g4 g5 g6 k (l7 + 1) I22)))
def wa_find_129 (F : Nat) (x : Nat) (c : Nat) (a : Nat) (g3 : Int32) (g4 : Int32) (g5 : Int32) (g6 : Int32) (g7 : Int32) : Nat → Int32 → (Nat → Nat → Int32) → Option (Int32 × (Nat → Nat → Int32))
  | 0, _, _ => none
  | k + 1, l8, I => if g6 < l8 then (some (l8, I)) else (if 21 ≤ l8 then (some (l8, I)) else ((wa_neitherGains F I x g7 l8 g6).bind (fun q33 => let u35 := q33; if u35 = 0 then (wa_find_129 F x c a g3 g4 g5 g6 g7 k (l8 + 1) I) else (chk (I (x + 114) 2) 441 (let I38 := uI I (x + 117) (Int32.toNatClampNeg (I (x + 114) 2)) ((100 * g7) + l8); let I40 := uI I38 (x + 114) 2 ((I38 (x + 114) 2) + 1); wa_find_129 F x c a g3 g4 g5 g6 g7 k (l8 + 1) I40)))))
def wa_find_112 (F : Nat) (x : Nat) (c : Nat) (a : Nat) (g3 : Int32) (g4 : Int32) (g5 : Int32) (g6 : Int32) : Nat → Int32 → (Nat → Nat → Int32) → Option (Int32 × (Nat → Nat → Int32))
  | 0, _, _ => none
  | k + 1, l7, I => if g6 < l7 then (some (l7, I)) else (if 21 ≤ l7 then (some (l7, I)) else ((wa_find_129 F x c a g3 g4 g5 g6 l7 F 0 I).bind (fun q42 => let m44 := q42.1; let I45 := q42.2; wa_find_112 F x c a g3 g4 g5 g6 k (l7 + 1) I45)))
def wa_find (F : Nat) (T : Nat → Option (Nat × Nat)) (I : Nat → Nat → Int32) (P : Nat → Nat → Option Nat) (x : Nat) (c : Nat) (a : Nat) (v3 : Int32) (v4 : Int32) (v5 : Int32) (v6 : Int32) : Option ((Nat → Nat → Int32)) := (s_copyFrom I (x + 120) a).bind (fun q1 => let I3 := q1; let I4 := uI I3 (x + 120) 1 ((1 <<< (v3 &&& 31)) ||| (1 <<< (v4 &&& 31))); chk v3 6 (let I7 := uI I4 ((x + 120) + 2) (Int32.toNatClampNeg v3) 0; chk v4 6 (let I10 := uI I7 ((x + 120) + 2) (Int32.toNatClampNeg v4) 0; (wa_find_47 F T P x c a v3 v4 v5 v6 F 0 I10).bind (fun q23 => let m25 := q23.1; let I26 := q23.2; let I27 := uI I26 (x + 114) 2 0; (wa_find_112 F x c a v3 v4 v5 v6 F 0 I27).bind (fun q46 => let m48 := q46.1; let I49 := q46.2; some I49)))))
theorem l_wa_find_64 {l : Launch} {D : va_G} {E : Nat → ClassId} {B : Nat → Prop} {n F : Nat} {Q : Option Value → HT → Prop} {T : Nat → Option (Nat × Nat)} {J : Nat → Nat → Int64} {P : Nat → Nat → Option Nat} {x : Nat} {c : Nat} {a : Nat} {g3 : Int32} {g4 : Int32} {g5 : Int32} {g6 : Int32} {g7 : Int32} (hx : isSR T P x) (hs_c : isCt T P c) (hs_a : isSt T P a)  (r : Int32 × (Nat → Nat → Int32)) : ∀ (k : Nat) (l8 : Int32) (I : (Nat → Nat → Int32)), wa_find_64 F T P x c a g3 g4 g5 g6 g7 k l8 I = some r → V l D E B yX10_find cX10_find 9 none 5 0 0 Q 0 0 (n, T, r.2, J, P) 98 [(0, some (.ref (x + 114))), (1, some (.ref c)), (2, some (.ref a)), (3, some (.int g3)), (4, some (.int g4)), (5, some (.int g5)), (6, some (.int g6)), (7, some (.int g7)), (8, some (.int (r.1)))] [] → V l D E B yX10_find cX10_find 9 none 5 0 0 Q 0 0 (n, T, I, J, P) 64 [(0, some (.ref (x + 114))), (1, some (.ref c)), (2, some (.ref a)), (3, some (.int g3)), (4, some (.int g4)), (5, some (.int g5)), (6, some (.int g6)), (7, some (.int g7)), (8, some (.int l8))] [] := by
  intro k
  induction k with
  | zero =>
    intro l8 I hf hk
    cases hf
  | succ k ih =>
    intro l8 I hf hk
    unfold wa_find_64 at hf
    refine V.iload dX10_find_64 rfl ?_
    refine V.iload dX10_find_66 rfl ?_
    refine V.icmp_gt 98 dX10_find_68 (by decide) (fun c14 => ?_) (fun c14 => ?_)
    · rw [if_pos c14] at hf
      obtain rfl := Option.some.inj hf
      exact V.lo [(0, some (.ref (x + 114))), (1, some (.ref c)), (2, some (.ref a)), (3, some (.int g3)), (4, some (.int g4)), (5, some (.int g5)), (6, some (.int g6)), (7, some (.int g7)), (8, some (.int l8))] (by simp only [Subs]; repeat' first | exact trivial | constructor | rfl) hk
    · rw [if_neg c14] at hf
      refine V.iload dX10_find_71 rfl ?_
      refine V.bipush (v := 21) dX10_find_73 (by decide) ?_
      refine V.icmp_ge 98 dX10_find_75 (by decide) (fun c15 => ?_) (fun c15 => ?_)
      · rw [if_pos c15] at hf
        obtain rfl := Option.some.inj hf
        exact V.lo [(0, some (.ref (x + 114))), (1, some (.ref c)), (2, some (.ref a)), (3, some (.int g3)), (4, some (.int g4)), (5, some (.int g5)), (6, some (.int g6)), (7, some (.int g7)), (8, some (.int l8))] (by simp only [Subs]; repeat' first | exact trivial | constructor | rfl) hk
      · rw [if_neg c15] at hf
        refine V.aload_n dX10_find_78 rfl ?_
        refine V.aload_n dX10_find_79 rfl ?_
        refine V.iload dX10_find_80 rfl ?_
        refine V.iload_n dX10_find_82 rfl ?_
        refine V.iload dX10_find_83 rfl ?_
        refine V.iload dX10_find_85 rfl ?_
        refine V.iload dX10_find_87 rfl ?_
        obtain ⟨I18, hk17, hf⟩ := bnd_some hf
        try dsimp only at hf
        refine V.inv cv_X10_49 (c_wa_standAgainst hx hs_c hk17) dX10_find_89 (hx.1 114 (10, 0) rfl) (by decide) rfl rfl rfl (Nat.le_of_ble_eq_true rfl) (by decide) (by decide) (Nat.le_refl _) (Nat.le_refl _) (fun _ _ hq => ?_)
        obtain ⟨rfl, rfl⟩ := hq
        refine V.iinc (v := (l8 + 1)) dX10_find_92 rfl rfl (by first | exact rfl | exact trivial) ?_
        refine V.goto 64 dX10_find_95 (by decide) ?_
        exact V.lo [(0, some (.ref (x + 114))), (1, some (.ref c)), (2, some (.ref a)), (3, some (.int g3)), (4, some (.int g4)), (5, some (.int g5)), (6, some (.int g6)), (7, some (.int g7)), (8, some (.int (l8 + 1)))] (by simp only [Subs]; repeat' first | exact trivial | constructor | rfl) (ih _ _ hf hk)
theorem l_wa_find_47 {l : Launch} {D : va_G} {E : Nat → ClassId} {B : Nat → Prop} {n F : Nat} {Q : Option Value → HT → Prop} {T : Nat → Option (Nat × Nat)} {J : Nat → Nat → Int64} {P : Nat → Nat → Option Nat} {x : Nat} {c : Nat} {a : Nat} {g3 : Int32} {g4 : Int32} {g5 : Int32} {g6 : Int32} (hx : isSR T P x) (hs_c : isCt T P c) (hs_a : isSt T P a)  (r : Int32 × (Nat → Nat → Int32)) : ∀ (k : Nat) (l7 : Int32) (I : (Nat → Nat → Int32)), wa_find_47 F T P x c a g3 g4 g5 g6 k l7 I = some r → V l D E B yX10_find cX10_find 9 none 5 0 0 Q 0 0 (n, T, r.2, J, P) 104 [(0, some (.ref (x + 114))), (1, some (.ref c)), (2, some (.ref a)), (3, some (.int g3)), (4, some (.int g4)), (5, some (.int g5)), (6, some (.int g6)), (7, some (.int (r.1)))] [] → V l D E B yX10_find cX10_find 9 none 5 0 0 Q 0 0 (n, T, I, J, P) 47 [(0, some (.ref (x + 114))), (1, some (.ref c)), (2, some (.ref a)), (3, some (.int g3)), (4, some (.int g4)), (5, some (.int g5)), (6, some (.int g6)), (7, some (.int l7))] [] := by
  intro k
  induction k with
  | zero =>
    intro l7 I hf hk
    cases hf
  | succ k ih =>
    intro l7 I hf hk
    unfold wa_find_47 at hf
    refine V.iload dX10_find_47 rfl ?_
    refine V.iload dX10_find_49 rfl ?_
    refine V.icmp_gt 104 dX10_find_51 (by decide) (fun c12 => ?_) (fun c12 => ?_)
    · rw [if_pos c12] at hf
      obtain rfl := Option.some.inj hf
      exact V.lo [(0, some (.ref (x + 114))), (1, some (.ref c)), (2, some (.ref a)), (3, some (.int g3)), (4, some (.int g4)), (5, some (.int g5)), (6, some (.int g6)), (7, some (.int l7))] (by simp only [Subs]; repeat' first | exact trivial | constructor | rfl) hk
    · rw [if_neg c12] at hf
      refine V.iload dX10_find_54 rfl ?_
      refine V.bipush (v := 21) dX10_find_56 (by decide) ?_
      refine V.icmp_ge 104 dX10_find_58 (by decide) (fun c13 => ?_) (fun c13 => ?_)
      · rw [if_pos c13] at hf
        obtain rfl := Option.some.inj hf
        exact V.lo [(0, some (.ref (x + 114))), (1, some (.ref c)), (2, some (.ref a)), (3, some (.int g3)), (4, some (.int g4)), (5, some (.int g5)), (6, some (.int g6)), (7, some (.int l7))] (by simp only [Subs]; repeat' first | exact trivial | constructor | rfl) hk
      · rw [if_neg c13] at hf
        refine V.iconst (v := 0) dX10_find_61 (by decide) ?_
        refine V.istore dX10_find_62 (by decide) (by first | exact rfl | exact trivial) ?_
        obtain ⟨⟨m21, I22⟩, hk20, hf⟩ := bnd_some hf
        try dsimp only at hf
        refine V.lo [(0, some (.ref (x + 114))), (1, some (.ref c)), (2, some (.ref a)), (3, some (.int g3)), (4, some (.int g4)), (5, some (.int g5)), (6, some (.int g6)), (7, some (.int l7)), (8, some (.int 0))] (by simp only [Subs]; repeat' first | exact trivial | constructor | rfl) (l_wa_find_64 hx hs_c hs_a _ F _ _ hk20 ?_)
        try dsimp only
        refine V.iinc (v := (l7 + 1)) dX10_find_98 rfl rfl (by first | exact rfl | exact trivial) ?_
        refine V.goto 47 dX10_find_101 (by decide) ?_
        exact V.lo [(0, some (.ref (x + 114))), (1, some (.ref c)), (2, some (.ref a)), (3, some (.int g3)), (4, some (.int g4)), (5, some (.int g5)), (6, some (.int g6)), (7, some (.int (l7 + 1)))] (by simp only [Subs]; repeat' first | exact trivial | constructor | rfl) (ih _ _ hf hk)
theorem l_wa_find_129 {l : Launch} {D : va_G} {E : Nat → ClassId} {B : Nat → Prop} {n F : Nat} {Q : Option Value → HT → Prop} {T : Nat → Option (Nat × Nat)} {J : Nat → Nat → Int64} {P : Nat → Nat → Option Nat} {x : Nat} {c : Nat} {a : Nat} {g3 : Int32} {g4 : Int32} {g5 : Int32} {g6 : Int32} {g7 : Int32} (hx : isSR T P x) (hs_c : isCt T P c) (hs_a : isSt T P a)  (r : Int32 × (Nat → Nat → Int32)) : ∀ (k : Nat) (l8 : Int32) (I : (Nat → Nat → Int32)), wa_find_129 F x c a g3 g4 g5 g6 g7 k l8 I = some r → V l D E B yX10_find cX10_find 9 none 5 0 0 Q 0 0 (n, T, r.2, J, P) 189 [(0, some (.ref (x + 114))), (1, some (.ref c)), (2, some (.ref a)), (3, some (.int g3)), (4, some (.int g4)), (5, some (.int g5)), (6, some (.int g6)), (7, some (.int g7)), (8, some (.int (r.1)))] [] → V l D E B yX10_find cX10_find 9 none 5 0 0 Q 0 0 (n, T, I, J, P) 129 [(0, some (.ref (x + 114))), (1, some (.ref c)), (2, some (.ref a)), (3, some (.int g3)), (4, some (.int g4)), (5, some (.int g5)), (6, some (.int g6)), (7, some (.int g7)), (8, some (.int l8))] [] := by
  intro k
  induction k with
  | zero =>
    intro l8 I hf hk
    cases hf
  | succ k ih =>
    intro l8 I hf hk
    unfold wa_find_129 at hf
    refine V.iload dX10_find_129 rfl ?_
    refine V.iload dX10_find_131 rfl ?_
    refine V.icmp_gt 189 dX10_find_133 (by decide) (fun c31 => ?_) (fun c31 => ?_)
    · rw [if_pos c31] at hf
      obtain rfl := Option.some.inj hf
      exact V.lo [(0, some (.ref (x + 114))), (1, some (.ref c)), (2, some (.ref a)), (3, some (.int g3)), (4, some (.int g4)), (5, some (.int g5)), (6, some (.int g6)), (7, some (.int g7)), (8, some (.int l8))] (by simp only [Subs]; repeat' first | exact trivial | constructor | rfl) hk
    · rw [if_neg c31] at hf
      refine V.iload dX10_find_136 rfl ?_
      refine V.bipush (v := 21) dX10_find_138 (by decide) ?_
      refine V.icmp_ge 189 dX10_find_140 (by decide) (fun c32 => ?_) (fun c32 => ?_)
      · rw [if_pos c32] at hf
        obtain rfl := Option.some.inj hf
        exact V.lo [(0, some (.ref (x + 114))), (1, some (.ref c)), (2, some (.ref a)), (3, some (.int g3)), (4, some (.int g4)), (5, some (.int g5)), (6, some (.int g6)), (7, some (.int g7)), (8, some (.int l8))] (by simp only [Subs]; repeat' first | exact trivial | constructor | rfl) hk
      · rw [if_neg c32] at hf
        refine V.aload_n dX10_find_143 rfl ?_
        refine V.iload dX10_find_144 rfl ?_
        refine V.iload dX10_find_146 rfl ?_
        refine V.iload dX10_find_148 rfl ?_
        obtain ⟨u35, hk34, hf⟩ := bnd_some hf
        try dsimp only at hf
        refine V.inv cv_X10_56 (c_wa_neitherGains hx hk34) dX10_find_150 (hx.1 114 (10, 0) rfl) (by decide) rfl rfl rfl (Nat.le_of_ble_eq_true rfl) (by decide) (by decide) (Nat.le_refl _) (Nat.le_refl _) (fun _ _ hq => ?_)
        obtain ⟨rfl, rfl⟩ := hq
        refine V.if_eq 183 dX10_find_153 (by decide) (fun c36 => ?_) (fun c36 => ?_)
        · rw [if_pos c36] at hf
          refine V.iinc (v := (l8 + 1)) dX10_find_183 rfl rfl (by first | exact rfl | exact trivial) ?_
          refine V.goto 129 dX10_find_186 (by decide) ?_
          exact V.lo [(0, some (.ref (x + 114))), (1, some (.ref c)), (2, some (.ref a)), (3, some (.int g3)), (4, some (.int g4)), (5, some (.int g5)), (6, some (.int g6)), (7, some (.int g7)), (8, some (.int (l8 + 1)))] (by simp only [Subs]; repeat' first | exact trivial | constructor | rfl) (ih _ _ hf hk)
        · rw [if_neg c36] at hf
          refine V.aload_n dX10_find_156 rfl ?_
          refine V.getr fl_X10_18 dX10_find_157 (hx.1 114 (10, 0) rfl) (hx.2.1 114 1 117 rfl) (by decide) rfl ?_
          refine V.aload_n dX10_find_160 rfl ?_
          refine V.getf fl_X10_53 dX10_find_161 (hx.1 114 (10, 0) rfl) (by decide) rfl ?_
          refine V.bipush (v := 100) dX10_find_164 (by decide) ?_
          refine V.iload dX10_find_166 rfl ?_
          refine V.imul dX10_find_168 ?_
          refine V.iload dX10_find_169 rfl ?_
          refine V.iadd dX10_find_171 ?_
          obtain ⟨hb37, hf⟩ := chk_some hf
          refine V.iastE dX10_find_172 (hx.1 117 (20, 441) rfl) hb37 (fun I38 e39 => ?_)
          rw [← e39] at hf
          try dsimp only at hf
          clear e39
          refine V.aload_n dX10_find_173 rfl ?_
          refine V.dup dX10_find_174 rfl ?_
          refine V.getf fl_X10_53 dX10_find_175 (hx.1 114 (10, 0) rfl) (by decide) rfl ?_
          refine V.iconst (v := 1) dX10_find_178 (by decide) ?_
          refine V.iadd dX10_find_179 ?_
          refine V.putiE fl_X10_53 dX10_find_180 (hx.1 114 (10, 0) rfl) (by decide) (fun h => by cases h) rfl rfl rfl (Nat.le_of_ble_eq_true rfl) (fun I40 e41 => ?_)
          rw [← e41] at hf
          try dsimp only at hf
          clear e41
          refine V.iinc (v := (l8 + 1)) dX10_find_183 rfl rfl (by first | exact rfl | exact trivial) ?_
          refine V.goto 129 dX10_find_186 (by decide) ?_
          exact V.lo [(0, some (.ref (x + 114))), (1, some (.ref c)), (2, some (.ref a)), (3, some (.int g3)), (4, some (.int g4)), (5, some (.int g5)), (6, some (.int g6)), (7, some (.int g7)), (8, some (.int (l8 + 1)))] (by simp only [Subs]; repeat' first | exact trivial | constructor | rfl) (ih _ _ hf hk)
theorem l_wa_find_112 {l : Launch} {D : va_G} {E : Nat → ClassId} {B : Nat → Prop} {n F : Nat} {Q : Option Value → HT → Prop} {T : Nat → Option (Nat × Nat)} {J : Nat → Nat → Int64} {P : Nat → Nat → Option Nat} {x : Nat} {c : Nat} {a : Nat} {g3 : Int32} {g4 : Int32} {g5 : Int32} {g6 : Int32} (hx : isSR T P x) (hs_c : isCt T P c) (hs_a : isSt T P a)  (r : Int32 × (Nat → Nat → Int32)) : ∀ (k : Nat) (l7 : Int32) (I : (Nat → Nat → Int32)), wa_find_112 F x c a g3 g4 g5 g6 k l7 I = some r → V l D E B yX10_find cX10_find 9 none 5 0 0 Q 0 0 (n, T, r.2, J, P) 195 [(0, some (.ref (x + 114))), (1, some (.ref c)), (2, some (.ref a)), (3, some (.int g3)), (4, some (.int g4)), (5, some (.int g5)), (6, some (.int g6)), (7, some (.int (r.1)))] [] → V l D E B yX10_find cX10_find 9 none 5 0 0 Q 0 0 (n, T, I, J, P) 112 [(0, some (.ref (x + 114))), (1, some (.ref c)), (2, some (.ref a)), (3, some (.int g3)), (4, some (.int g4)), (5, some (.int g5)), (6, some (.int g6)), (7, some (.int l7))] [] := by
  intro k
  induction k with
  | zero =>
    intro l7 I hf hk
    cases hf
  | succ k ih =>
    intro l7 I hf hk
    unfold wa_find_112 at hf
    refine V.iload dX10_find_112 rfl ?_
    refine V.iload dX10_find_114 rfl ?_
    refine V.icmp_gt 195 dX10_find_116 (by decide) (fun c29 => ?_) (fun c29 => ?_)
    · rw [if_pos c29] at hf
      obtain rfl := Option.some.inj hf
      exact V.lo [(0, some (.ref (x + 114))), (1, some (.ref c)), (2, some (.ref a)), (3, some (.int g3)), (4, some (.int g4)), (5, some (.int g5)), (6, some (.int g6)), (7, some (.int l7))] (by simp only [Subs]; repeat' first | exact trivial | constructor | rfl) hk
    · rw [if_neg c29] at hf
      refine V.iload dX10_find_119 rfl ?_
      refine V.bipush (v := 21) dX10_find_121 (by decide) ?_
      refine V.icmp_ge 195 dX10_find_123 (by decide) (fun c30 => ?_) (fun c30 => ?_)
      · rw [if_pos c30] at hf
        obtain rfl := Option.some.inj hf
        exact V.lo [(0, some (.ref (x + 114))), (1, some (.ref c)), (2, some (.ref a)), (3, some (.int g3)), (4, some (.int g4)), (5, some (.int g5)), (6, some (.int g6)), (7, some (.int l7))] (by simp only [Subs]; repeat' first | exact trivial | constructor | rfl) hk
      · rw [if_neg c30] at hf
        refine V.iconst (v := 0) dX10_find_126 (by decide) ?_
        refine V.istore dX10_find_127 (by decide) (by first | exact rfl | exact trivial) ?_
        obtain ⟨⟨m44, I45⟩, hk43, hf⟩ := bnd_some hf
        try dsimp only at hf
        refine V.lo [(0, some (.ref (x + 114))), (1, some (.ref c)), (2, some (.ref a)), (3, some (.int g3)), (4, some (.int g4)), (5, some (.int g5)), (6, some (.int g6)), (7, some (.int l7)), (8, some (.int 0))] (by simp only [Subs]; repeat' first | exact trivial | constructor | rfl) (l_wa_find_129 hx hs_c hs_a _ F _ _ hk43 ?_)
        try dsimp only
        refine V.iinc (v := (l7 + 1)) dX10_find_189 rfl rfl (by first | exact rfl | exact trivial) ?_
        refine V.goto 112 dX10_find_192 (by decide) ?_
        exact V.lo [(0, some (.ref (x + 114))), (1, some (.ref c)), (2, some (.ref a)), (3, some (.int g3)), (4, some (.int g4)), (5, some (.int g5)), (6, some (.int g6)), (7, some (.int (l7 + 1)))] (by simp only [Subs]; repeat' first | exact trivial | constructor | rfl) (ih _ _ hf hk)
theorem c_wa_find {l : Launch} {D : va_G} {E : Nat → ClassId} {B : Nat → Prop} {n F : Nat} {T : Nat → Option (Nat × Nat)} {I : Nat → Nat → Int32} {J : Nat → Nat → Int64} {P : Nat → Nat → Option Nat} {x : Nat} {c : Nat} {a : Nat} {v3 : Int32} {v4 : Int32} {v5 : Int32} {v6 : Int32} {r : (Nat → Nat → Int32)} (hx : isSR T P x) (hs_c : isCt T P c) (hs_a : isSt T P a) (hf : wa_find F T I P x c a v3 v4 v5 v6 = some r) : Ct l D E B yX10_find cX10_find 9 none 5 0 0 [.ref (x + 114), .ref c, .ref a, .int v3, .int v4, .int v5, .int v6] (n, T, I, J, P) (Ret (none) (n, T, r, J, P)) := by
  unfold wa_find at hf
  refine Ct.ofV (by decide) (Nat.le_of_ble_eq_true rfl) ?_
  refine V.aload_n dX10_find_0 rfl ?_
  refine V.getr fl_X10_31 dX10_find_1 (hx.1 114 (10, 0) rfl) (hx.2.1 114 5 120 rfl) (by decide) rfl ?_
  refine V.aload_n dX10_find_4 rfl ?_
  obtain ⟨I3, hk2, hf⟩ := bnd_some hf
  try dsimp only at hf
  refine V.inv cv_X10_38 (c_s_copyFrom (hx.2.2.1 120 rfl) hs_a hk2) dX10_find_5 ((hx.2.2.1 120 rfl).1 0 (8, 0) rfl) (by decide) rfl rfl rfl (Nat.le_of_ble_eq_true rfl) (by decide) (by decide) (Nat.le_refl _) (Nat.le_refl _) (fun _ _ hq => ?_)
  obtain ⟨rfl, rfl⟩ := hq
  refine V.aload_n dX10_find_8 rfl ?_
  refine V.getr fl_X10_31 dX10_find_9 (hx.1 114 (10, 0) rfl) (hx.2.1 114 5 120 rfl) (by decide) rfl ?_
  refine V.iconst (v := 1) dX10_find_12 (by decide) ?_
  refine V.iload_n dX10_find_13 rfl ?_
  refine V.ishl dX10_find_14 ?_
  refine V.iconst (v := 1) dX10_find_15 (by decide) ?_
  refine V.iload dX10_find_16 rfl ?_
  refine V.ishl dX10_find_18 ?_
  refine V.ior dX10_find_19 ?_
  refine V.putiE fl_X10_42 dX10_find_20 ((hx.2.2.1 120 rfl).1 0 (8, 0) rfl) (by decide) (fun h => by cases h) rfl rfl rfl (Nat.le_of_ble_eq_true rfl) (fun I4 e5 => ?_)
  rw [← e5] at hf
  try dsimp only at hf
  clear e5
  refine V.aload_n dX10_find_23 rfl ?_
  refine V.getr fl_X10_31 dX10_find_24 (hx.1 114 (10, 0) rfl) (hx.2.1 114 5 120 rfl) (by decide) rfl ?_
  refine V.getr fl_X10_46 dX10_find_27 ((hx.2.2.1 120 rfl).1 0 (8, 0) rfl) ((hx.2.2.1 120 rfl).2 0 5 2 rfl) (by decide) rfl ?_
  refine V.iload_n dX10_find_30 rfl ?_
  refine V.iconst (v := 0) dX10_find_31 (by decide) ?_
  obtain ⟨hb6, hf⟩ := chk_some hf
  refine V.iastE dX10_find_32 ((hx.2.2.1 120 rfl).1 2 (20, 6) rfl) hb6 (fun I7 e8 => ?_)
  rw [← e8] at hf
  try dsimp only at hf
  clear e8
  refine V.aload_n dX10_find_33 rfl ?_
  refine V.getr fl_X10_31 dX10_find_34 (hx.1 114 (10, 0) rfl) (hx.2.1 114 5 120 rfl) (by decide) rfl ?_
  refine V.getr fl_X10_46 dX10_find_37 ((hx.2.2.1 120 rfl).1 0 (8, 0) rfl) ((hx.2.2.1 120 rfl).2 0 5 2 rfl) (by decide) rfl ?_
  refine V.iload dX10_find_40 rfl ?_
  refine V.iconst (v := 0) dX10_find_42 (by decide) ?_
  obtain ⟨hb9, hf⟩ := chk_some hf
  refine V.iastE dX10_find_43 ((hx.2.2.1 120 rfl).1 2 (20, 6) rfl) hb9 (fun I10 e11 => ?_)
  rw [← e11] at hf
  try dsimp only at hf
  clear e11
  refine V.iconst (v := 0) dX10_find_44 (by decide) ?_
  refine V.istore dX10_find_45 (by decide) (by first | exact rfl | exact trivial) ?_
  obtain ⟨⟨m25, I26⟩, hk24, hf⟩ := bnd_some hf
  try dsimp only at hf
  refine V.lo [(0, some (.ref (x + 114))), (1, some (.ref c)), (2, some (.ref a)), (3, some (.int v3)), (4, some (.int v4)), (5, some (.int v5)), (6, some (.int v6)), (7, some (.int 0))] (by simp only [Subs]; repeat' first | exact trivial | constructor | rfl) (l_wa_find_47 hx hs_c hs_a _ F _ _ hk24 ?_)
  try dsimp only
  refine V.aload_n dX10_find_104 rfl ?_
  refine V.iconst (v := 0) dX10_find_105 (by decide) ?_
  refine V.putiE fl_X10_53 dX10_find_106 (hx.1 114 (10, 0) rfl) (by decide) (fun h => by cases h) rfl rfl rfl (Nat.le_of_ble_eq_true rfl) (fun I27 e28 => ?_)
  rw [← e28] at hf
  try dsimp only at hf
  clear e28
  refine V.iconst (v := 0) dX10_find_109 (by decide) ?_
  refine V.istore dX10_find_110 (by decide) (by first | exact rfl | exact trivial) ?_
  obtain ⟨⟨m48, I49⟩, hk47, hf⟩ := bnd_some hf
  try dsimp only at hf
  refine V.lo [(0, some (.ref (x + 114))), (1, some (.ref c)), (2, some (.ref a)), (3, some (.int v3)), (4, some (.int v4)), (5, some (.int v5)), (6, some (.int v6)), (7, some (.int 0))] (by simp only [Subs]; repeat' first | exact trivial | constructor | rfl) (l_wa_find_112 hx hs_c hs_a _ F _ _ hk47 ?_)
  try dsimp only
  obtain rfl := Option.some.inj hf
  exact V.vret dX10_find_195 rfl (Nat.le_refl _) (Nat.le_refl _) ⟨rfl, rfl⟩
