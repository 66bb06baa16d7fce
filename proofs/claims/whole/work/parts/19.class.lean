theorem dX11_putOnTape_0 : decode cX11_putOnTape 0 = .ok (.bipush 24, 2) := by decide +kernel
theorem dX11_putOnTape_2 : decode cX11_putOnTape 2 = .ok (.istore_n 2, 1) := by decide +kernel
theorem dX11_putOnTape_3 : decode cX11_putOnTape 3 = .ok (.iload_n 2, 1) := by decide +kernel
theorem dX11_putOnTape_4 : decode cX11_putOnTape 4 = .ok (.ifCond .lt 44, 3) := by decide +kernel
theorem dX11_putOnTape_7 : decode cX11_putOnTape 7 = .ok (.aload_n 0, 1) := by decide +kernel
theorem dX11_putOnTape_8 : decode cX11_putOnTape 8 = .ok (.getfield 100, 3) := by decide +kernel
theorem dX11_putOnTape_11 : decode cX11_putOnTape 11 = .ok (.aload_n 0, 1) := by decide +kernel
theorem dX11_putOnTape_12 : decode cX11_putOnTape 12 = .ok (.getfield 9, 3) := by decide +kernel
theorem dX11_putOnTape_15 : decode cX11_putOnTape 15 = .ok (.arraylength, 1) := by decide +kernel
theorem dX11_putOnTape_16 : decode cX11_putOnTape 16 = .ok (.if_icmp .ge 32, 3) := by decide +kernel
theorem dX11_putOnTape_19 : decode cX11_putOnTape 19 = .ok (.aload_n 0, 1) := by decide +kernel
theorem dX11_putOnTape_20 : decode cX11_putOnTape 20 = .ok (.getfield 9, 3) := by decide +kernel
theorem dX11_putOnTape_23 : decode cX11_putOnTape 23 = .ok (.aload_n 0, 1) := by decide +kernel
theorem dX11_putOnTape_24 : decode cX11_putOnTape 24 = .ok (.getfield 100, 3) := by decide +kernel
theorem dX11_putOnTape_27 : decode cX11_putOnTape 27 = .ok (.iload_n 1, 1) := by decide +kernel
theorem dX11_putOnTape_28 : decode cX11_putOnTape 28 = .ok (.iload_n 2, 1) := by decide +kernel
theorem dX11_putOnTape_29 : decode cX11_putOnTape 29 = .ok (.ishr, 1) := by decide +kernel
theorem dX11_putOnTape_30 : decode cX11_putOnTape 30 = .ok (.i2b, 1) := by decide +kernel
theorem dX11_putOnTape_31 : decode cX11_putOnTape 31 = .ok (.bastore, 1) := by decide +kernel
theorem dX11_putOnTape_32 : decode cX11_putOnTape 32 = .ok (.aload_n 0, 1) := by decide +kernel
theorem dX11_putOnTape_33 : decode cX11_putOnTape 33 = .ok (.dup, 1) := by decide +kernel
theorem dX11_putOnTape_34 : decode cX11_putOnTape 34 = .ok (.getfield 100, 3) := by decide +kernel
theorem dX11_putOnTape_37 : decode cX11_putOnTape 37 = .ok (.iconst 1, 1) := by decide +kernel
theorem dX11_putOnTape_38 : decode cX11_putOnTape 38 = .ok (.iadd, 1) := by decide +kernel
theorem dX11_putOnTape_39 : decode cX11_putOnTape 39 = .ok (.putfield 100, 3) := by decide +kernel
theorem dX11_putOnTape_42 : decode cX11_putOnTape 42 = .ok (.iinc 2 (-8), 3) := by decide +kernel
theorem dX11_putOnTape_45 : decode cX11_putOnTape 45 = .ok (.goto (-42), 3) := by decide +kernel
theorem dX11_putOnTape_48 : decode cX11_putOnTape 48 = .ok (.return_, 1) := by decide +kernel
def x_putOnTape_3 (F : Nat) (x : Nat) (g1 : Int32) : Nat → Int32 → (Nat → Nat → Int32) → Option (Int32 × (Nat → Nat → Int32))
  | 0, _, _ => none
  | k + 1, l2, I => if l2 < 0 then (some (l2, I)) else (if (nI 900) ≤ (I x 1) then (some (l2, I)) else (chk (I x 1) 900 (let I4 := uI I (x + 1) (Int32.toNatClampNeg (I x 1)) (vp_nar .byte ((Int32.toInt8 (g1 >>> (l2 &&& 31))).toInt32)); let I6 := uI I4 x 1 ((I4 x 1) + 1); x_putOnTape_3 F x g1 k (l2 + (-8)) I6)))
def x_putOnTape (F : Nat) (I : Nat → Nat → Int32) (x : Nat) (v1 : Int32) : Option ((Nat → Nat → Int32)) := (x_putOnTape_3 F x v1 F 24 I).bind (fun q8 => let m10 := q8.1; let I11 := q8.2; some I11)
theorem l_x_putOnTape_3 {l : Launch} {D : va_G} {E : Nat → ClassId} {B : Nat → Prop} {n F : Nat} {Q : Option Value → HT → Prop} {T : Nat → Option (Nat × Nat)} {J : Nat → Nat → Int64} {P : Nat → Nat → Option Nat} {x : Nat} {g1 : Int32} (hx : isSR T P x)  (r : Int32 × (Nat → Nat → Int32)) : ∀ (k : Nat) (l2 : Int32) (I : (Nat → Nat → Int32)), x_putOnTape_3 F x g1 k l2 I = some r → V l D E B yX11_putOnTape cX11_putOnTape 3 none 0 0 0 Q 0 0 (n, T, r.2, J, P) 48 [(0, some (.ref x)), (1, some (.int g1)), (2, some (.int (r.1)))] [] → V l D E B yX11_putOnTape cX11_putOnTape 3 none 0 0 0 Q 0 0 (n, T, I, J, P) 3 [(0, some (.ref x)), (1, some (.int g1)), (2, some (.int l2))] [] := by
  intro k
  induction k with
  | zero =>
    intro l2 I hf hk
    cases hf
  | succ k ih =>
    intro l2 I hf hk
    unfold x_putOnTape_3 at hf
    refine V.iload_n dX11_putOnTape_3 rfl ?_
    refine V.if_lt 48 dX11_putOnTape_4 (by decide) (fun c1 => ?_) (fun c1 => ?_)
    · rw [if_pos c1] at hf
      obtain rfl := Option.some.inj hf
      exact V.lo [(0, some (.ref x)), (1, some (.int g1)), (2, some (.int l2))] (by simp only [Subs]; repeat' first | exact trivial | constructor | rfl) hk
    · rw [if_neg c1] at hf
      refine V.aload_n dX11_putOnTape_7 rfl ?_
      refine V.getf fl_X11_100 dX11_putOnTape_8 (hx.1 0 (11, 0) rfl) (by decide) rfl ?_
      refine V.aload_n dX11_putOnTape_11 rfl ?_
      refine V.getr fl_X11_9 dX11_putOnTape_12 (hx.1 0 (11, 0) rfl) (hx.2.1 0 0 1 rfl) (by decide) rfl ?_
      refine V.alen dX11_putOnTape_15 (hx.1 1 (21, 900) rfl) (by decide) ?_
      refine V.icmp_ge 48 dX11_putOnTape_16 (by decide) (fun c2 => ?_) (fun c2 => ?_)
      · rw [if_pos c2] at hf
        obtain rfl := Option.some.inj hf
        exact V.lo [(0, some (.ref x)), (1, some (.int g1)), (2, some (.int l2))] (by simp only [Subs]; repeat' first | exact trivial | constructor | rfl) hk
      · rw [if_neg c2] at hf
        refine V.aload_n dX11_putOnTape_19 rfl ?_
        refine V.getr fl_X11_9 dX11_putOnTape_20 (hx.1 0 (11, 0) rfl) (hx.2.1 0 0 1 rfl) (by decide) rfl ?_
        refine V.aload_n dX11_putOnTape_23 rfl ?_
        refine V.getf fl_X11_100 dX11_putOnTape_24 (hx.1 0 (11, 0) rfl) (by decide) rfl ?_
        refine V.iload_n dX11_putOnTape_27 rfl ?_
        refine V.iload_n dX11_putOnTape_28 rfl ?_
        refine V.ishr dX11_putOnTape_29 ?_
        refine V.i2b dX11_putOnTape_30 ?_
        obtain ⟨hb3, hf⟩ := chk_some hf
        refine V.bastE dX11_putOnTape_31 (hx.1 1 (21, 900) rfl) hb3 (fun I4 e5 => ?_)
        rw [← e5] at hf
        try dsimp only at hf
        clear e5
        refine V.aload_n dX11_putOnTape_32 rfl ?_
        refine V.dup dX11_putOnTape_33 rfl ?_
        refine V.getf fl_X11_100 dX11_putOnTape_34 (hx.1 0 (11, 0) rfl) (by decide) rfl ?_
        refine V.iconst (v := 1) dX11_putOnTape_37 (by decide) ?_
        refine V.iadd dX11_putOnTape_38 ?_
        refine V.putiE fl_X11_100 dX11_putOnTape_39 (hx.1 0 (11, 0) rfl) (by decide) (fun h => by cases h) rfl rfl rfl (Nat.le_of_ble_eq_true rfl) (fun I6 e7 => ?_)
        rw [← e7] at hf
        try dsimp only at hf
        clear e7
        refine V.iinc (v := (l2 + (-8))) dX11_putOnTape_42 rfl rfl (by first | exact rfl | exact trivial) ?_
        refine V.goto 3 dX11_putOnTape_45 (by decide) ?_
        exact V.lo [(0, some (.ref x)), (1, some (.int g1)), (2, some (.int (l2 + (-8))))] (by simp only [Subs]; repeat' first | exact trivial | constructor | rfl) (ih _ _ hf hk)
theorem c_x_putOnTape {l : Launch} {D : va_G} {E : Nat → ClassId} {B : Nat → Prop} {n F : Nat} {T : Nat → Option (Nat × Nat)} {I : Nat → Nat → Int32} {J : Nat → Nat → Int64} {P : Nat → Nat → Option Nat} {x : Nat} {v1 : Int32} {r : (Nat → Nat → Int32)} (hx : isSR T P x) (hf : x_putOnTape F I x v1 = some r) : Ct l D E B yX11_putOnTape cX11_putOnTape 3 none 0 0 0 [.ref x, .int v1] (n, T, I, J, P) (Ret (none) (n, T, r, J, P)) := by
  unfold x_putOnTape at hf
  refine Ct.ofV (by decide) (Nat.le_of_ble_eq_true rfl) ?_
  refine V.bipush (v := 24) dX11_putOnTape_0 (by decide) ?_
  refine V.istore_n dX11_putOnTape_2 rfl (by decide) (by first | exact rfl | exact trivial) ?_
  obtain ⟨⟨m10, I11⟩, hk9, hf⟩ := bnd_some hf
  try dsimp only at hf
  refine V.lo [(0, some (.ref x)), (1, some (.int v1)), (2, some (.int 24))] (by simp only [Subs]; repeat' first | exact trivial | constructor | rfl) (l_x_putOnTape_3 hx _ F _ _ hk9 ?_)
  try dsimp only
  obtain rfl := Option.some.inj hf
  exact V.vret dX11_putOnTape_48 rfl (Nat.le_refl _) (Nat.le_refl _) ⟨rfl, rfl⟩
theorem dX11_feed_0 : decode cX11_feed 0 = .ok (.aload_n 0, 1) := by decide +kernel
theorem dX11_feed_1 : decode cX11_feed 1 = .ok (.getfield 100, 3) := by decide +kernel
theorem dX11_feed_4 : decode cX11_feed 4 = .ok (.bipush 20, 2) := by decide +kernel
theorem dX11_feed_6 : decode cX11_feed 6 = .ok (.iadd, 1) := by decide +kernel
theorem dX11_feed_7 : decode cX11_feed 7 = .ok (.sipush 900, 3) := by decide +kernel
theorem dX11_feed_10 : decode cX11_feed 10 = .ok (.if_icmp .le 6, 3) := by decide +kernel
theorem dX11_feed_13 : decode cX11_feed 13 = .ok (.bipush (-5), 2) := by decide +kernel
theorem dX11_feed_15 : decode cX11_feed 15 = .ok (.ireturn, 1) := by decide +kernel
theorem dX11_feed_16 : decode cX11_feed 16 = .ok (.aload_n 0, 1) := by decide +kernel
theorem dX11_feed_17 : decode cX11_feed 17 = .ok (.iload_n 1, 1) := by decide +kernel
theorem dX11_feed_18 : decode cX11_feed 18 = .ok (.invokevirtual 103, 3) := by decide +kernel
theorem dX11_feed_21 : decode cX11_feed 21 = .ok (.aload_n 0, 1) := by decide +kernel
theorem dX11_feed_22 : decode cX11_feed 22 = .ok (.iload_n 2, 1) := by decide +kernel
theorem dX11_feed_23 : decode cX11_feed 23 = .ok (.invokevirtual 103, 3) := by decide +kernel
theorem dX11_feed_26 : decode cX11_feed 26 = .ok (.aload_n 0, 1) := by decide +kernel
theorem dX11_feed_27 : decode cX11_feed 27 = .ok (.iload_n 3, 1) := by decide +kernel
theorem dX11_feed_28 : decode cX11_feed 28 = .ok (.invokevirtual 103, 3) := by decide +kernel
theorem dX11_feed_31 : decode cX11_feed 31 = .ok (.aload_n 0, 1) := by decide +kernel
theorem dX11_feed_32 : decode cX11_feed 32 = .ok (.iload 4, 2) := by decide +kernel
theorem dX11_feed_34 : decode cX11_feed 34 = .ok (.invokevirtual 103, 3) := by decide +kernel
theorem dX11_feed_37 : decode cX11_feed 37 = .ok (.aload_n 0, 1) := by decide +kernel
theorem dX11_feed_38 : decode cX11_feed 38 = .ok (.iload 5, 2) := by decide +kernel
theorem dX11_feed_40 : decode cX11_feed 40 = .ok (.invokevirtual 103, 3) := by decide +kernel
theorem dX11_feed_43 : decode cX11_feed 43 = .ok (.aload_n 0, 1) := by decide +kernel
theorem dX11_feed_44 : decode cX11_feed 44 = .ok (.getfield 100, 3) := by decide +kernel
theorem dX11_feed_47 : decode cX11_feed 47 = .ok (.ireturn, 1) := by decide +kernel
def x_feed (F : Nat) (I : Nat → Nat → Int32) (x : Nat) (v1 : Int32) (v2 : Int32) (v3 : Int32) (v4 : Int32) (v5 : Int32) : Option (Int32 × (Nat → Nat → Int32)) := if ((I x 1) + 20) ≤ 900 then ((x_putOnTape F I x v1).bind (fun q2 => let I4 := q2; (x_putOnTape F I4 x v2).bind (fun q5 => let I7 := q5; (x_putOnTape F I7 x v3).bind (fun q8 => let I10 := q8; (x_putOnTape F I10 x v4).bind (fun q11 => let I13 := q11; (x_putOnTape F I13 x v5).bind (fun q14 => let I16 := q14; some ((I16 x 1), I16))))))) else (some ((-5), I))
theorem c_x_feed {l : Launch} {D : va_G} {E : Nat → ClassId} {B : Nat → Prop} {n F : Nat} {T : Nat → Option (Nat × Nat)} {I : Nat → Nat → Int32} {J : Nat → Nat → Int64} {P : Nat → Nat → Option Nat} {x : Nat} {v1 : Int32} {v2 : Int32} {v3 : Int32} {v4 : Int32} {v5 : Int32} {r : Int32 × (Nat → Nat → Int32)} (hx : isSR T P x) (hf : x_feed F I x v1 v2 v3 v4 v5 = some r) : Ct l D E B yX11_feed cX11_feed 6 (some .int) 1 0 0 [.ref x, .int v1, .int v2, .int v3, .int v4, .int v5] (n, T, I, J, P) (Ret (some (.int r.1)) (n, T, r.2, J, P)) := by
  unfold x_feed at hf
  refine Ct.ofV (by decide) (Nat.le_of_ble_eq_true rfl) ?_
  refine V.aload_n dX11_feed_0 rfl ?_
  refine V.getf fl_X11_100 dX11_feed_1 (hx.1 0 (11, 0) rfl) (by decide) rfl ?_
  refine V.bipush (v := 20) dX11_feed_4 (by decide) ?_
  refine V.iadd dX11_feed_6 ?_
  refine V.sipush (v := 900) dX11_feed_7 (by decide) ?_
  refine V.icmp_le 16 dX11_feed_10 (by decide) (fun c1 => ?_) (fun c1 => ?_)
  · rw [if_pos c1] at hf
    refine V.aload_n dX11_feed_16 rfl ?_
    refine V.iload_n dX11_feed_17 rfl ?_
    obtain ⟨I4, hk3, hf⟩ := bnd_some hf
    try dsimp only at hf
    refine V.inv cv_X11_103 (c_x_putOnTape hx hk3) dX11_feed_18 (hx.1 0 (11, 0) rfl) (by decide) rfl rfl rfl (Nat.le_of_ble_eq_true rfl) (by decide) (by decide) (Nat.le_refl _) (Nat.le_refl _) (fun _ _ hq => ?_)
    obtain ⟨rfl, rfl⟩ := hq
    refine V.aload_n dX11_feed_21 rfl ?_
    refine V.iload_n dX11_feed_22 rfl ?_
    obtain ⟨I7, hk6, hf⟩ := bnd_some hf
    try dsimp only at hf
    refine V.inv cv_X11_103 (c_x_putOnTape hx hk6) dX11_feed_23 (hx.1 0 (11, 0) rfl) (by decide) rfl rfl rfl (Nat.le_of_ble_eq_true rfl) (by decide) (by decide) (Nat.le_refl _) (Nat.le_refl _) (fun _ _ hq => ?_)
    obtain ⟨rfl, rfl⟩ := hq
    refine V.aload_n dX11_feed_26 rfl ?_
    refine V.iload_n dX11_feed_27 rfl ?_
    obtain ⟨I10, hk9, hf⟩ := bnd_some hf
    try dsimp only at hf
    refine V.inv cv_X11_103 (c_x_putOnTape hx hk9) dX11_feed_28 (hx.1 0 (11, 0) rfl) (by decide) rfl rfl rfl (Nat.le_of_ble_eq_true rfl) (by decide) (by decide) (Nat.le_refl _) (Nat.le_refl _) (fun _ _ hq => ?_)
    obtain ⟨rfl, rfl⟩ := hq
    refine V.aload_n dX11_feed_31 rfl ?_
    refine V.iload dX11_feed_32 rfl ?_
    obtain ⟨I13, hk12, hf⟩ := bnd_some hf
    try dsimp only at hf
    refine V.inv cv_X11_103 (c_x_putOnTape hx hk12) dX11_feed_34 (hx.1 0 (11, 0) rfl) (by decide) rfl rfl rfl (Nat.le_of_ble_eq_true rfl) (by decide) (by decide) (Nat.le_refl _) (Nat.le_refl _) (fun _ _ hq => ?_)
    obtain ⟨rfl, rfl⟩ := hq
    refine V.aload_n dX11_feed_37 rfl ?_
    refine V.iload dX11_feed_38 rfl ?_
    obtain ⟨I16, hk15, hf⟩ := bnd_some hf
    try dsimp only at hf
    refine V.inv cv_X11_103 (c_x_putOnTape hx hk15) dX11_feed_40 (hx.1 0 (11, 0) rfl) (by decide) rfl rfl rfl (Nat.le_of_ble_eq_true rfl) (by decide) (by decide) (Nat.le_refl _) (Nat.le_refl _) (fun _ _ hq => ?_)
    obtain ⟨rfl, rfl⟩ := hq
    refine V.aload_n dX11_feed_43 rfl ?_
    refine V.getf fl_X11_100 dX11_feed_44 (hx.1 0 (11, 0) rfl) (by decide) rfl ?_
    obtain rfl := Option.some.inj hf
    exact V.iret dX11_feed_47 rfl (Nat.le_refl _) (Nat.le_refl _) ⟨rfl, rfl⟩
  · rw [if_neg c1] at hf
    refine V.bipush (v := -5) dX11_feed_13 (by decide) ?_
    obtain rfl := Option.some.inj hf
    exact V.iret dX11_feed_15 rfl (Nat.le_refl _) (Nat.le_refl _) ⟨rfl, rfl⟩
theorem dX11_fault_0 : decode cX11_fault 0 = .ok (.iload_n 1, 1) := by decide +kernel
theorem dX11_fault_1 : decode cX11_fault 1 = .ok (.ifCond .ne 11, 3) := by decide +kernel
theorem dX11_fault_4 : decode cX11_fault 4 = .ok (.aload_n 0, 1) := by decide +kernel
theorem dX11_fault_5 : decode cX11_fault 5 = .ok (.getfield 16, 3) := by decide +kernel
theorem dX11_fault_8 : decode cX11_fault 8 = .ok (.getfield 111, 3) := by decide +kernel
theorem dX11_fault_11 : decode cX11_fault 11 = .ok (.ireturn, 1) := by decide +kernel
theorem dX11_fault_12 : decode cX11_fault 12 = .ok (.iload_n 1, 1) := by decide +kernel
theorem dX11_fault_13 : decode cX11_fault 13 = .ok (.iconst 1, 1) := by decide +kernel
theorem dX11_fault_14 : decode cX11_fault 14 = .ok (.if_icmp .ne 13, 3) := by decide +kernel
theorem dX11_fault_17 : decode cX11_fault 17 = .ok (.aload_n 0, 1) := by decide +kernel
theorem dX11_fault_18 : decode cX11_fault 18 = .ok (.getfield 16, 3) := by decide +kernel
theorem dX11_fault_21 : decode cX11_fault 21 = .ok (.getfield 124, 3) := by decide +kernel
theorem dX11_fault_24 : decode cX11_fault 24 = .ok (.goto 4, 3) := by decide +kernel
theorem dX11_fault_27 : decode cX11_fault 27 = .ok (.iconst (-1), 1) := by decide +kernel
theorem dX11_fault_28 : decode cX11_fault 28 = .ok (.ireturn, 1) := by decide +kernel
def x_fault (I : Nat → Nat → Int32) (x : Nat) (v1 : Int32) : Int32 := if v1 = 0 then ((I (x + 2) 0)) else (if v1 = 1 then ((I (x + 2) 1)) else ((-1)))
theorem c_x_fault {l : Launch} {D : va_G} {E : Nat → ClassId} {B : Nat → Prop} {n : Nat} {T : Nat → Option (Nat × Nat)} {I : Nat → Nat → Int32} {J : Nat → Nat → Int64} {P : Nat → Nat → Option Nat} {x : Nat} {v1 : Int32} (hx : isSR T P x) : Ct l D E B yX11_fault cX11_fault 2 (some .int) 0 0 0 [.ref x, .int v1] (n, T, I, J, P) (Ret (some (.int (x_fault I x v1))) (n, T, I, J, P)) := by
  obtain ⟨r, hf⟩ : ∃ r, x_fault I x v1 = r := ⟨_, rfl⟩
  rw [hf]
  unfold x_fault at hf
  refine Ct.ofV (by decide) (Nat.le_of_ble_eq_true rfl) ?_
  refine V.iload_n dX11_fault_0 rfl ?_
  refine V.if_ne 12 dX11_fault_1 (by decide) (fun c1 => ?_) (fun c1 => ?_)
  · rw [if_neg c1] at hf
    refine V.iload_n dX11_fault_12 rfl ?_
    refine V.iconst (v := 1) dX11_fault_13 (by decide) ?_
    refine V.icmp_ne 27 dX11_fault_14 (by decide) (fun c2 => ?_) (fun c2 => ?_)
    · rw [if_neg c2] at hf
      refine V.iconst (v := -1) dX11_fault_27 (by decide) ?_
      subst hf
      exact V.iret dX11_fault_28 rfl (Nat.le_refl _) (Nat.le_refl _) ⟨rfl, rfl⟩
    · rw [if_pos c2] at hf
      refine V.aload_n dX11_fault_17 rfl ?_
      refine V.getr fl_X11_16 dX11_fault_18 (hx.1 0 (11, 0) rfl) (hx.2.1 0 2 2 rfl) (by decide) rfl ?_
      refine V.getf fl_X11_124 dX11_fault_21 (hx.1 2 (7, 0) rfl) (by decide) rfl ?_
      refine V.goto 28 dX11_fault_24 (by decide) ?_
      subst hf
      exact V.iret dX11_fault_28 rfl (Nat.le_refl _) (Nat.le_refl _) ⟨rfl, rfl⟩
  · rw [if_pos c1] at hf
    refine V.aload_n dX11_fault_4 rfl ?_
    refine V.getr fl_X11_16 dX11_fault_5 (hx.1 0 (11, 0) rfl) (hx.2.1 0 2 2 rfl) (by decide) rfl ?_
    refine V.getf fl_X11_111 dX11_fault_8 (hx.1 2 (7, 0) rfl) (by decide) rfl ?_
    subst hf
    exact V.iret dX11_fault_11 rfl (Nat.le_refl _) (Nat.le_refl _) ⟨rfl, rfl⟩
theorem dX11_noPerson_0 : decode cX11_noPerson 0 = .ok (.iload_n 1, 1) := by decide +kernel
theorem dX11_noPerson_1 : decode cX11_noPerson 1 = .ok (.ifCond .lt 14, 3) := by decide +kernel
theorem dX11_noPerson_4 : decode cX11_noPerson 4 = .ok (.iload_n 1, 1) := by decide +kernel
theorem dX11_noPerson_5 : decode cX11_noPerson 5 = .ok (.aload_n 0, 1) := by decide +kernel
theorem dX11_noPerson_6 : decode cX11_noPerson 6 = .ok (.getfield 23, 3) := by decide +kernel
theorem dX11_noPerson_9 : decode cX11_noPerson 9 = .ok (.getfield 168, 3) := by decide +kernel
theorem dX11_noPerson_12 : decode cX11_noPerson 12 = .ok (.if_icmp .lt 7, 3) := by decide +kernel
theorem dX11_noPerson_15 : decode cX11_noPerson 15 = .ok (.iconst 1, 1) := by decide +kernel
theorem dX11_noPerson_16 : decode cX11_noPerson 16 = .ok (.goto 4, 3) := by decide +kernel
theorem dX11_noPerson_19 : decode cX11_noPerson 19 = .ok (.iconst 0, 1) := by decide +kernel
theorem dX11_noPerson_20 : decode cX11_noPerson 20 = .ok (.ireturn, 1) := by decide +kernel
def x_noPerson (I : Nat → Nat → Int32) (x : Nat) (c : Nat) (v1 : Int32) : Int32 := if v1 < 0 then (1) else (if v1 < (I c 0) then (0) else (1))
theorem c_x_noPerson {l : Launch} {D : va_G} {E : Nat → ClassId} {B : Nat → Prop} {n : Nat} {T : Nat → Option (Nat × Nat)} {I : Nat → Nat → Int32} {J : Nat → Nat → Int64} {P : Nat → Nat → Option Nat} {x : Nat} {c : Nat} {v1 : Int32} (hx : isSR T P x) (hs_c : isCt T P c) (hc : P x 3 = some c) : Ct l D E B yX11_noPerson cX11_noPerson 2 (some .boolean) 0 0 0 [.ref x, .int v1] (n, T, I, J, P) (Ret (some (.int (x_noPerson I x c v1))) (n, T, I, J, P)) := by
  obtain ⟨r, hf⟩ : ∃ r, x_noPerson I x c v1 = r := ⟨_, rfl⟩
  rw [hf]
  unfold x_noPerson at hf
  refine Ct.ofV (by decide) (Nat.le_of_ble_eq_true rfl) ?_
  refine V.iload_n dX11_noPerson_0 rfl ?_
  refine V.if_lt 15 dX11_noPerson_1 (by decide) (fun c1 => ?_) (fun c1 => ?_)
  · rw [if_pos c1] at hf
    refine V.iconst (v := 1) dX11_noPerson_15 (by decide) ?_
    refine V.goto 20 dX11_noPerson_16 (by decide) ?_
    subst hf
    exact V.zret dX11_noPerson_20 rfl rfl (Nat.le_refl _) (Nat.le_refl _) ⟨rfl, rfl⟩
  · rw [if_neg c1] at hf
    refine V.iload_n dX11_noPerson_4 rfl ?_
    refine V.aload_n dX11_noPerson_5 rfl ?_
    refine V.getr fl_X11_23 dX11_noPerson_6 (hx.1 0 (11, 0) rfl) hc (by decide) rfl ?_
    refine V.getf fl_X11_168 dX11_noPerson_9 (hs_c.1.1 0 (1, 0) rfl) (by decide) rfl ?_
    refine V.icmp_lt 19 dX11_noPerson_12 (by decide) (fun c2 => ?_) (fun c2 => ?_)
    · rw [if_pos c2] at hf
      refine V.iconst (v := 0) dX11_noPerson_19 (by decide) ?_
      subst hf
      exact V.zret dX11_noPerson_20 rfl rfl (Nat.le_refl _) (Nat.le_refl _) ⟨rfl, rfl⟩
    · rw [if_neg c2] at hf
      refine V.iconst (v := 1) dX11_noPerson_15 (by decide) ?_
      refine V.goto 20 dX11_noPerson_16 (by decide) ?_
      subst hf
      exact V.zret dX11_noPerson_20 rfl rfl (Nat.le_refl _) (Nat.le_refl _) ⟨rfl, rfl⟩
theorem dX11_noTune_0 : decode cX11_noTune 0 = .ok (.iload_n 1, 1) := by decide +kernel
theorem dX11_noTune_1 : decode cX11_noTune 1 = .ok (.ifCond .lt 14, 3) := by decide +kernel
theorem dX11_noTune_4 : decode cX11_noTune 4 = .ok (.iload_n 1, 1) := by decide +kernel
theorem dX11_noTune_5 : decode cX11_noTune 5 = .ok (.aload_n 0, 1) := by decide +kernel
theorem dX11_noTune_6 : decode cX11_noTune 6 = .ok (.getfield 23, 3) := by decide +kernel
theorem dX11_noTune_9 : decode cX11_noTune 9 = .ok (.getfield 171, 3) := by decide +kernel
theorem dX11_noTune_12 : decode cX11_noTune 12 = .ok (.if_icmp .lt 7, 3) := by decide +kernel
theorem dX11_noTune_15 : decode cX11_noTune 15 = .ok (.iconst 1, 1) := by decide +kernel
theorem dX11_noTune_16 : decode cX11_noTune 16 = .ok (.goto 4, 3) := by decide +kernel
theorem dX11_noTune_19 : decode cX11_noTune 19 = .ok (.iconst 0, 1) := by decide +kernel
theorem dX11_noTune_20 : decode cX11_noTune 20 = .ok (.ireturn, 1) := by decide +kernel
def x_noTune (I : Nat → Nat → Int32) (x : Nat) (c : Nat) (v1 : Int32) : Int32 := if v1 < 0 then (1) else (if v1 < (I c 1) then (0) else (1))
theorem c_x_noTune {l : Launch} {D : va_G} {E : Nat → ClassId} {B : Nat → Prop} {n : Nat} {T : Nat → Option (Nat × Nat)} {I : Nat → Nat → Int32} {J : Nat → Nat → Int64} {P : Nat → Nat → Option Nat} {x : Nat} {c : Nat} {v1 : Int32} (hx : isSR T P x) (hs_c : isCt T P c) (hc : P x 3 = some c) : Ct l D E B yX11_noTune cX11_noTune 2 (some .boolean) 0 0 0 [.ref x, .int v1] (n, T, I, J, P) (Ret (some (.int (x_noTune I x c v1))) (n, T, I, J, P)) := by
  obtain ⟨r, hf⟩ : ∃ r, x_noTune I x c v1 = r := ⟨_, rfl⟩
  rw [hf]
  unfold x_noTune at hf
  refine Ct.ofV (by decide) (Nat.le_of_ble_eq_true rfl) ?_
  refine V.iload_n dX11_noTune_0 rfl ?_
  refine V.if_lt 15 dX11_noTune_1 (by decide) (fun c1 => ?_) (fun c1 => ?_)
  · rw [if_pos c1] at hf
    refine V.iconst (v := 1) dX11_noTune_15 (by decide) ?_
    refine V.goto 20 dX11_noTune_16 (by decide) ?_
    subst hf
    exact V.zret dX11_noTune_20 rfl rfl (Nat.le_refl _) (Nat.le_refl _) ⟨rfl, rfl⟩
  · rw [if_neg c1] at hf
    refine V.iload_n dX11_noTune_4 rfl ?_
    refine V.aload_n dX11_noTune_5 rfl ?_
    refine V.getr fl_X11_23 dX11_noTune_6 (hx.1 0 (11, 0) rfl) hc (by decide) rfl ?_
    refine V.getf fl_X11_171 dX11_noTune_9 (hs_c.1.1 0 (1, 0) rfl) (by decide) rfl ?_
    refine V.icmp_lt 19 dX11_noTune_12 (by decide) (fun c2 => ?_) (fun c2 => ?_)
    · rw [if_pos c2] at hf
      refine V.iconst (v := 0) dX11_noTune_19 (by decide) ?_
      subst hf
      exact V.zret dX11_noTune_20 rfl rfl (Nat.le_refl _) (Nat.le_refl _) ⟨rfl, rfl⟩
    · rw [if_neg c2] at hf
      refine V.iconst (v := 1) dX11_noTune_15 (by decide) ?_
      refine V.goto 20 dX11_noTune_16 (by decide) ?_
      subst hf
      exact V.zret dX11_noTune_20 rfl rfl (Nat.le_refl _) (Nat.le_refl _) ⟨rfl, rfl⟩
theorem dX11_person_0 : decode cX11_person 0 = .ok (.aload_n 0, 1) := by decide +kernel
theorem dX11_person_1 : decode cX11_person 1 = .ok (.iload_n 1, 1) := by decide +kernel
theorem dX11_person_2 : decode cX11_person 2 = .ok (.invokevirtual 127, 3) := by decide +kernel
theorem dX11_person_5 : decode cX11_person 5 = .ok (.ifCond .eq 6, 3) := by decide +kernel
theorem dX11_person_8 : decode cX11_person 8 = .ok (.ldc 131, 2) := by decide +kernel
theorem dX11_person_10 : decode cX11_person 10 = .ok (.ireturn, 1) := by decide +kernel
theorem dX11_person_11 : decode cX11_person 11 = .ok (.iload_n 2, 1) := by decide +kernel
theorem dX11_person_12 : decode cX11_person 12 = .ok (.tableswitch 135 0 6 #[44, 54, 64, 81, 91, 100, 110], 44) := by decide +kernel
theorem dX11_person_56 : decode cX11_person 56 = .ok (.aload_n 0, 1) := by decide +kernel
theorem dX11_person_57 : decode cX11_person 57 = .ok (.getfield 30, 3) := by decide +kernel
theorem dX11_person_60 : decode cX11_person 60 = .ok (.getfield 132, 3) := by decide +kernel
theorem dX11_person_63 : decode cX11_person 63 = .ok (.iload_n 1, 1) := by decide +kernel
theorem dX11_person_64 : decode cX11_person 64 = .ok (.iaload, 1) := by decide +kernel
theorem dX11_person_65 : decode cX11_person 65 = .ok (.ireturn, 1) := by decide +kernel
theorem dX11_person_66 : decode cX11_person 66 = .ok (.aload_n 0, 1) := by decide +kernel
theorem dX11_person_67 : decode cX11_person 67 = .ok (.getfield 23, 3) := by decide +kernel
theorem dX11_person_70 : decode cX11_person 70 = .ok (.getfield 136, 3) := by decide +kernel
theorem dX11_person_73 : decode cX11_person 73 = .ok (.iload_n 1, 1) := by decide +kernel
theorem dX11_person_74 : decode cX11_person 74 = .ok (.iaload, 1) := by decide +kernel
theorem dX11_person_75 : decode cX11_person 75 = .ok (.ireturn, 1) := by decide +kernel
theorem dX11_person_76 : decode cX11_person 76 = .ok (.aload_n 0, 1) := by decide +kernel
theorem dX11_person_77 : decode cX11_person 77 = .ok (.getfield 30, 3) := by decide +kernel
theorem dX11_person_80 : decode cX11_person 80 = .ok (.iload_n 1, 1) := by decide +kernel
theorem dX11_person_81 : decode cX11_person 81 = .ok (.invokevirtual 139, 3) := by decide +kernel
theorem dX11_person_84 : decode cX11_person 84 = .ok (.ifCond .eq 7, 3) := by decide +kernel
theorem dX11_person_87 : decode cX11_person 87 = .ok (.iconst 1, 1) := by decide +kernel
theorem dX11_person_88 : decode cX11_person 88 = .ok (.goto 4, 3) := by decide +kernel
theorem dX11_person_91 : decode cX11_person 91 = .ok (.iconst 0, 1) := by decide +kernel
theorem dX11_person_92 : decode cX11_person 92 = .ok (.ireturn, 1) := by decide +kernel
theorem dX11_person_93 : decode cX11_person 93 = .ok (.aload_n 0, 1) := by decide +kernel
theorem dX11_person_94 : decode cX11_person 94 = .ok (.getfield 30, 3) := by decide +kernel
theorem dX11_person_97 : decode cX11_person 97 = .ok (.getfield 142, 3) := by decide +kernel
theorem dX11_person_100 : decode cX11_person 100 = .ok (.iload_n 1, 1) := by decide +kernel
theorem dX11_person_101 : decode cX11_person 101 = .ok (.iaload, 1) := by decide +kernel
theorem dX11_person_102 : decode cX11_person 102 = .ok (.ireturn, 1) := by decide +kernel
theorem dX11_person_103 : decode cX11_person 103 = .ok (.aload_n 0, 1) := by decide +kernel
theorem dX11_person_104 : decode cX11_person 104 = .ok (.getfield 30, 3) := by decide +kernel
theorem dX11_person_107 : decode cX11_person 107 = .ok (.iload_n 1, 1) := by decide +kernel
theorem dX11_person_108 : decode cX11_person 108 = .ok (.invokevirtual 145, 3) := by decide +kernel
theorem dX11_person_111 : decode cX11_person 111 = .ok (.ireturn, 1) := by decide +kernel
theorem dX11_person_112 : decode cX11_person 112 = .ok (.aload_n 0, 1) := by decide +kernel
theorem dX11_person_113 : decode cX11_person 113 = .ok (.getfield 30, 3) := by decide +kernel
theorem dX11_person_116 : decode cX11_person 116 = .ok (.getfield 149, 3) := by decide +kernel
theorem dX11_person_119 : decode cX11_person 119 = .ok (.iload_n 1, 1) := by decide +kernel
theorem dX11_person_120 : decode cX11_person 120 = .ok (.iaload, 1) := by decide +kernel
theorem dX11_person_121 : decode cX11_person 121 = .ok (.ireturn, 1) := by decide +kernel
theorem dX11_person_122 : decode cX11_person 122 = .ok (.aload_n 0, 1) := by decide +kernel
theorem dX11_person_123 : decode cX11_person 123 = .ok (.getfield 30, 3) := by decide +kernel
theorem dX11_person_126 : decode cX11_person 126 = .ok (.iload_n 1, 1) := by decide +kernel
theorem dX11_person_127 : decode cX11_person 127 = .ok (.invokevirtual 139, 3) := by decide +kernel
theorem dX11_person_130 : decode cX11_person 130 = .ok (.ifCond .eq 7, 3) := by decide +kernel
theorem dX11_person_133 : decode cX11_person 133 = .ok (.iconst (-1), 1) := by decide +kernel
theorem dX11_person_134 : decode cX11_person 134 = .ok (.goto 12, 3) := by decide +kernel
theorem dX11_person_137 : decode cX11_person 137 = .ok (.aload_n 0, 1) := by decide +kernel
theorem dX11_person_138 : decode cX11_person 138 = .ok (.getfield 30, 3) := by decide +kernel
theorem dX11_person_141 : decode cX11_person 141 = .ok (.getfield 152, 3) := by decide +kernel
theorem dX11_person_144 : decode cX11_person 144 = .ok (.iload_n 1, 1) := by decide +kernel
theorem dX11_person_145 : decode cX11_person 145 = .ok (.iaload, 1) := by decide +kernel
theorem dX11_person_146 : decode cX11_person 146 = .ok (.ireturn, 1) := by decide +kernel
theorem dX11_person_147 : decode cX11_person 147 = .ok (.ldc 131, 2) := by decide +kernel
theorem dX11_person_149 : decode cX11_person 149 = .ok (.ireturn, 1) := by decide +kernel
def x_person (F : Nat) (I : Nat → Nat → Int32) (x : Nat) (c : Nat) (v1 : Int32) (v2 : Int32) : Option (Int32) := if (x_noPerson I x c v1) = 0 then (if v2 = 0 then (chk v1 6 (some (I ((x + 12) + 1) (Int32.toNatClampNeg v1)))) else (if v2 = 1 then (chk v1 6 (some (I (c + 2) (Int32.toNatClampNeg v1)))) else (if v2 = 2 then (if (s_isUp I (x + 12) v1) = 0 then (some 0) else (some 1)) else (if v2 = 3 then (chk v1 6 (some (I ((x + 12) + 5) (Int32.toNatClampNeg v1)))) else (if v2 = 4 then ((s_placeOf F I (x + 12) v1).bind (fun q11 => let u13 := q11; some u13)) else (if v2 = 5 then (chk v1 6 (some (I ((x + 12) + 2) (Int32.toNatClampNeg v1)))) else (if v2 = 6 then (if (s_isUp I (x + 12) v1) = 0 then (chk v1 6 (some (I ((x + 12) + 3) (Int32.toNatClampNeg v1)))) else (some (-1))) else (some (-99000002))))))))) else (some (-99000002))
theorem c_x_person {l : Launch} {D : va_G} {E : Nat → ClassId} {B : Nat → Prop} {n F : Nat} {T : Nat → Option (Nat × Nat)} {I : Nat → Nat → Int32} {J : Nat → Nat → Int64} {P : Nat → Nat → Option Nat} {x : Nat} {c : Nat} {v1 : Int32} {v2 : Int32} {r : Int32} (hx : isSR T P x) (hs_c : isCt T P c) (hc : P x 3 = some c) (hf : x_person F I x c v1 v2 = some r) : Ct l D E B yX11_person cX11_person 3 (some .int) 3 0 0 [.ref x, .int v1, .int v2] (n, T, I, J, P) (Ret (some (.int r)) (n, T, I, J, P)) := by
  unfold x_person at hf
  refine Ct.ofV (by decide) (Nat.le_of_ble_eq_true rfl) ?_
  refine V.aload_n dX11_person_0 rfl ?_
  refine V.iload_n dX11_person_1 rfl ?_
  refine V.inv cv_X11_127 (c_x_noPerson hx hs_c hc) dX11_person_2 (hx.1 0 (11, 0) rfl) (by decide) rfl rfl rfl (Nat.le_of_ble_eq_true rfl) (by decide) (by decide) (Nat.le_refl _) (Nat.le_refl _) (fun _ _ hq => ?_)
  obtain ⟨rfl, rfl⟩ := hq
  refine V.if_eq 11 dX11_person_5 (by decide) (fun c1 => ?_) (fun c1 => ?_)
  · rw [if_pos c1] at hf
    refine V.iload_n dX11_person_11 rfl ?_
    by_cases c2 : v2 = 0
    · rw [if_pos c2] at hf
      refine V.tabIn (off := 44) 56 dX11_person_12 (by rw [c2]; decide) (by rw [c2]; decide) (by rw [c2]; rfl) (by decide) ?_
      refine V.aload_n dX11_person_56 rfl ?_
      refine V.getr fl_X11_30 dX11_person_57 (hx.1 0 (11, 0) rfl) (hx.2.1 0 4 12 rfl) (by decide) rfl ?_
      refine V.getr fl_X11_132 dX11_person_60 ((hx.2.2.1 12 rfl).1 0 (8, 0) rfl) ((hx.2.2.1 12 rfl).2 0 4 1 rfl) (by decide) rfl ?_
      refine V.iload_n dX11_person_63 rfl ?_
      obtain ⟨hb3, hf⟩ := chk_some hf
      refine V.iald dX11_person_64 ((hx.2.2.1 12 rfl).1 1 (20, 6) rfl) hb3 ?_
      obtain rfl := Option.some.inj hf
      exact V.iret dX11_person_65 rfl (Nat.le_refl _) (Nat.le_refl _) ⟨rfl, rfl⟩
    rw [if_neg c2] at hf
    by_cases c4 : v2 = 1
    · rw [if_pos c4] at hf
      refine V.tabIn (off := 54) 66 dX11_person_12 (by rw [c4]; decide) (by rw [c4]; decide) (by rw [c4]; rfl) (by decide) ?_
      refine V.aload_n dX11_person_66 rfl ?_
      refine V.getr fl_X11_23 dX11_person_67 (hx.1 0 (11, 0) rfl) hc (by decide) rfl ?_
      refine V.getr fl_X11_136 dX11_person_70 (hs_c.1.1 0 (1, 0) rfl) (hs_c.1.2 0 5 2 rfl) (by decide) rfl ?_
      refine V.iload_n dX11_person_73 rfl ?_
      obtain ⟨hb5, hf⟩ := chk_some hf
      refine V.iald dX11_person_74 (hs_c.1.1 2 (20, 6) rfl) hb5 ?_
      obtain rfl := Option.some.inj hf
      exact V.iret dX11_person_75 rfl (Nat.le_refl _) (Nat.le_refl _) ⟨rfl, rfl⟩
    rw [if_neg c4] at hf
    by_cases c6 : v2 = 2
    · rw [if_pos c6] at hf
      refine V.tabIn (off := 64) 76 dX11_person_12 (by rw [c6]; decide) (by rw [c6]; decide) (by rw [c6]; rfl) (by decide) ?_
      refine V.aload_n dX11_person_76 rfl ?_
      refine V.getr fl_X11_30 dX11_person_77 (hx.1 0 (11, 0) rfl) (hx.2.1 0 4 12 rfl) (by decide) rfl ?_
      refine V.iload_n dX11_person_80 rfl ?_
      refine V.inv cv_X11_139 (c_s_isUp (hx.2.2.1 12 rfl)) dX11_person_81 ((hx.2.2.1 12 rfl).1 0 (8, 0) rfl) (by decide) rfl rfl rfl (Nat.le_of_ble_eq_true rfl) (by decide) (by decide) (Nat.le_refl _) (Nat.le_refl _) (fun _ _ hq => ?_)
      obtain ⟨rfl, rfl⟩ := hq
      refine V.if_eq 91 dX11_person_84 (by decide) (fun c7 => ?_) (fun c7 => ?_)
      · rw [if_pos c7] at hf
        refine V.iconst (v := 0) dX11_person_91 (by decide) ?_
        obtain rfl := Option.some.inj hf
        exact V.iret dX11_person_92 rfl (Nat.le_refl _) (Nat.le_refl _) ⟨rfl, rfl⟩
      · rw [if_neg c7] at hf
        refine V.iconst (v := 1) dX11_person_87 (by decide) ?_
        refine V.goto 92 dX11_person_88 (by decide) ?_
        obtain rfl := Option.some.inj hf
        exact V.iret dX11_person_92 rfl (Nat.le_refl _) (Nat.le_refl _) ⟨rfl, rfl⟩
    rw [if_neg c6] at hf
    by_cases c8 : v2 = 3
    · rw [if_pos c8] at hf
      refine V.tabIn (off := 81) 93 dX11_person_12 (by rw [c8]; decide) (by rw [c8]; decide) (by rw [c8]; rfl) (by decide) ?_
      refine V.aload_n dX11_person_93 rfl ?_
      refine V.getr fl_X11_30 dX11_person_94 (hx.1 0 (11, 0) rfl) (hx.2.1 0 4 12 rfl) (by decide) rfl ?_
      refine V.getr fl_X11_142 dX11_person_97 ((hx.2.2.1 12 rfl).1 0 (8, 0) rfl) ((hx.2.2.1 12 rfl).2 0 8 5 rfl) (by decide) rfl ?_
      refine V.iload_n dX11_person_100 rfl ?_
      obtain ⟨hb9, hf⟩ := chk_some hf
      refine V.iald dX11_person_101 ((hx.2.2.1 12 rfl).1 5 (20, 6) rfl) hb9 ?_
      obtain rfl := Option.some.inj hf
      exact V.iret dX11_person_102 rfl (Nat.le_refl _) (Nat.le_refl _) ⟨rfl, rfl⟩
    rw [if_neg c8] at hf
    by_cases c10 : v2 = 4
    · rw [if_pos c10] at hf
      refine V.tabIn (off := 91) 103 dX11_person_12 (by rw [c10]; decide) (by rw [c10]; decide) (by rw [c10]; rfl) (by decide) ?_
      refine V.aload_n dX11_person_103 rfl ?_
      refine V.getr fl_X11_30 dX11_person_104 (hx.1 0 (11, 0) rfl) (hx.2.1 0 4 12 rfl) (by decide) rfl ?_
      refine V.iload_n dX11_person_107 rfl ?_
      obtain ⟨u13, hk12, hf⟩ := bnd_some hf
      try dsimp only at hf
      refine V.inv cv_X11_145 (c_s_placeOf (hx.2.2.1 12 rfl) hk12) dX11_person_108 ((hx.2.2.1 12 rfl).1 0 (8, 0) rfl) (by decide) rfl rfl rfl (Nat.le_of_ble_eq_true rfl) (by decide) (by decide) (Nat.le_refl _) (Nat.le_refl _) (fun _ _ hq => ?_)
      obtain ⟨rfl, rfl⟩ := hq
      obtain rfl := Option.some.inj hf
      exact V.iret dX11_person_111 rfl (Nat.le_refl _) (Nat.le_refl _) ⟨rfl, rfl⟩
    rw [if_neg c10] at hf
    by_cases c14 : v2 = 5
    · rw [if_pos c14] at hf
      refine V.tabIn (off := 100) 112 dX11_person_12 (by rw [c14]; decide) (by rw [c14]; decide) (by rw [c14]; rfl) (by decide) ?_
      refine V.aload_n dX11_person_112 rfl ?_
      refine V.getr fl_X11_30 dX11_person_113 (hx.1 0 (11, 0) rfl) (hx.2.1 0 4 12 rfl) (by decide) rfl ?_
      refine V.getr fl_X11_149 dX11_person_116 ((hx.2.2.1 12 rfl).1 0 (8, 0) rfl) ((hx.2.2.1 12 rfl).2 0 5 2 rfl) (by decide) rfl ?_
      refine V.iload_n dX11_person_119 rfl ?_
      obtain ⟨hb15, hf⟩ := chk_some hf
      refine V.iald dX11_person_120 ((hx.2.2.1 12 rfl).1 2 (20, 6) rfl) hb15 ?_
      obtain rfl := Option.some.inj hf
      exact V.iret dX11_person_121 rfl (Nat.le_refl _) (Nat.le_refl _) ⟨rfl, rfl⟩
    rw [if_neg c14] at hf
    by_cases c16 : v2 = 6
    · rw [if_pos c16] at hf
      refine V.tabIn (off := 110) 122 dX11_person_12 (by rw [c16]; decide) (by rw [c16]; decide) (by rw [c16]; rfl) (by decide) ?_
      refine V.aload_n dX11_person_122 rfl ?_
      refine V.getr fl_X11_30 dX11_person_123 (hx.1 0 (11, 0) rfl) (hx.2.1 0 4 12 rfl) (by decide) rfl ?_
      refine V.iload_n dX11_person_126 rfl ?_
      refine V.inv cv_X11_139 (c_s_isUp (hx.2.2.1 12 rfl)) dX11_person_127 ((hx.2.2.1 12 rfl).1 0 (8, 0) rfl) (by decide) rfl rfl rfl (Nat.le_of_ble_eq_true rfl) (by decide) (by decide) (Nat.le_refl _) (Nat.le_refl _) (fun _ _ hq => ?_)
      obtain ⟨rfl, rfl⟩ := hq
      refine V.if_eq 137 dX11_person_130 (by decide) (fun c17 => ?_) (fun c17 => ?_)
      · rw [if_pos c17] at hf
        refine V.aload_n dX11_person_137 rfl ?_
        refine V.getr fl_X11_30 dX11_person_138 (hx.1 0 (11, 0) rfl) (hx.2.1 0 4 12 rfl) (by decide) rfl ?_
        refine V.getr fl_X11_152 dX11_person_141 ((hx.2.2.1 12 rfl).1 0 (8, 0) rfl) ((hx.2.2.1 12 rfl).2 0 6 3 rfl) (by decide) rfl ?_
        refine V.iload_n dX11_person_144 rfl ?_
        obtain ⟨hb18, hf⟩ := chk_some hf
        refine V.iald dX11_person_145 ((hx.2.2.1 12 rfl).1 3 (20, 6) rfl) hb18 ?_
        obtain rfl := Option.some.inj hf
        exact V.iret dX11_person_146 rfl (Nat.le_refl _) (Nat.le_refl _) ⟨rfl, rfl⟩
      · rw [if_neg c17] at hf
        refine V.iconst (v := -1) dX11_person_133 (by decide) ?_
        refine V.goto 146 dX11_person_134 (by decide) ?_
        obtain rfl := Option.some.inj hf
        exact V.iret dX11_person_146 rfl (Nat.le_refl _) (Nat.le_refl _) ⟨rfl, rfl⟩
    rw [if_neg c16] at hf
    refine V.tabOut 147 dX11_person_12 (by have c2_ := sw_ne c2 (j := 0) (by decide); have c4_ := sw_ne c4 (j := 1) (by decide); have c6_ := sw_ne c6 (j := 2) (by decide); have c8_ := sw_ne c8 (j := 3) (by decide); have c10_ := sw_ne c10 (j := 4) (by decide); have c14_ := sw_ne c14 (j := 5) (by decide); have c16_ := sw_ne c16 (j := 6) (by decide); omega) (by decide) ?_
    refine V.ldc dX11_person_147 kc_X11_131 ?_
    obtain rfl := Option.some.inj hf
    exact V.iret dX11_person_149 rfl (Nat.le_refl _) (Nat.le_refl _) ⟨rfl, rfl⟩
  · rw [if_neg c1] at hf
    refine V.ldc dX11_person_8 kc_X11_131 ?_
    obtain rfl := Option.some.inj hf
    exact V.iret dX11_person_10 rfl (Nat.le_refl _) (Nat.le_refl _) ⟨rfl, rfl⟩
theorem dX11_tires_0 : decode cX11_tires 0 = .ok (.aload_n 0, 1) := by decide +kernel
theorem dX11_tires_1 : decode cX11_tires 1 = .ok (.iload_n 1, 1) := by decide +kernel
theorem dX11_tires_2 : decode cX11_tires 2 = .ok (.invokevirtual 127, 3) := by decide +kernel
theorem dX11_tires_5 : decode cX11_tires 5 = .ok (.ifCond .ne 11, 3) := by decide +kernel
theorem dX11_tires_8 : decode cX11_tires 8 = .ok (.aload_n 0, 1) := by decide +kernel
theorem dX11_tires_9 : decode cX11_tires 9 = .ok (.iload_n 2, 1) := by decide +kernel
theorem dX11_tires_10 : decode cX11_tires 10 = .ok (.invokevirtual 155, 3) := by decide +kernel
theorem dX11_tires_13 : decode cX11_tires 13 = .ok (.ifCond .eq 6, 3) := by decide +kernel
theorem dX11_tires_16 : decode cX11_tires 16 = .ok (.bipush (-2), 2) := by decide +kernel
theorem dX11_tires_18 : decode cX11_tires 18 = .ok (.ireturn, 1) := by decide +kernel
theorem dX11_tires_19 : decode cX11_tires 19 = .ok (.aload_n 0, 1) := by decide +kernel
theorem dX11_tires_20 : decode cX11_tires 20 = .ok (.getfield 30, 3) := by decide +kernel
theorem dX11_tires_23 : decode cX11_tires 23 = .ok (.iload_n 1, 1) := by decide +kernel
theorem dX11_tires_24 : decode cX11_tires 24 = .ok (.invokevirtual 139, 3) := by decide +kernel
theorem dX11_tires_27 : decode cX11_tires 27 = .ok (.ifCond .eq 19, 3) := by decide +kernel
theorem dX11_tires_30 : decode cX11_tires 30 = .ok (.aload_n 0, 1) := by decide +kernel
theorem dX11_tires_31 : decode cX11_tires 31 = .ok (.getfield 23, 3) := by decide +kernel
theorem dX11_tires_34 : decode cX11_tires 34 = .ok (.aload_n 0, 1) := by decide +kernel
theorem dX11_tires_35 : decode cX11_tires 35 = .ok (.getfield 30, 3) := by decide +kernel
theorem dX11_tires_38 : decode cX11_tires 38 = .ok (.iload_n 1, 1) := by decide +kernel
theorem dX11_tires_39 : decode cX11_tires 39 = .ok (.iload_n 2, 1) := by decide +kernel
theorem dX11_tires_40 : decode cX11_tires 40 = .ok (.invokevirtual 158, 3) := by decide +kernel
theorem dX11_tires_43 : decode cX11_tires 43 = .ok (.goto 4, 3) := by decide +kernel
theorem dX11_tires_46 : decode cX11_tires 46 = .ok (.iconst 0, 1) := by decide +kernel
theorem dX11_tires_47 : decode cX11_tires 47 = .ok (.ireturn, 1) := by decide +kernel
def x_tires (F : Nat) (T : Nat → Option (Nat × Nat)) (I : Nat → Nat → Int32) (P : Nat → Nat → Option Nat) (x : Nat) (c : Nat) (v1 : Int32) (v2 : Int32) : Option (Int32 × (Nat → Nat → Int32)) := if (x_noPerson I x c v1) = 0 then (if (x_noTune I x c v2) = 0 then (if (s_isUp I (x + 12) v1) = 0 then (some (0, I)) else ((ct_tiring F T I P c (x + 12) v1 v2).bind (fun q4 => let u6 := q4.1; let I7 := q4.2; some (u6, I7)))) else (some ((-2), I))) else (some ((-2), I))
theorem c_x_tires {l : Launch} {D : va_G} {E : Nat → ClassId} {B : Nat → Prop} {n F : Nat} {T : Nat → Option (Nat × Nat)} {I : Nat → Nat → Int32} {J : Nat → Nat → Int64} {P : Nat → Nat → Option Nat} {x : Nat} {c : Nat} {v1 : Int32} {v2 : Int32} {r : Int32 × (Nat → Nat → Int32)} (hx : isSR T P x) (hs_c : isCt T P c) (hc : P x 3 = some c) (hf : x_tires F T I P x c v1 v2 = some r) : Ct l D E B yX11_tires cX11_tires 3 (some .int) 4 0 0 [.ref x, .int v1, .int v2] (n, T, I, J, P) (Ret (some (.int r.1)) (n, T, r.2, J, P)) := by
  unfold x_tires at hf
  refine Ct.ofV (by decide) (Nat.le_of_ble_eq_true rfl) ?_
  refine V.aload_n dX11_tires_0 rfl ?_
  refine V.iload_n dX11_tires_1 rfl ?_
  refine V.inv cv_X11_127 (c_x_noPerson hx hs_c hc) dX11_tires_2 (hx.1 0 (11, 0) rfl) (by decide) rfl rfl rfl (Nat.le_of_ble_eq_true rfl) (by decide) (by decide) (Nat.le_refl _) (Nat.le_refl _) (fun _ _ hq => ?_)
  obtain ⟨rfl, rfl⟩ := hq
  refine V.if_ne 16 dX11_tires_5 (by decide) (fun c1 => ?_) (fun c1 => ?_)
  · rw [if_neg c1] at hf
    refine V.bipush (v := -2) dX11_tires_16 (by decide) ?_
    obtain rfl := Option.some.inj hf
    exact V.iret dX11_tires_18 rfl (Nat.le_refl _) (Nat.le_refl _) ⟨rfl, rfl⟩
  · rw [if_pos c1] at hf
    refine V.aload_n dX11_tires_8 rfl ?_
    refine V.iload_n dX11_tires_9 rfl ?_
    refine V.inv cv_X11_155 (c_x_noTune hx hs_c hc) dX11_tires_10 (hx.1 0 (11, 0) rfl) (by decide) rfl rfl rfl (Nat.le_of_ble_eq_true rfl) (by decide) (by decide) (Nat.le_refl _) (Nat.le_refl _) (fun _ _ hq => ?_)
    obtain ⟨rfl, rfl⟩ := hq
    refine V.if_eq 19 dX11_tires_13 (by decide) (fun c2 => ?_) (fun c2 => ?_)
    · rw [if_pos c2] at hf
      refine V.aload_n dX11_tires_19 rfl ?_
      refine V.getr fl_X11_30 dX11_tires_20 (hx.1 0 (11, 0) rfl) (hx.2.1 0 4 12 rfl) (by decide) rfl ?_
      refine V.iload_n dX11_tires_23 rfl ?_
      refine V.inv cv_X11_139 (c_s_isUp (hx.2.2.1 12 rfl)) dX11_tires_24 ((hx.2.2.1 12 rfl).1 0 (8, 0) rfl) (by decide) rfl rfl rfl (Nat.le_of_ble_eq_true rfl) (by decide) (by decide) (Nat.le_refl _) (Nat.le_refl _) (fun _ _ hq => ?_)
      obtain ⟨rfl, rfl⟩ := hq
      refine V.if_eq 46 dX11_tires_27 (by decide) (fun c3 => ?_) (fun c3 => ?_)
      · rw [if_pos c3] at hf
        refine V.iconst (v := 0) dX11_tires_46 (by decide) ?_
        obtain rfl := Option.some.inj hf
        exact V.iret dX11_tires_47 rfl (Nat.le_refl _) (Nat.le_refl _) ⟨rfl, rfl⟩
      · rw [if_neg c3] at hf
        refine V.aload_n dX11_tires_30 rfl ?_
        refine V.getr fl_X11_23 dX11_tires_31 (hx.1 0 (11, 0) rfl) hc (by decide) rfl ?_
        refine V.aload_n dX11_tires_34 rfl ?_
        refine V.getr fl_X11_30 dX11_tires_35 (hx.1 0 (11, 0) rfl) (hx.2.1 0 4 12 rfl) (by decide) rfl ?_
        refine V.iload_n dX11_tires_38 rfl ?_
        refine V.iload_n dX11_tires_39 rfl ?_
        obtain ⟨⟨u6, I7⟩, hk5, hf⟩ := bnd_some hf
        try dsimp only at hf
        refine V.inv cv_X11_158 (c_ct_tiring hs_c (hx.2.2.1 12 rfl) hk5) dX11_tires_40 (hs_c.1.1 0 (1, 0) rfl) (by decide) rfl rfl rfl (Nat.le_of_ble_eq_true rfl) (by decide) (by decide) (Nat.le_refl _) (Nat.le_refl _) (fun _ _ hq => ?_)
        obtain ⟨rfl, rfl⟩ := hq
        try dsimp only
        refine V.goto 47 dX11_tires_43 (by decide) ?_
        obtain rfl := Option.some.inj hf
        exact V.iret dX11_tires_47 rfl (Nat.le_refl _) (Nat.le_refl _) ⟨rfl, rfl⟩
    · rw [if_neg c2] at hf
      refine V.bipush (v := -2) dX11_tires_16 (by decide) ?_
      obtain rfl := Option.some.inj hf
      exact V.iret dX11_tires_18 rfl (Nat.le_refl _) (Nat.le_refl _) ⟨rfl, rfl⟩
theorem dX11_office_0 : decode cX11_office 0 = .ok (.iload_n 1, 1) := by decide +kernel
theorem dX11_office_1 : decode cX11_office 1 = .ok (.ifCond .lt 9, 3) := by decide +kernel
theorem dX11_office_4 : decode cX11_office 4 = .ok (.iload_n 1, 1) := by decide +kernel
theorem dX11_office_5 : decode cX11_office 5 = .ok (.bipush 6, 2) := by decide +kernel
theorem dX11_office_7 : decode cX11_office 7 = .ok (.if_icmp .lt 8, 3) := by decide +kernel
theorem dX11_office_10 : decode cX11_office 10 = .ok (.bipush (-2), 2) := by decide +kernel
theorem dX11_office_12 : decode cX11_office 12 = .ok (.goto 12, 3) := by decide +kernel
theorem dX11_office_15 : decode cX11_office 15 = .ok (.aload_n 0, 1) := by decide +kernel
theorem dX11_office_16 : decode cX11_office 16 = .ok (.getfield 23, 3) := by decide +kernel
theorem dX11_office_19 : decode cX11_office 19 = .ok (.getfield 162, 3) := by decide +kernel
theorem dX11_office_22 : decode cX11_office 22 = .ok (.iload_n 1, 1) := by decide +kernel
theorem dX11_office_23 : decode cX11_office 23 = .ok (.iaload, 1) := by decide +kernel
theorem dX11_office_24 : decode cX11_office 24 = .ok (.ireturn, 1) := by decide +kernel
def x_office (I : Nat → Nat → Int32) (x : Nat) (c : Nat) (v1 : Int32) : Option (Int32) := if v1 < 0 then (some (-2)) else (if v1 < 6 then (chk v1 6 (some (I (c + 4) (Int32.toNatClampNeg v1)))) else (some (-2)))
theorem c_x_office {l : Launch} {D : va_G} {E : Nat → ClassId} {B : Nat → Prop} {n : Nat} {T : Nat → Option (Nat × Nat)} {I : Nat → Nat → Int32} {J : Nat → Nat → Int64} {P : Nat → Nat → Option Nat} {x : Nat} {c : Nat} {v1 : Int32} {r : Int32} (hx : isSR T P x) (hs_c : isCt T P c) (hc : P x 3 = some c) (hf : x_office I x c v1 = some r) : Ct l D E B yX11_office cX11_office 2 (some .int) 0 0 0 [.ref x, .int v1] (n, T, I, J, P) (Ret (some (.int r)) (n, T, I, J, P)) := by
  unfold x_office at hf
  refine Ct.ofV (by decide) (Nat.le_of_ble_eq_true rfl) ?_
  refine V.iload_n dX11_office_0 rfl ?_
  refine V.if_lt 10 dX11_office_1 (by decide) (fun c1 => ?_) (fun c1 => ?_)
  · rw [if_pos c1] at hf
    refine V.bipush (v := -2) dX11_office_10 (by decide) ?_
    refine V.goto 24 dX11_office_12 (by decide) ?_
    obtain rfl := Option.some.inj hf
    exact V.iret dX11_office_24 rfl (Nat.le_refl _) (Nat.le_refl _) ⟨rfl, rfl⟩
  · rw [if_neg c1] at hf
    refine V.iload_n dX11_office_4 rfl ?_
    refine V.bipush (v := 6) dX11_office_5 (by decide) ?_
    refine V.icmp_lt 15 dX11_office_7 (by decide) (fun c2 => ?_) (fun c2 => ?_)
    · rw [if_pos c2] at hf
      refine V.aload_n dX11_office_15 rfl ?_
      refine V.getr fl_X11_23 dX11_office_16 (hx.1 0 (11, 0) rfl) hc (by decide) rfl ?_
      refine V.getr fl_X11_162 dX11_office_19 (hs_c.1.1 0 (1, 0) rfl) (hs_c.1.2 0 7 4 rfl) (by decide) rfl ?_
      refine V.iload_n dX11_office_22 rfl ?_
      obtain ⟨hb3, hf⟩ := chk_some hf
      refine V.iald dX11_office_23 (hs_c.1.1 4 (20, 6) rfl) hb3 ?_
      obtain rfl := Option.some.inj hf
      exact V.iret dX11_office_24 rfl (Nat.le_refl _) (Nat.le_refl _) ⟨rfl, rfl⟩
    · rw [if_neg c2] at hf
      refine V.bipush (v := -2) dX11_office_10 (by decide) ?_
      refine V.goto 24 dX11_office_12 (by decide) ?_
      obtain rfl := Option.some.inj hf
      exact V.iret dX11_office_24 rfl (Nat.le_refl _) (Nat.le_refl _) ⟨rfl, rfl⟩
theorem dX11_spot_0 : decode cX11_spot 0 = .ok (.aload_n 0, 1) := by decide +kernel
theorem dX11_spot_1 : decode cX11_spot 1 = .ok (.iload_n 1, 1) := by decide +kernel
theorem dX11_spot_2 : decode cX11_spot 2 = .ok (.invokevirtual 127, 3) := by decide +kernel
theorem dX11_spot_5 : decode cX11_spot 5 = .ok (.ifCond .eq 8, 3) := by decide +kernel
theorem dX11_spot_8 : decode cX11_spot 8 = .ok (.bipush (-2), 2) := by decide +kernel
theorem dX11_spot_10 : decode cX11_spot 10 = .ok (.goto 12, 3) := by decide +kernel
theorem dX11_spot_13 : decode cX11_spot 13 = .ok (.aload_n 0, 1) := by decide +kernel
theorem dX11_spot_14 : decode cX11_spot 14 = .ok (.getfield 30, 3) := by decide +kernel
theorem dX11_spot_17 : decode cX11_spot 17 = .ok (.getfield 165, 3) := by decide +kernel
theorem dX11_spot_20 : decode cX11_spot 20 = .ok (.iload_n 1, 1) := by decide +kernel
theorem dX11_spot_21 : decode cX11_spot 21 = .ok (.iaload, 1) := by decide +kernel
theorem dX11_spot_22 : decode cX11_spot 22 = .ok (.ireturn, 1) := by decide +kernel
def x_spot (I : Nat → Nat → Int32) (x : Nat) (c : Nat) (v1 : Int32) : Option (Int32) := if (x_noPerson I x c v1) = 0 then (chk v1 6 (some (I ((x + 12) + 6) (Int32.toNatClampNeg v1)))) else (some (-2))
theorem c_x_spot {l : Launch} {D : va_G} {E : Nat → ClassId} {B : Nat → Prop} {n : Nat} {T : Nat → Option (Nat × Nat)} {I : Nat → Nat → Int32} {J : Nat → Nat → Int64} {P : Nat → Nat → Option Nat} {x : Nat} {c : Nat} {v1 : Int32} {r : Int32} (hx : isSR T P x) (hs_c : isCt T P c) (hc : P x 3 = some c) (hf : x_spot I x c v1 = some r) : Ct l D E B yX11_spot cX11_spot 2 (some .int) 1 0 0 [.ref x, .int v1] (n, T, I, J, P) (Ret (some (.int r)) (n, T, I, J, P)) := by
  unfold x_spot at hf
  refine Ct.ofV (by decide) (Nat.le_of_ble_eq_true rfl) ?_
  refine V.aload_n dX11_spot_0 rfl ?_
  refine V.iload_n dX11_spot_1 rfl ?_
  refine V.inv cv_X11_127 (c_x_noPerson hx hs_c hc) dX11_spot_2 (hx.1 0 (11, 0) rfl) (by decide) rfl rfl rfl (Nat.le_of_ble_eq_true rfl) (by decide) (by decide) (Nat.le_refl _) (Nat.le_refl _) (fun _ _ hq => ?_)
  obtain ⟨rfl, rfl⟩ := hq
  refine V.if_eq 13 dX11_spot_5 (by decide) (fun c1 => ?_) (fun c1 => ?_)
  · rw [if_pos c1] at hf
    refine V.aload_n dX11_spot_13 rfl ?_
    refine V.getr fl_X11_30 dX11_spot_14 (hx.1 0 (11, 0) rfl) (hx.2.1 0 4 12 rfl) (by decide) rfl ?_
    refine V.getr fl_X11_165 dX11_spot_17 ((hx.2.2.1 12 rfl).1 0 (8, 0) rfl) ((hx.2.2.1 12 rfl).2 0 9 6 rfl) (by decide) rfl ?_
    refine V.iload_n dX11_spot_20 rfl ?_
    obtain ⟨hb2, hf⟩ := chk_some hf
    refine V.iald dX11_spot_21 ((hx.2.2.1 12 rfl).1 6 (20, 6) rfl) hb2 ?_
    obtain rfl := Option.some.inj hf
    exact V.iret dX11_spot_22 rfl (Nat.le_refl _) (Nat.le_refl _) ⟨rfl, rfl⟩
  · rw [if_neg c1] at hf
    refine V.bipush (v := -2) dX11_spot_8 (by decide) ?_
    refine V.goto 22 dX11_spot_10 (by decide) ?_
    obtain rfl := Option.some.inj hf
    exact V.iret dX11_spot_22 rfl (Nat.le_refl _) (Nat.le_refl _) ⟨rfl, rfl⟩
theorem dX11_doMinute_0 : decode cX11_doMinute 0 = .ok (.aload_n 0, 1) := by decide +kernel
theorem dX11_doMinute_1 : decode cX11_doMinute 1 = .ok (.iload_n 2, 1) := by decide +kernel
theorem dX11_doMinute_2 : decode cX11_doMinute 2 = .ok (.invokevirtual 155, 3) := by decide +kernel
theorem dX11_doMinute_5 : decode cX11_doMinute 5 = .ok (.ifCond .eq 5, 3) := by decide +kernel
theorem dX11_doMinute_8 : decode cX11_doMinute 8 = .ok (.iconst 1, 1) := by decide +kernel
theorem dX11_doMinute_9 : decode cX11_doMinute 9 = .ok (.ireturn, 1) := by decide +kernel
theorem dX11_doMinute_10 : decode cX11_doMinute 10 = .ok (.aload_n 1, 1) := by decide +kernel
theorem dX11_doMinute_11 : decode cX11_doMinute 11 = .ok (.aload_n 0, 1) := by decide +kernel
theorem dX11_doMinute_12 : decode cX11_doMinute 12 = .ok (.getfield 23, 3) := by decide +kernel
theorem dX11_doMinute_15 : decode cX11_doMinute 15 = .ok (.iload_n 2, 1) := by decide +kernel
theorem dX11_doMinute_16 : decode cX11_doMinute 16 = .ok (.iconst 1, 1) := by decide +kernel
theorem dX11_doMinute_17 : decode cX11_doMinute 17 = .ok (.invokevirtual 257, 3) := by decide +kernel
theorem dX11_doMinute_20 : decode cX11_doMinute 20 = .ok (.iconst 0, 1) := by decide +kernel
theorem dX11_doMinute_21 : decode cX11_doMinute 21 = .ok (.ireturn, 1) := by decide +kernel
def x_doMinute (F : Nat) (T : Nat → Option (Nat × Nat)) (I : Nat → Nat → Int32) (P : Nat → Nat → Option Nat) (x : Nat) (a : Nat) (c : Nat) (v2 : Int32) : Option (Int32 × (Nat → Nat → Int32)) := if (x_noTune I x c v2) = 0 then ((s_playMinute F T I P a c v2 1).bind (fun q2 => let I4 := q2; some (0, I4))) else (some (1, I))
theorem c_x_doMinute {l : Launch} {D : va_G} {E : Nat → ClassId} {B : Nat → Prop} {n F : Nat} {T : Nat → Option (Nat × Nat)} {I : Nat → Nat → Int32} {J : Nat → Nat → Int64} {P : Nat → Nat → Option Nat} {x : Nat} {a : Nat} {c : Nat} {v2 : Int32} {r : Int32 × (Nat → Nat → Int32)} (hx : isSR T P x) (hs_a : isSt T P a) (hs_c : isCt T P c) (hc : P x 3 = some c) (hf : x_doMinute F T I P x a c v2 = some r) : Ct l D E B yX11_doMinute cX11_doMinute 3 (some .int) 4 0 0 [.ref x, .ref a, .int v2] (n, T, I, J, P) (Ret (some (.int r.1)) (n, T, r.2, J, P)) := by
  unfold x_doMinute at hf
  refine Ct.ofV (by decide) (Nat.le_of_ble_eq_true rfl) ?_
  refine V.aload_n dX11_doMinute_0 rfl ?_
  refine V.iload_n dX11_doMinute_1 rfl ?_
  refine V.inv cv_X11_155 (c_x_noTune hx hs_c hc) dX11_doMinute_2 (hx.1 0 (11, 0) rfl) (by decide) rfl rfl rfl (Nat.le_of_ble_eq_true rfl) (by decide) (by decide) (Nat.le_refl _) (Nat.le_refl _) (fun _ _ hq => ?_)
  obtain ⟨rfl, rfl⟩ := hq
  refine V.if_eq 10 dX11_doMinute_5 (by decide) (fun c1 => ?_) (fun c1 => ?_)
  · rw [if_pos c1] at hf
    refine V.aload_n dX11_doMinute_10 rfl ?_
    refine V.aload_n dX11_doMinute_11 rfl ?_
    refine V.getr fl_X11_23 dX11_doMinute_12 (hx.1 0 (11, 0) rfl) hc (by decide) rfl ?_
    refine V.iload_n dX11_doMinute_15 rfl ?_
    refine V.iconst (v := 1) dX11_doMinute_16 (by decide) ?_
    obtain ⟨I4, hk3, hf⟩ := bnd_some hf
    try dsimp only at hf
    refine V.inv cv_X11_257 (c_s_playMinute hs_a hs_c hk3) dX11_doMinute_17 (hs_a.1 0 (8, 0) rfl) (by decide) rfl rfl rfl (Nat.le_of_ble_eq_true rfl) (by decide) (by decide) (Nat.le_refl _) (Nat.le_refl _) (fun _ _ hq => ?_)
    obtain ⟨rfl, rfl⟩ := hq
    refine V.iconst (v := 0) dX11_doMinute_20 (by decide) ?_
    obtain rfl := Option.some.inj hf
    exact V.iret dX11_doMinute_21 rfl (Nat.le_refl _) (Nat.le_refl _) ⟨rfl, rfl⟩
  · rw [if_neg c1] at hf
    refine V.iconst (v := 1) dX11_doMinute_8 (by decide) ?_
    obtain rfl := Option.some.inj hf
    exact V.iret dX11_doMinute_9 rfl (Nat.le_refl _) (Nat.le_refl _) ⟨rfl, rfl⟩
theorem dX11_doSit_0 : decode cX11_doSit 0 = .ok (.aload_n 0, 1) := by decide +kernel
theorem dX11_doSit_1 : decode cX11_doSit 1 = .ok (.iload_n 2, 1) := by decide +kernel
theorem dX11_doSit_2 : decode cX11_doSit 2 = .ok (.invokevirtual 127, 3) := by decide +kernel
theorem dX11_doSit_5 : decode cX11_doSit 5 = .ok (.ifCond .eq 5, 3) := by decide +kernel
theorem dX11_doSit_8 : decode cX11_doSit 8 = .ok (.iconst 1, 1) := by decide +kernel
theorem dX11_doSit_9 : decode cX11_doSit 9 = .ok (.ireturn, 1) := by decide +kernel
theorem dX11_doSit_10 : decode cX11_doSit 10 = .ok (.aload_n 1, 1) := by decide +kernel
theorem dX11_doSit_11 : decode cX11_doSit 11 = .ok (.iload_n 2, 1) := by decide +kernel
theorem dX11_doSit_12 : decode cX11_doSit 12 = .ok (.invokevirtual 139, 3) := by decide +kernel
theorem dX11_doSit_15 : decode cX11_doSit 15 = .ok (.ifCond .ne 5, 3) := by decide +kernel
theorem dX11_doSit_18 : decode cX11_doSit 18 = .ok (.iconst 2, 1) := by decide +kernel
theorem dX11_doSit_19 : decode cX11_doSit 19 = .ok (.ireturn, 1) := by decide +kernel
theorem dX11_doSit_20 : decode cX11_doSit 20 = .ok (.aload_n 1, 1) := by decide +kernel
theorem dX11_doSit_21 : decode cX11_doSit 21 = .ok (.iload_n 2, 1) := by decide +kernel
theorem dX11_doSit_22 : decode cX11_doSit 22 = .ok (.invokevirtual 261, 3) := by decide +kernel
theorem dX11_doSit_25 : decode cX11_doSit 25 = .ok (.iconst 0, 1) := by decide +kernel
theorem dX11_doSit_26 : decode cX11_doSit 26 = .ok (.ireturn, 1) := by decide +kernel
def x_doSit (I : Nat → Nat → Int32) (x : Nat) (a : Nat) (c : Nat) (v2 : Int32) : Option (Int32 × (Nat → Nat → Int32)) := if (x_noPerson I x c v2) = 0 then (if (s_isUp I a v2) = 0 then (some (2, I)) else ((s_seat I a v2).bind (fun q3 => let I5 := q3; some (0, I5)))) else (some (1, I))
theorem c_x_doSit {l : Launch} {D : va_G} {E : Nat → ClassId} {B : Nat → Prop} {n : Nat} {T : Nat → Option (Nat × Nat)} {I : Nat → Nat → Int32} {J : Nat → Nat → Int64} {P : Nat → Nat → Option Nat} {x : Nat} {a : Nat} {c : Nat} {v2 : Int32} {r : Int32 × (Nat → Nat → Int32)} (hx : isSR T P x) (hs_a : isSt T P a) (hs_c : isCt T P c) (hc : P x 3 = some c) (hf : x_doSit I x a c v2 = some r) : Ct l D E B yX11_doSit cX11_doSit 3 (some .int) 1 0 0 [.ref x, .ref a, .int v2] (n, T, I, J, P) (Ret (some (.int r.1)) (n, T, r.2, J, P)) := by
  unfold x_doSit at hf
  refine Ct.ofV (by decide) (Nat.le_of_ble_eq_true rfl) ?_
  refine V.aload_n dX11_doSit_0 rfl ?_
  refine V.iload_n dX11_doSit_1 rfl ?_
  refine V.inv cv_X11_127 (c_x_noPerson hx hs_c hc) dX11_doSit_2 (hx.1 0 (11, 0) rfl) (by decide) rfl rfl rfl (Nat.le_of_ble_eq_true rfl) (by decide) (by decide) (Nat.le_refl _) (Nat.le_refl _) (fun _ _ hq => ?_)
  obtain ⟨rfl, rfl⟩ := hq
  refine V.if_eq 10 dX11_doSit_5 (by decide) (fun c1 => ?_) (fun c1 => ?_)
  · rw [if_pos c1] at hf
    refine V.aload_n dX11_doSit_10 rfl ?_
    refine V.iload_n dX11_doSit_11 rfl ?_
    refine V.inv cv_X11_139 (c_s_isUp hs_a) dX11_doSit_12 (hs_a.1 0 (8, 0) rfl) (by decide) rfl rfl rfl (Nat.le_of_ble_eq_true rfl) (by decide) (by decide) (Nat.le_refl _) (Nat.le_refl _) (fun _ _ hq => ?_)
    obtain ⟨rfl, rfl⟩ := hq
    refine V.if_ne 20 dX11_doSit_15 (by decide) (fun c2 => ?_) (fun c2 => ?_)
    · rw [if_neg c2] at hf
      refine V.aload_n dX11_doSit_20 rfl ?_
      refine V.iload_n dX11_doSit_21 rfl ?_
      obtain ⟨I5, hk4, hf⟩ := bnd_some hf
      try dsimp only at hf
      refine V.inv cv_X11_261 (c_s_seat hs_a hk4) dX11_doSit_22 (hs_a.1 0 (8, 0) rfl) (by decide) rfl rfl rfl (Nat.le_of_ble_eq_true rfl) (by decide) (by decide) (Nat.le_refl _) (Nat.le_refl _) (fun _ _ hq => ?_)
      obtain ⟨rfl, rfl⟩ := hq
      refine V.iconst (v := 0) dX11_doSit_25 (by decide) ?_
      obtain rfl := Option.some.inj hf
      exact V.iret dX11_doSit_26 rfl (Nat.le_refl _) (Nat.le_refl _) ⟨rfl, rfl⟩
    · rw [if_pos c2] at hf
      refine V.iconst (v := 2) dX11_doSit_18 (by decide) ?_
      obtain rfl := Option.some.inj hf
      exact V.iret dX11_doSit_19 rfl (Nat.le_refl _) (Nat.le_refl _) ⟨rfl, rfl⟩
  · rw [if_neg c1] at hf
    refine V.iconst (v := 1) dX11_doSit_8 (by decide) ?_
    obtain rfl := Option.some.inj hf
    exact V.iret dX11_doSit_9 rfl (Nat.le_refl _) (Nat.le_refl _) ⟨rfl, rfl⟩
theorem dX11_doChange_0 : decode cX11_doChange 0 = .ok (.aload_n 0, 1) := by decide +kernel
theorem dX11_doChange_1 : decode cX11_doChange 1 = .ok (.iload_n 2, 1) := by decide +kernel
theorem dX11_doChange_2 : decode cX11_doChange 2 = .ok (.invokevirtual 127, 3) := by decide +kernel
theorem dX11_doChange_5 : decode cX11_doChange 5 = .ok (.ifCond .ne 16, 3) := by decide +kernel
theorem dX11_doChange_8 : decode cX11_doChange 8 = .ok (.aload_n 0, 1) := by decide +kernel
theorem dX11_doChange_9 : decode cX11_doChange 9 = .ok (.iload_n 3, 1) := by decide +kernel
theorem dX11_doChange_10 : decode cX11_doChange 10 = .ok (.invokevirtual 127, 3) := by decide +kernel
theorem dX11_doChange_13 : decode cX11_doChange 13 = .ok (.ifCond .ne 8, 3) := by decide +kernel
theorem dX11_doChange_16 : decode cX11_doChange 16 = .ok (.iload_n 2, 1) := by decide +kernel
theorem dX11_doChange_17 : decode cX11_doChange 17 = .ok (.iload_n 3, 1) := by decide +kernel
theorem dX11_doChange_18 : decode cX11_doChange 18 = .ok (.if_icmp .ne 5, 3) := by decide +kernel
theorem dX11_doChange_21 : decode cX11_doChange 21 = .ok (.iconst 1, 1) := by decide +kernel
theorem dX11_doChange_22 : decode cX11_doChange 22 = .ok (.ireturn, 1) := by decide +kernel
theorem dX11_doChange_23 : decode cX11_doChange 23 = .ok (.aload_n 1, 1) := by decide +kernel
theorem dX11_doChange_24 : decode cX11_doChange 24 = .ok (.iload_n 2, 1) := by decide +kernel
theorem dX11_doChange_25 : decode cX11_doChange 25 = .ok (.iload_n 3, 1) := by decide +kernel
theorem dX11_doChange_26 : decode cX11_doChange 26 = .ok (.invokevirtual 264, 3) := by decide +kernel
theorem dX11_doChange_29 : decode cX11_doChange 29 = .ok (.iconst 0, 1) := by decide +kernel
theorem dX11_doChange_30 : decode cX11_doChange 30 = .ok (.ireturn, 1) := by decide +kernel
def x_doChange (I : Nat → Nat → Int32) (x : Nat) (a : Nat) (c : Nat) (v2 : Int32) (v3 : Int32) : Option (Int32 × (Nat → Nat → Int32)) := if (x_noPerson I x c v2) = 0 then (if (x_noPerson I x c v3) = 0 then (if v2 = v3 then (some (1, I)) else ((s_exchange I a v2 v3).bind (fun q4 => let I6 := q4; some (0, I6)))) else (some (1, I))) else (some (1, I))
theorem c_x_doChange {l : Launch} {D : va_G} {E : Nat → ClassId} {B : Nat → Prop} {n : Nat} {T : Nat → Option (Nat × Nat)} {I : Nat → Nat → Int32} {J : Nat → Nat → Int64} {P : Nat → Nat → Option Nat} {x : Nat} {a : Nat} {c : Nat} {v2 : Int32} {v3 : Int32} {r : Int32 × (Nat → Nat → Int32)} (hx : isSR T P x) (hs_a : isSt T P a) (hs_c : isCt T P c) (hc : P x 3 = some c) (hf : x_doChange I x a c v2 v3 = some r) : Ct l D E B yX11_doChange cX11_doChange 4 (some .int) 1 0 0 [.ref x, .ref a, .int v2, .int v3] (n, T, I, J, P) (Ret (some (.int r.1)) (n, T, r.2, J, P)) := by
  unfold x_doChange at hf
  refine Ct.ofV (by decide) (Nat.le_of_ble_eq_true rfl) ?_
  refine V.aload_n dX11_doChange_0 rfl ?_
  refine V.iload_n dX11_doChange_1 rfl ?_
  refine V.inv cv_X11_127 (c_x_noPerson hx hs_c hc) dX11_doChange_2 (hx.1 0 (11, 0) rfl) (by decide) rfl rfl rfl (Nat.le_of_ble_eq_true rfl) (by decide) (by decide) (Nat.le_refl _) (Nat.le_refl _) (fun _ _ hq => ?_)
  obtain ⟨rfl, rfl⟩ := hq
  refine V.if_ne 21 dX11_doChange_5 (by decide) (fun c1 => ?_) (fun c1 => ?_)
  · rw [if_neg c1] at hf
    refine V.iconst (v := 1) dX11_doChange_21 (by decide) ?_
    obtain rfl := Option.some.inj hf
    exact V.iret dX11_doChange_22 rfl (Nat.le_refl _) (Nat.le_refl _) ⟨rfl, rfl⟩
  · rw [if_pos c1] at hf
    refine V.aload_n dX11_doChange_8 rfl ?_
    refine V.iload_n dX11_doChange_9 rfl ?_
    refine V.inv cv_X11_127 (c_x_noPerson hx hs_c hc) dX11_doChange_10 (hx.1 0 (11, 0) rfl) (by decide) rfl rfl rfl (Nat.le_of_ble_eq_true rfl) (by decide) (by decide) (Nat.le_refl _) (Nat.le_refl _) (fun _ _ hq => ?_)
    obtain ⟨rfl, rfl⟩ := hq
    refine V.if_ne 21 dX11_doChange_13 (by decide) (fun c2 => ?_) (fun c2 => ?_)
    · rw [if_neg c2] at hf
      refine V.iconst (v := 1) dX11_doChange_21 (by decide) ?_
      obtain rfl := Option.some.inj hf
      exact V.iret dX11_doChange_22 rfl (Nat.le_refl _) (Nat.le_refl _) ⟨rfl, rfl⟩
    · rw [if_pos c2] at hf
      refine V.iload_n dX11_doChange_16 rfl ?_
      refine V.iload_n dX11_doChange_17 rfl ?_
      refine V.icmp_ne 23 dX11_doChange_18 (by decide) (fun c3 => ?_) (fun c3 => ?_)
      · rw [if_neg c3] at hf
        refine V.aload_n dX11_doChange_23 rfl ?_
        refine V.iload_n dX11_doChange_24 rfl ?_
        refine V.iload_n dX11_doChange_25 rfl ?_
        obtain ⟨I6, hk5, hf⟩ := bnd_some hf
        try dsimp only at hf
        refine V.inv cv_X11_264 (c_s_exchange hs_a hk5) dX11_doChange_26 (hs_a.1 0 (8, 0) rfl) (by decide) rfl rfl rfl (Nat.le_of_ble_eq_true rfl) (by decide) (by decide) (Nat.le_refl _) (Nat.le_refl _) (fun _ _ hq => ?_)
        obtain ⟨rfl, rfl⟩ := hq
        refine V.iconst (v := 0) dX11_doChange_29 (by decide) ?_
        obtain rfl := Option.some.inj hf
        exact V.iret dX11_doChange_30 rfl (Nat.le_refl _) (Nat.le_refl _) ⟨rfl, rfl⟩
      · rw [if_pos c3] at hf
        refine V.iconst (v := 1) dX11_doChange_21 (by decide) ?_
        obtain rfl := Option.some.inj hf
        exact V.iret dX11_doChange_22 rfl (Nat.le_refl _) (Nat.le_refl _) ⟨rfl, rfl⟩
theorem dX11_doWine_0 : decode cX11_doWine 0 = .ok (.aload_n 0, 1) := by decide +kernel
theorem dX11_doWine_1 : decode cX11_doWine 1 = .ok (.iload_n 2, 1) := by decide +kernel
theorem dX11_doWine_2 : decode cX11_doWine 2 = .ok (.invokevirtual 127, 3) := by decide +kernel
theorem dX11_doWine_5 : decode cX11_doWine 5 = .ok (.ifCond .ne 14, 3) := by decide +kernel
theorem dX11_doWine_8 : decode cX11_doWine 8 = .ok (.iload_n 3, 1) := by decide +kernel
theorem dX11_doWine_9 : decode cX11_doWine 9 = .ok (.iconst 1, 1) := by decide +kernel
theorem dX11_doWine_10 : decode cX11_doWine 10 = .ok (.if_icmp .lt 9, 3) := by decide +kernel
theorem dX11_doWine_13 : decode cX11_doWine 13 = .ok (.iload_n 3, 1) := by decide +kernel
theorem dX11_doWine_14 : decode cX11_doWine 14 = .ok (.bipush 9, 2) := by decide +kernel
theorem dX11_doWine_16 : decode cX11_doWine 16 = .ok (.if_icmp .le 5, 3) := by decide +kernel
theorem dX11_doWine_19 : decode cX11_doWine 19 = .ok (.iconst 1, 1) := by decide +kernel
theorem dX11_doWine_20 : decode cX11_doWine 20 = .ok (.ireturn, 1) := by decide +kernel
theorem dX11_doWine_21 : decode cX11_doWine 21 = .ok (.aload_n 1, 1) := by decide +kernel
theorem dX11_doWine_22 : decode cX11_doWine 22 = .ok (.iload_n 2, 1) := by decide +kernel
theorem dX11_doWine_23 : decode cX11_doWine 23 = .ok (.invokevirtual 139, 3) := by decide +kernel
theorem dX11_doWine_26 : decode cX11_doWine 26 = .ok (.ifCond .ne 5, 3) := by decide +kernel
theorem dX11_doWine_29 : decode cX11_doWine 29 = .ok (.iconst 2, 1) := by decide +kernel
theorem dX11_doWine_30 : decode cX11_doWine 30 = .ok (.ireturn, 1) := by decide +kernel
theorem dX11_doWine_31 : decode cX11_doWine 31 = .ok (.aload_n 1, 1) := by decide +kernel
theorem dX11_doWine_32 : decode cX11_doWine 32 = .ok (.getfield 132, 3) := by decide +kernel
theorem dX11_doWine_35 : decode cX11_doWine 35 = .ok (.iload_n 2, 1) := by decide +kernel
theorem dX11_doWine_36 : decode cX11_doWine 36 = .ok (.aload_n 1, 1) := by decide +kernel
theorem dX11_doWine_37 : decode cX11_doWine 37 = .ok (.getfield 132, 3) := by decide +kernel
theorem dX11_doWine_40 : decode cX11_doWine 40 = .ok (.iload_n 2, 1) := by decide +kernel
theorem dX11_doWine_41 : decode cX11_doWine 41 = .ok (.iaload, 1) := by decide +kernel
theorem dX11_doWine_42 : decode cX11_doWine 42 = .ok (.iload_n 3, 1) := by decide +kernel
theorem dX11_doWine_43 : decode cX11_doWine 43 = .ok (.iadd, 1) := by decide +kernel
theorem dX11_doWine_44 : decode cX11_doWine 44 = .ok (.bipush 99, 2) := by decide +kernel
theorem dX11_doWine_46 : decode cX11_doWine 46 = .ok (.invokestatic 268, 3) := by decide +kernel
theorem dX11_doWine_49 : decode cX11_doWine 49 = .ok (.iastore, 1) := by decide +kernel
theorem dX11_doWine_50 : decode cX11_doWine 50 = .ok (.iconst 0, 1) := by decide +kernel
theorem dX11_doWine_51 : decode cX11_doWine 51 = .ok (.ireturn, 1) := by decide +kernel
def x_doWine (I : Nat → Nat → Int32) (x : Nat) (a : Nat) (c : Nat) (v2 : Int32) (v3 : Int32) : Option (Int32 × (Nat → Nat → Int32)) := if (x_noPerson I x c v2) = 0 then (if v3 < 1 then (some (1, I)) else (if v3 ≤ 9 then (if (s_isUp I a v2) = 0 then (some (2, I)) else (chk v2 6 (let I6 := uI I (a + 1) (Int32.toNatClampNeg v2) (imin ((I (a + 1) (Int32.toNatClampNeg v2)) + v3) 99); some (0, I6)))) else (some (1, I)))) else (some (1, I))
theorem c_x_doWine {l : Launch} {D : va_G} {E : Nat → ClassId} {B : Nat → Prop} {n : Nat} {T : Nat → Option (Nat × Nat)} {I : Nat → Nat → Int32} {J : Nat → Nat → Int64} {P : Nat → Nat → Option Nat} {x : Nat} {a : Nat} {c : Nat} {v2 : Int32} {v3 : Int32} {r : Int32 × (Nat → Nat → Int32)} (hx : isSR T P x) (hs_a : isSt T P a) (hs_c : isCt T P c) (hc : P x 3 = some c) (hf : x_doWine I x a c v2 v3 = some r) : Ct l D E B yX11_doWine cX11_doWine 4 (some .int) 1 0 0 [.ref x, .ref a, .int v2, .int v3] (n, T, I, J, P) (Ret (some (.int r.1)) (n, T, r.2, J, P)) := by
  unfold x_doWine at hf
  refine Ct.ofV (by decide) (Nat.le_of_ble_eq_true rfl) ?_
  refine V.aload_n dX11_doWine_0 rfl ?_
  refine V.iload_n dX11_doWine_1 rfl ?_
  refine V.inv cv_X11_127 (c_x_noPerson hx hs_c hc) dX11_doWine_2 (hx.1 0 (11, 0) rfl) (by decide) rfl rfl rfl (Nat.le_of_ble_eq_true rfl) (by decide) (by decide) (Nat.le_refl _) (Nat.le_refl _) (fun _ _ hq => ?_)
  obtain ⟨rfl, rfl⟩ := hq
  refine V.if_ne 19 dX11_doWine_5 (by decide) (fun c1 => ?_) (fun c1 => ?_)
  · rw [if_neg c1] at hf
    refine V.iconst (v := 1) dX11_doWine_19 (by decide) ?_
    obtain rfl := Option.some.inj hf
    exact V.iret dX11_doWine_20 rfl (Nat.le_refl _) (Nat.le_refl _) ⟨rfl, rfl⟩
  · rw [if_pos c1] at hf
    refine V.iload_n dX11_doWine_8 rfl ?_
    refine V.iconst (v := 1) dX11_doWine_9 (by decide) ?_
    refine V.icmp_lt 19 dX11_doWine_10 (by decide) (fun c2 => ?_) (fun c2 => ?_)
    · rw [if_pos c2] at hf
      refine V.iconst (v := 1) dX11_doWine_19 (by decide) ?_
      obtain rfl := Option.some.inj hf
      exact V.iret dX11_doWine_20 rfl (Nat.le_refl _) (Nat.le_refl _) ⟨rfl, rfl⟩
    · rw [if_neg c2] at hf
      refine V.iload_n dX11_doWine_13 rfl ?_
      refine V.bipush (v := 9) dX11_doWine_14 (by decide) ?_
      refine V.icmp_le 21 dX11_doWine_16 (by decide) (fun c3 => ?_) (fun c3 => ?_)
      · rw [if_pos c3] at hf
        refine V.aload_n dX11_doWine_21 rfl ?_
        refine V.iload_n dX11_doWine_22 rfl ?_
        refine V.inv cv_X11_139 (c_s_isUp hs_a) dX11_doWine_23 (hs_a.1 0 (8, 0) rfl) (by decide) rfl rfl rfl (Nat.le_of_ble_eq_true rfl) (by decide) (by decide) (Nat.le_refl _) (Nat.le_refl _) (fun _ _ hq => ?_)
        obtain ⟨rfl, rfl⟩ := hq
        refine V.if_ne 31 dX11_doWine_26 (by decide) (fun c4 => ?_) (fun c4 => ?_)
        · rw [if_neg c4] at hf
          refine V.aload_n dX11_doWine_31 rfl ?_
          refine V.getr fl_X11_132 dX11_doWine_32 (hs_a.1 0 (8, 0) rfl) (hs_a.2 0 4 1 rfl) (by decide) rfl ?_
          refine V.iload_n dX11_doWine_35 rfl ?_
          refine V.aload_n dX11_doWine_36 rfl ?_
          refine V.getr fl_X11_132 dX11_doWine_37 (hs_a.1 0 (8, 0) rfl) (hs_a.2 0 4 1 rfl) (by decide) rfl ?_
          refine V.iload_n dX11_doWine_40 rfl ?_
          obtain ⟨hb5, hf⟩ := chk_some hf
          refine V.iald dX11_doWine_41 (hs_a.1 1 (20, 6) rfl) hb5 ?_
          refine V.iload_n dX11_doWine_42 rfl ?_
          refine V.iadd dX11_doWine_43 ?_
          refine V.bipush (v := 99) dX11_doWine_44 (by decide) ?_
          refine V.ins cs_X11_268 (c_imin) dX11_doWine_46 rfl rfl (Nat.le_of_ble_eq_true rfl) (by decide) (by decide) (Nat.le_refl _) (Nat.le_refl _) (fun _ _ hq => ?_)
          obtain ⟨rfl, rfl⟩ := hq
          refine V.iastE dX11_doWine_49 (hs_a.1 1 (20, 6) rfl) hb5 (fun I6 e7 => ?_)
          rw [← e7] at hf
          try dsimp only at hf
          clear e7
          refine V.iconst (v := 0) dX11_doWine_50 (by decide) ?_
          obtain rfl := Option.some.inj hf
          exact V.iret dX11_doWine_51 rfl (Nat.le_refl _) (Nat.le_refl _) ⟨rfl, rfl⟩
        · rw [if_pos c4] at hf
          refine V.iconst (v := 2) dX11_doWine_29 (by decide) ?_
          obtain rfl := Option.some.inj hf
          exact V.iret dX11_doWine_30 rfl (Nat.le_refl _) (Nat.le_refl _) ⟨rfl, rfl⟩
      · rw [if_neg c3] at hf
        refine V.iconst (v := 1) dX11_doWine_19 (by decide) ?_
        obtain rfl := Option.some.inj hf
        exact V.iret dX11_doWine_20 rfl (Nat.le_refl _) (Nat.le_refl _) ⟨rfl, rfl⟩
theorem dX11_keepForUndo_0 : decode cX11_keepForUndo 0 = .ok (.aload_n 0, 1) := by decide +kernel
theorem dX11_keepForUndo_1 : decode cX11_keepForUndo 1 = .ok (.getfield 37, 3) := by decide +kernel
theorem dX11_keepForUndo_4 : decode cX11_keepForUndo 4 = .ok (.aload_n 0, 1) := by decide +kernel
theorem dX11_keepForUndo_5 : decode cX11_keepForUndo 5 = .ok (.getfield 59, 3) := by decide +kernel
theorem dX11_keepForUndo_8 : decode cX11_keepForUndo 8 = .ok (.invokevirtual 246, 3) := by decide +kernel
theorem dX11_keepForUndo_11 : decode cX11_keepForUndo 11 = .ok (.aload_n 0, 1) := by decide +kernel
theorem dX11_keepForUndo_12 : decode cX11_keepForUndo 12 = .ok (.dup, 1) := by decide +kernel
theorem dX11_keepForUndo_13 : decode cX11_keepForUndo 13 = .ok (.getfield 55, 3) := by decide +kernel
theorem dX11_keepForUndo_16 : decode cX11_keepForUndo 16 = .ok (.iconst 1, 1) := by decide +kernel
theorem dX11_keepForUndo_17 : decode cX11_keepForUndo 17 = .ok (.iadd, 1) := by decide +kernel
theorem dX11_keepForUndo_18 : decode cX11_keepForUndo 18 = .ok (.putfield 55, 3) := by decide +kernel
theorem dX11_keepForUndo_21 : decode cX11_keepForUndo 21 = .ok (.return_, 1) := by decide +kernel
def x_keepForUndo (I : Nat → Nat → Int32) (x : Nat) : Option ((Nat → Nat → Int32)) := (pa_keep I x (x + 94)).bind (fun q1 => let I3 := q1; let I4 := uI I3 x 9 ((I3 x 9) + 1); some I4)
theorem c_x_keepForUndo {l : Launch} {D : va_G} {E : Nat → ClassId} {B : Nat → Prop} {n : Nat} {T : Nat → Option (Nat × Nat)} {I : Nat → Nat → Int32} {J : Nat → Nat → Int64} {P : Nat → Nat → Option Nat} {x : Nat}  {r : (Nat → Nat → Int32)} (hx : isSR T P x) (hf : x_keepForUndo I x = some r) : Ct l D E B yX11_keepForUndo cX11_keepForUndo 1 none 3 0 0 [.ref x] (n, T, I, J, P) (Ret (none) (n, T, r, J, P)) := by
  unfold x_keepForUndo at hf
  refine Ct.ofV (by decide) (Nat.le_of_ble_eq_true rfl) ?_
  refine V.aload_n dX11_keepForUndo_0 rfl ?_
  refine V.getr fl_X11_37 dX11_keepForUndo_1 (hx.1 0 (11, 0) rfl) (hx.2.1 0 5 19 rfl) (by decide) rfl ?_
  refine V.aload_n dX11_keepForUndo_4 rfl ?_
  refine V.getr fl_X11_59 dX11_keepForUndo_5 (hx.1 0 (11, 0) rfl) (hx.2.1 0 11 94 rfl) (by decide) rfl ?_
  obtain ⟨I3, hk2, hf⟩ := bnd_some hf
  try dsimp only at hf
  refine V.inv cv_X11_246 (c_pa_keep hx (hx.2.2.1 94 rfl) hk2) dX11_keepForUndo_8 (hx.1 19 (6, 0) rfl) (by decide) rfl rfl rfl (Nat.le_of_ble_eq_true rfl) (by decide) (by decide) (Nat.le_refl _) (Nat.le_refl _) (fun _ _ hq => ?_)
  obtain ⟨rfl, rfl⟩ := hq
  refine V.aload_n dX11_keepForUndo_11 rfl ?_
  refine V.dup dX11_keepForUndo_12 rfl ?_
  refine V.getf fl_X11_55 dX11_keepForUndo_13 (hx.1 0 (11, 0) rfl) (by decide) rfl ?_
  refine V.iconst (v := 1) dX11_keepForUndo_16 (by decide) ?_
  refine V.iadd dX11_keepForUndo_17 ?_
  refine V.putiE fl_X11_55 dX11_keepForUndo_18 (hx.1 0 (11, 0) rfl) (by decide) (fun h => by cases h) rfl rfl rfl (Nat.le_of_ble_eq_true rfl) (fun I4 e5 => ?_)
  rw [← e5] at hf
  try dsimp only at hf
  clear e5
  obtain rfl := Option.some.inj hf
  exact V.vret dX11_keepForUndo_21 rfl (Nat.le_refl _) (Nat.le_refl _) ⟨rfl, rfl⟩
theorem dX11_play_0 : decode cX11_play 0 = .ok (.aload_n 0, 1) := by decide +kernel
theorem dX11_play_1 : decode cX11_play 1 = .ok (.getfield 59, 3) := by decide +kernel
theorem dX11_play_4 : decode cX11_play 4 = .ok (.aload_n 0, 1) := by decide +kernel
theorem dX11_play_5 : decode cX11_play 5 = .ok (.getfield 30, 3) := by decide +kernel
theorem dX11_play_8 : decode cX11_play 8 = .ok (.invokevirtual 174, 3) := by decide +kernel
theorem dX11_play_11 : decode cX11_play 11 = .ok (.aload_n 0, 1) := by decide +kernel
theorem dX11_play_12 : decode cX11_play 12 = .ok (.aload_n 0, 1) := by decide +kernel
theorem dX11_play_13 : decode cX11_play 13 = .ok (.getfield 30, 3) := by decide +kernel
theorem dX11_play_16 : decode cX11_play 16 = .ok (.iload_n 1, 1) := by decide +kernel
theorem dX11_play_17 : decode cX11_play 17 = .ok (.invokevirtual 178, 3) := by decide +kernel
theorem dX11_play_20 : decode cX11_play 20 = .ok (.istore_n 2, 1) := by decide +kernel
theorem dX11_play_21 : decode cX11_play 21 = .ok (.iload_n 2, 1) := by decide +kernel
theorem dX11_play_22 : decode cX11_play 22 = .ok (.ifCond .eq 8, 3) := by decide +kernel
theorem dX11_play_25 : decode cX11_play 25 = .ok (.bipush (-10), 2) := by decide +kernel
theorem dX11_play_27 : decode cX11_play 27 = .ok (.iload_n 2, 1) := by decide +kernel
theorem dX11_play_28 : decode cX11_play 28 = .ok (.isub, 1) := by decide +kernel
theorem dX11_play_29 : decode cX11_play 29 = .ok (.ireturn, 1) := by decide +kernel
theorem dX11_play_30 : decode cX11_play 30 = .ok (.aload_n 0, 1) := by decide +kernel
theorem dX11_play_31 : decode cX11_play 31 = .ok (.invokevirtual 182, 3) := by decide +kernel
theorem dX11_play_34 : decode cX11_play 34 = .ok (.aload_n 0, 1) := by decide +kernel
theorem dX11_play_35 : decode cX11_play 35 = .ok (.getfield 59, 3) := by decide +kernel
theorem dX11_play_38 : decode cX11_play 38 = .ok (.invokevirtual 185, 3) := by decide +kernel
theorem dX11_play_41 : decode cX11_play 41 = .ok (.aload_n 0, 1) := by decide +kernel
theorem dX11_play_42 : decode cX11_play 42 = .ok (.getfield 30, 3) := by decide +kernel
theorem dX11_play_45 : decode cX11_play 45 = .ok (.invokevirtual 185, 3) := by decide +kernel
theorem dX11_play_48 : decode cX11_play 48 = .ok (.isub, 1) := by decide +kernel
theorem dX11_play_49 : decode cX11_play 49 = .ok (.ireturn, 1) := by decide +kernel
def x_play (F : Nat) (T : Nat → Option (Nat × Nat)) (I : Nat → Nat → Int32) (P : Nat → Nat → Option Nat) (x : Nat) (c : Nat) (v1 : Int32) : Option (Int32 × (Nat → Nat → Int32)) := (s_copyFrom I (x + 94) (x + 12)).bind (fun q1 => let I3 := q1; (x_doMinute F T I3 P x (x + 12) c v1).bind (fun q4 => let u6 := q4.1; let I7 := q4.2; if u6 = 0 then ((x_keepForUndo I7 x).bind (fun q9 => let I11 := q9; some (((s_howManyUp I11 (x + 94)) - (s_howManyUp I11 (x + 12))), I11))) else (some (((-10) - u6), I7))))
theorem c_x_play {l : Launch} {D : va_G} {E : Nat → ClassId} {B : Nat → Prop} {n F : Nat} {T : Nat → Option (Nat × Nat)} {I : Nat → Nat → Int32} {J : Nat → Nat → Int64} {P : Nat → Nat → Option Nat} {x : Nat} {c : Nat} {v1 : Int32} {r : Int32 × (Nat → Nat → Int32)} (hx : isSR T P x) (hs_c : isCt T P c) (hc : P x 3 = some c) (hf : x_play F T I P x c v1 = some r) : Ct l D E B yX11_play cX11_play 3 (some .int) 5 0 0 [.ref x, .int v1] (n, T, I, J, P) (Ret (some (.int r.1)) (n, T, r.2, J, P)) := by
  unfold x_play at hf
  refine Ct.ofV (by decide) (Nat.le_of_ble_eq_true rfl) ?_
  refine V.aload_n dX11_play_0 rfl ?_
  refine V.getr fl_X11_59 dX11_play_1 (hx.1 0 (11, 0) rfl) (hx.2.1 0 11 94 rfl) (by decide) rfl ?_
  refine V.aload_n dX11_play_4 rfl ?_
  refine V.getr fl_X11_30 dX11_play_5 (hx.1 0 (11, 0) rfl) (hx.2.1 0 4 12 rfl) (by decide) rfl ?_
  obtain ⟨I3, hk2, hf⟩ := bnd_some hf
  try dsimp only at hf
  refine V.inv cv_X11_174 (c_s_copyFrom (hx.2.2.1 94 rfl) (hx.2.2.1 12 rfl) hk2) dX11_play_8 ((hx.2.2.1 94 rfl).1 0 (8, 0) rfl) (by decide) rfl rfl rfl (Nat.le_of_ble_eq_true rfl) (by decide) (by decide) (Nat.le_refl _) (Nat.le_refl _) (fun _ _ hq => ?_)
  obtain ⟨rfl, rfl⟩ := hq
  refine V.aload_n dX11_play_11 rfl ?_
  refine V.aload_n dX11_play_12 rfl ?_
  refine V.getr fl_X11_30 dX11_play_13 (hx.1 0 (11, 0) rfl) (hx.2.1 0 4 12 rfl) (by decide) rfl ?_
  refine V.iload_n dX11_play_16 rfl ?_
  obtain ⟨⟨u6, I7⟩, hk5, hf⟩ := bnd_some hf
  try dsimp only at hf
  refine V.inv cv_X11_178 (c_x_doMinute hx (hx.2.2.1 12 rfl) hs_c hc hk5) dX11_play_17 (hx.1 0 (11, 0) rfl) (by decide) rfl rfl rfl (Nat.le_of_ble_eq_true rfl) (by decide) (by decide) (Nat.le_refl _) (Nat.le_refl _) (fun _ _ hq => ?_)
  obtain ⟨rfl, rfl⟩ := hq
  try dsimp only
  refine V.istore_n dX11_play_20 rfl (by decide) (by first | exact rfl | exact trivial) ?_
  refine V.iload_n dX11_play_21 rfl ?_
  refine V.if_eq 30 dX11_play_22 (by decide) (fun c8 => ?_) (fun c8 => ?_)
  · rw [if_pos c8] at hf
    refine V.aload_n dX11_play_30 rfl ?_
    obtain ⟨I11, hk10, hf⟩ := bnd_some hf
    try dsimp only at hf
    refine V.inv cv_X11_182 (c_x_keepForUndo hx hk10) dX11_play_31 (hx.1 0 (11, 0) rfl) (by decide) rfl rfl rfl (Nat.le_of_ble_eq_true rfl) (by decide) (by decide) (Nat.le_refl _) (Nat.le_refl _) (fun _ _ hq => ?_)
    obtain ⟨rfl, rfl⟩ := hq
    refine V.aload_n dX11_play_34 rfl ?_
    refine V.getr fl_X11_59 dX11_play_35 (hx.1 0 (11, 0) rfl) (hx.2.1 0 11 94 rfl) (by decide) rfl ?_
    refine V.inv cv_X11_185 (c_s_howManyUp (hx.2.2.1 94 rfl)) dX11_play_38 ((hx.2.2.1 94 rfl).1 0 (8, 0) rfl) (by decide) rfl rfl rfl (Nat.le_of_ble_eq_true rfl) (by decide) (by decide) (Nat.le_refl _) (Nat.le_refl _) (fun _ _ hq => ?_)
    obtain ⟨rfl, rfl⟩ := hq
    refine V.aload_n dX11_play_41 rfl ?_
    refine V.getr fl_X11_30 dX11_play_42 (hx.1 0 (11, 0) rfl) (hx.2.1 0 4 12 rfl) (by decide) rfl ?_
    refine V.inv cv_X11_185 (c_s_howManyUp (hx.2.2.1 12 rfl)) dX11_play_45 ((hx.2.2.1 12 rfl).1 0 (8, 0) rfl) (by decide) rfl rfl rfl (Nat.le_of_ble_eq_true rfl) (by decide) (by decide) (Nat.le_refl _) (Nat.le_refl _) (fun _ _ hq => ?_)
    obtain ⟨rfl, rfl⟩ := hq
    refine V.isub dX11_play_48 ?_
    obtain rfl := Option.some.inj hf
    exact V.iret dX11_play_49 rfl (Nat.le_refl _) (Nat.le_refl _) ⟨rfl, rfl⟩
  · rw [if_neg c8] at hf
    refine V.bipush (v := -10) dX11_play_25 (by decide) ?_
    refine V.iload_n dX11_play_27 rfl ?_
    refine V.isub dX11_play_28 ?_
    obtain rfl := Option.some.inj hf
    exact V.iret dX11_play_29 rfl (Nat.le_refl _) (Nat.le_refl _) ⟨rfl, rfl⟩
theorem dX11_sit_0 : decode cX11_sit 0 = .ok (.aload_n 0, 1) := by decide +kernel
theorem dX11_sit_1 : decode cX11_sit 1 = .ok (.getfield 59, 3) := by decide +kernel
theorem dX11_sit_4 : decode cX11_sit 4 = .ok (.aload_n 0, 1) := by decide +kernel
theorem dX11_sit_5 : decode cX11_sit 5 = .ok (.getfield 30, 3) := by decide +kernel
theorem dX11_sit_8 : decode cX11_sit 8 = .ok (.invokevirtual 174, 3) := by decide +kernel
theorem dX11_sit_11 : decode cX11_sit 11 = .ok (.aload_n 0, 1) := by decide +kernel
theorem dX11_sit_12 : decode cX11_sit 12 = .ok (.aload_n 0, 1) := by decide +kernel
theorem dX11_sit_13 : decode cX11_sit 13 = .ok (.getfield 30, 3) := by decide +kernel
theorem dX11_sit_16 : decode cX11_sit 16 = .ok (.iload_n 1, 1) := by decide +kernel
theorem dX11_sit_17 : decode cX11_sit 17 = .ok (.invokevirtual 189, 3) := by decide +kernel
theorem dX11_sit_20 : decode cX11_sit 20 = .ok (.istore_n 2, 1) := by decide +kernel
theorem dX11_sit_21 : decode cX11_sit 21 = .ok (.iload_n 2, 1) := by decide +kernel
theorem dX11_sit_22 : decode cX11_sit 22 = .ok (.ifCond .eq 8, 3) := by decide +kernel
theorem dX11_sit_25 : decode cX11_sit 25 = .ok (.bipush (-10), 2) := by decide +kernel
theorem dX11_sit_27 : decode cX11_sit 27 = .ok (.iload_n 2, 1) := by decide +kernel
theorem dX11_sit_28 : decode cX11_sit 28 = .ok (.isub, 1) := by decide +kernel
theorem dX11_sit_29 : decode cX11_sit 29 = .ok (.ireturn, 1) := by decide +kernel
theorem dX11_sit_30 : decode cX11_sit 30 = .ok (.aload_n 0, 1) := by decide +kernel
theorem dX11_sit_31 : decode cX11_sit 31 = .ok (.invokevirtual 182, 3) := by decide +kernel
theorem dX11_sit_34 : decode cX11_sit 34 = .ok (.aload_n 0, 1) := by decide +kernel
theorem dX11_sit_35 : decode cX11_sit 35 = .ok (.getfield 30, 3) := by decide +kernel
theorem dX11_sit_38 : decode cX11_sit 38 = .ok (.iload_n 1, 1) := by decide +kernel
theorem dX11_sit_39 : decode cX11_sit 39 = .ok (.invokevirtual 145, 3) := by decide +kernel
theorem dX11_sit_42 : decode cX11_sit 42 = .ok (.ireturn, 1) := by decide +kernel
def x_sit (F : Nat) (I : Nat → Nat → Int32) (x : Nat) (c : Nat) (v1 : Int32) : Option (Int32 × (Nat → Nat → Int32)) := (s_copyFrom I (x + 94) (x + 12)).bind (fun q1 => let I3 := q1; (x_doSit I3 x (x + 12) c v1).bind (fun q4 => let u6 := q4.1; let I7 := q4.2; if u6 = 0 then ((x_keepForUndo I7 x).bind (fun q9 => let I11 := q9; (s_placeOf F I11 (x + 12) v1).bind (fun q12 => let u14 := q12; some (u14, I11)))) else (some (((-10) - u6), I7))))
theorem c_x_sit {l : Launch} {D : va_G} {E : Nat → ClassId} {B : Nat → Prop} {n F : Nat} {T : Nat → Option (Nat × Nat)} {I : Nat → Nat → Int32} {J : Nat → Nat → Int64} {P : Nat → Nat → Option Nat} {x : Nat} {c : Nat} {v1 : Int32} {r : Int32 × (Nat → Nat → Int32)} (hx : isSR T P x) (hs_c : isCt T P c) (hc : P x 3 = some c) (hf : x_sit F I x c v1 = some r) : Ct l D E B yX11_sit cX11_sit 3 (some .int) 4 0 0 [.ref x, .int v1] (n, T, I, J, P) (Ret (some (.int r.1)) (n, T, r.2, J, P)) := by
  unfold x_sit at hf
  refine Ct.ofV (by decide) (Nat.le_of_ble_eq_true rfl) ?_
  refine V.aload_n dX11_sit_0 rfl ?_
  refine V.getr fl_X11_59 dX11_sit_1 (hx.1 0 (11, 0) rfl) (hx.2.1 0 11 94 rfl) (by decide) rfl ?_
  refine V.aload_n dX11_sit_4 rfl ?_
  refine V.getr fl_X11_30 dX11_sit_5 (hx.1 0 (11, 0) rfl) (hx.2.1 0 4 12 rfl) (by decide) rfl ?_
  obtain ⟨I3, hk2, hf⟩ := bnd_some hf
  try dsimp only at hf
  refine V.inv cv_X11_174 (c_s_copyFrom (hx.2.2.1 94 rfl) (hx.2.2.1 12 rfl) hk2) dX11_sit_8 ((hx.2.2.1 94 rfl).1 0 (8, 0) rfl) (by decide) rfl rfl rfl (Nat.le_of_ble_eq_true rfl) (by decide) (by decide) (Nat.le_refl _) (Nat.le_refl _) (fun _ _ hq => ?_)
  obtain ⟨rfl, rfl⟩ := hq
  refine V.aload_n dX11_sit_11 rfl ?_
  refine V.aload_n dX11_sit_12 rfl ?_
  refine V.getr fl_X11_30 dX11_sit_13 (hx.1 0 (11, 0) rfl) (hx.2.1 0 4 12 rfl) (by decide) rfl ?_
  refine V.iload_n dX11_sit_16 rfl ?_
  obtain ⟨⟨u6, I7⟩, hk5, hf⟩ := bnd_some hf
  try dsimp only at hf
  refine V.inv cv_X11_189 (c_x_doSit hx (hx.2.2.1 12 rfl) hs_c hc hk5) dX11_sit_17 (hx.1 0 (11, 0) rfl) (by decide) rfl rfl rfl (Nat.le_of_ble_eq_true rfl) (by decide) (by decide) (Nat.le_refl _) (Nat.le_refl _) (fun _ _ hq => ?_)
  obtain ⟨rfl, rfl⟩ := hq
  try dsimp only
  refine V.istore_n dX11_sit_20 rfl (by decide) (by first | exact rfl | exact trivial) ?_
  refine V.iload_n dX11_sit_21 rfl ?_
  refine V.if_eq 30 dX11_sit_22 (by decide) (fun c8 => ?_) (fun c8 => ?_)
  · rw [if_pos c8] at hf
    refine V.aload_n dX11_sit_30 rfl ?_
    obtain ⟨I11, hk10, hf⟩ := bnd_some hf
    try dsimp only at hf
    refine V.inv cv_X11_182 (c_x_keepForUndo hx hk10) dX11_sit_31 (hx.1 0 (11, 0) rfl) (by decide) rfl rfl rfl (Nat.le_of_ble_eq_true rfl) (by decide) (by decide) (Nat.le_refl _) (Nat.le_refl _) (fun _ _ hq => ?_)
    obtain ⟨rfl, rfl⟩ := hq
    refine V.aload_n dX11_sit_34 rfl ?_
    refine V.getr fl_X11_30 dX11_sit_35 (hx.1 0 (11, 0) rfl) (hx.2.1 0 4 12 rfl) (by decide) rfl ?_
    refine V.iload_n dX11_sit_38 rfl ?_
    obtain ⟨u14, hk13, hf⟩ := bnd_some hf
    try dsimp only at hf
    refine V.inv cv_X11_145 (c_s_placeOf (hx.2.2.1 12 rfl) hk13) dX11_sit_39 ((hx.2.2.1 12 rfl).1 0 (8, 0) rfl) (by decide) rfl rfl rfl (Nat.le_of_ble_eq_true rfl) (by decide) (by decide) (Nat.le_refl _) (Nat.le_refl _) (fun _ _ hq => ?_)
    obtain ⟨rfl, rfl⟩ := hq
    obtain rfl := Option.some.inj hf
    exact V.iret dX11_sit_42 rfl (Nat.le_refl _) (Nat.le_refl _) ⟨rfl, rfl⟩
  · rw [if_neg c8] at hf
    refine V.bipush (v := -10) dX11_sit_25 (by decide) ?_
    refine V.iload_n dX11_sit_27 rfl ?_
    refine V.isub dX11_sit_28 ?_
    obtain rfl := Option.some.inj hf
    exact V.iret dX11_sit_29 rfl (Nat.le_refl _) (Nat.le_refl _) ⟨rfl, rfl⟩
theorem dX11_change_0 : decode cX11_change 0 = .ok (.aload_n 0, 1) := by decide +kernel
theorem dX11_change_1 : decode cX11_change 1 = .ok (.getfield 59, 3) := by decide +kernel
theorem dX11_change_4 : decode cX11_change 4 = .ok (.aload_n 0, 1) := by decide +kernel
theorem dX11_change_5 : decode cX11_change 5 = .ok (.getfield 30, 3) := by decide +kernel
theorem dX11_change_8 : decode cX11_change 8 = .ok (.invokevirtual 174, 3) := by decide +kernel
theorem dX11_change_11 : decode cX11_change 11 = .ok (.aload_n 0, 1) := by decide +kernel
theorem dX11_change_12 : decode cX11_change 12 = .ok (.aload_n 0, 1) := by decide +kernel
theorem dX11_change_13 : decode cX11_change 13 = .ok (.getfield 30, 3) := by decide +kernel
theorem dX11_change_16 : decode cX11_change 16 = .ok (.iload_n 1, 1) := by decide +kernel
theorem dX11_change_17 : decode cX11_change 17 = .ok (.iload_n 2, 1) := by decide +kernel
theorem dX11_change_18 : decode cX11_change 18 = .ok (.invokevirtual 192, 3) := by decide +kernel
theorem dX11_change_21 : decode cX11_change 21 = .ok (.istore_n 3, 1) := by decide +kernel
theorem dX11_change_22 : decode cX11_change 22 = .ok (.iload_n 3, 1) := by decide +kernel
theorem dX11_change_23 : decode cX11_change 23 = .ok (.ifCond .eq 8, 3) := by decide +kernel
theorem dX11_change_26 : decode cX11_change 26 = .ok (.bipush (-10), 2) := by decide +kernel
theorem dX11_change_28 : decode cX11_change 28 = .ok (.iload_n 3, 1) := by decide +kernel
theorem dX11_change_29 : decode cX11_change 29 = .ok (.isub, 1) := by decide +kernel
theorem dX11_change_30 : decode cX11_change 30 = .ok (.ireturn, 1) := by decide +kernel
theorem dX11_change_31 : decode cX11_change 31 = .ok (.aload_n 0, 1) := by decide +kernel
theorem dX11_change_32 : decode cX11_change 32 = .ok (.invokevirtual 182, 3) := by decide +kernel
theorem dX11_change_35 : decode cX11_change 35 = .ok (.aload_n 0, 1) := by decide +kernel
theorem dX11_change_36 : decode cX11_change 36 = .ok (.getfield 30, 3) := by decide +kernel
theorem dX11_change_39 : decode cX11_change 39 = .ok (.getfield 142, 3) := by decide +kernel
theorem dX11_change_42 : decode cX11_change 42 = .ok (.iload_n 1, 1) := by decide +kernel
theorem dX11_change_43 : decode cX11_change 43 = .ok (.iaload, 1) := by decide +kernel
theorem dX11_change_44 : decode cX11_change 44 = .ok (.ireturn, 1) := by decide +kernel
def x_change (I : Nat → Nat → Int32) (x : Nat) (c : Nat) (v1 : Int32) (v2 : Int32) : Option (Int32 × (Nat → Nat → Int32)) := (s_copyFrom I (x + 94) (x + 12)).bind (fun q1 => let I3 := q1; (x_doChange I3 x (x + 12) c v1 v2).bind (fun q4 => let u6 := q4.1; let I7 := q4.2; if u6 = 0 then ((x_keepForUndo I7 x).bind (fun q9 => let I11 := q9; chk v1 6 (some ((I11 ((x + 12) + 5) (Int32.toNatClampNeg v1)), I11)))) else (some (((-10) - u6), I7))))
theorem c_x_change {l : Launch} {D : va_G} {E : Nat → ClassId} {B : Nat → Prop} {n : Nat} {T : Nat → Option (Nat × Nat)} {I : Nat → Nat → Int32} {J : Nat → Nat → Int64} {P : Nat → Nat → Option Nat} {x : Nat} {c : Nat} {v1 : Int32} {v2 : Int32} {r : Int32 × (Nat → Nat → Int32)} (hx : isSR T P x) (hs_c : isCt T P c) (hc : P x 3 = some c) (hf : x_change I x c v1 v2 = some r) : Ct l D E B yX11_change cX11_change 4 (some .int) 4 0 0 [.ref x, .int v1, .int v2] (n, T, I, J, P) (Ret (some (.int r.1)) (n, T, r.2, J, P)) := by
  unfold x_change at hf
  refine Ct.ofV (by decide) (Nat.le_of_ble_eq_true rfl) ?_
  refine V.aload_n dX11_change_0 rfl ?_
  refine V.getr fl_X11_59 dX11_change_1 (hx.1 0 (11, 0) rfl) (hx.2.1 0 11 94 rfl) (by decide) rfl ?_
  refine V.aload_n dX11_change_4 rfl ?_
  refine V.getr fl_X11_30 dX11_change_5 (hx.1 0 (11, 0) rfl) (hx.2.1 0 4 12 rfl) (by decide) rfl ?_
  obtain ⟨I3, hk2, hf⟩ := bnd_some hf
  try dsimp only at hf
  refine V.inv cv_X11_174 (c_s_copyFrom (hx.2.2.1 94 rfl) (hx.2.2.1 12 rfl) hk2) dX11_change_8 ((hx.2.2.1 94 rfl).1 0 (8, 0) rfl) (by decide) rfl rfl rfl (Nat.le_of_ble_eq_true rfl) (by decide) (by decide) (Nat.le_refl _) (Nat.le_refl _) (fun _ _ hq => ?_)
  obtain ⟨rfl, rfl⟩ := hq
  refine V.aload_n dX11_change_11 rfl ?_
  refine V.aload_n dX11_change_12 rfl ?_
  refine V.getr fl_X11_30 dX11_change_13 (hx.1 0 (11, 0) rfl) (hx.2.1 0 4 12 rfl) (by decide) rfl ?_
  refine V.iload_n dX11_change_16 rfl ?_
  refine V.iload_n dX11_change_17 rfl ?_
  obtain ⟨⟨u6, I7⟩, hk5, hf⟩ := bnd_some hf
  try dsimp only at hf
  refine V.inv cv_X11_192 (c_x_doChange hx (hx.2.2.1 12 rfl) hs_c hc hk5) dX11_change_18 (hx.1 0 (11, 0) rfl) (by decide) rfl rfl rfl (Nat.le_of_ble_eq_true rfl) (by decide) (by decide) (Nat.le_refl _) (Nat.le_refl _) (fun _ _ hq => ?_)
  obtain ⟨rfl, rfl⟩ := hq
  try dsimp only
  refine V.istore_n dX11_change_21 rfl (by decide) (by first | exact rfl | exact trivial) ?_
  refine V.iload_n dX11_change_22 rfl ?_
  refine V.if_eq 31 dX11_change_23 (by decide) (fun c8 => ?_) (fun c8 => ?_)
  · rw [if_pos c8] at hf
    refine V.aload_n dX11_change_31 rfl ?_
    obtain ⟨I11, hk10, hf⟩ := bnd_some hf
    try dsimp only at hf
    refine V.inv cv_X11_182 (c_x_keepForUndo hx hk10) dX11_change_32 (hx.1 0 (11, 0) rfl) (by decide) rfl rfl rfl (Nat.le_of_ble_eq_true rfl) (by decide) (by decide) (Nat.le_refl _) (Nat.le_refl _) (fun _ _ hq => ?_)
    obtain ⟨rfl, rfl⟩ := hq
    refine V.aload_n dX11_change_35 rfl ?_
    refine V.getr fl_X11_30 dX11_change_36 (hx.1 0 (11, 0) rfl) (hx.2.1 0 4 12 rfl) (by decide) rfl ?_
    refine V.getr fl_X11_142 dX11_change_39 ((hx.2.2.1 12 rfl).1 0 (8, 0) rfl) ((hx.2.2.1 12 rfl).2 0 8 5 rfl) (by decide) rfl ?_
    refine V.iload_n dX11_change_42 rfl ?_
    obtain ⟨hb12, hf⟩ := chk_some hf
    refine V.iald dX11_change_43 ((hx.2.2.1 12 rfl).1 5 (20, 6) rfl) hb12 ?_
    obtain rfl := Option.some.inj hf
    exact V.iret dX11_change_44 rfl (Nat.le_refl _) (Nat.le_refl _) ⟨rfl, rfl⟩
  · rw [if_neg c8] at hf
    refine V.bipush (v := -10) dX11_change_26 (by decide) ?_
    refine V.iload_n dX11_change_28 rfl ?_
    refine V.isub dX11_change_29 ?_
    obtain rfl := Option.some.inj hf
    exact V.iret dX11_change_30 rfl (Nat.le_refl _) (Nat.le_refl _) ⟨rfl, rfl⟩
theorem dX11_wine_0 : decode cX11_wine 0 = .ok (.aload_n 0, 1) := by decide +kernel
theorem dX11_wine_1 : decode cX11_wine 1 = .ok (.getfield 59, 3) := by decide +kernel
theorem dX11_wine_4 : decode cX11_wine 4 = .ok (.aload_n 0, 1) := by decide +kernel
theorem dX11_wine_5 : decode cX11_wine 5 = .ok (.getfield 30, 3) := by decide +kernel
theorem dX11_wine_8 : decode cX11_wine 8 = .ok (.invokevirtual 174, 3) := by decide +kernel
theorem dX11_wine_11 : decode cX11_wine 11 = .ok (.aload_n 0, 1) := by decide +kernel
theorem dX11_wine_12 : decode cX11_wine 12 = .ok (.aload_n 0, 1) := by decide +kernel
theorem dX11_wine_13 : decode cX11_wine 13 = .ok (.getfield 30, 3) := by decide +kernel
theorem dX11_wine_16 : decode cX11_wine 16 = .ok (.iload_n 1, 1) := by decide +kernel
theorem dX11_wine_17 : decode cX11_wine 17 = .ok (.iload_n 2, 1) := by decide +kernel
theorem dX11_wine_18 : decode cX11_wine 18 = .ok (.invokevirtual 195, 3) := by decide +kernel
theorem dX11_wine_21 : decode cX11_wine 21 = .ok (.istore_n 3, 1) := by decide +kernel
theorem dX11_wine_22 : decode cX11_wine 22 = .ok (.iload_n 3, 1) := by decide +kernel
theorem dX11_wine_23 : decode cX11_wine 23 = .ok (.ifCond .eq 8, 3) := by decide +kernel
theorem dX11_wine_26 : decode cX11_wine 26 = .ok (.bipush (-10), 2) := by decide +kernel
theorem dX11_wine_28 : decode cX11_wine 28 = .ok (.iload_n 3, 1) := by decide +kernel
theorem dX11_wine_29 : decode cX11_wine 29 = .ok (.isub, 1) := by decide +kernel
theorem dX11_wine_30 : decode cX11_wine 30 = .ok (.ireturn, 1) := by decide +kernel
theorem dX11_wine_31 : decode cX11_wine 31 = .ok (.aload_n 0, 1) := by decide +kernel
theorem dX11_wine_32 : decode cX11_wine 32 = .ok (.invokevirtual 182, 3) := by decide +kernel
theorem dX11_wine_35 : decode cX11_wine 35 = .ok (.aload_n 0, 1) := by decide +kernel
theorem dX11_wine_36 : decode cX11_wine 36 = .ok (.getfield 30, 3) := by decide +kernel
theorem dX11_wine_39 : decode cX11_wine 39 = .ok (.getfield 132, 3) := by decide +kernel
theorem dX11_wine_42 : decode cX11_wine 42 = .ok (.iload_n 1, 1) := by decide +kernel
theorem dX11_wine_43 : decode cX11_wine 43 = .ok (.iaload, 1) := by decide +kernel
theorem dX11_wine_44 : decode cX11_wine 44 = .ok (.ireturn, 1) := by decide +kernel
def x_wine (I : Nat → Nat → Int32) (x : Nat) (c : Nat) (v1 : Int32) (v2 : Int32) : Option (Int32 × (Nat → Nat → Int32)) := (s_copyFrom I (x + 94) (x + 12)).bind (fun q1 => let I3 := q1; (x_doWine I3 x (x + 12) c v1 v2).bind (fun q4 => let u6 := q4.1; let I7 := q4.2; if u6 = 0 then ((x_keepForUndo I7 x).bind (fun q9 => let I11 := q9; chk v1 6 (some ((I11 ((x + 12) + 1) (Int32.toNatClampNeg v1)), I11)))) else (some (((-10) - u6), I7))))
theorem c_x_wine {l : Launch} {D : va_G} {E : Nat → ClassId} {B : Nat → Prop} {n : Nat} {T : Nat → Option (Nat × Nat)} {I : Nat → Nat → Int32} {J : Nat → Nat → Int64} {P : Nat → Nat → Option Nat} {x : Nat} {c : Nat} {v1 : Int32} {v2 : Int32} {r : Int32 × (Nat → Nat → Int32)} (hx : isSR T P x) (hs_c : isCt T P c) (hc : P x 3 = some c) (hf : x_wine I x c v1 v2 = some r) : Ct l D E B yX11_wine cX11_wine 4 (some .int) 4 0 0 [.ref x, .int v1, .int v2] (n, T, I, J, P) (Ret (some (.int r.1)) (n, T, r.2, J, P)) := by
  unfold x_wine at hf
  refine Ct.ofV (by decide) (Nat.le_of_ble_eq_true rfl) ?_
  refine V.aload_n dX11_wine_0 rfl ?_
  refine V.getr fl_X11_59 dX11_wine_1 (hx.1 0 (11, 0) rfl) (hx.2.1 0 11 94 rfl) (by decide) rfl ?_
  refine V.aload_n dX11_wine_4 rfl ?_
  refine V.getr fl_X11_30 dX11_wine_5 (hx.1 0 (11, 0) rfl) (hx.2.1 0 4 12 rfl) (by decide) rfl ?_
  obtain ⟨I3, hk2, hf⟩ := bnd_some hf
  try dsimp only at hf
  refine V.inv cv_X11_174 (c_s_copyFrom (hx.2.2.1 94 rfl) (hx.2.2.1 12 rfl) hk2) dX11_wine_8 ((hx.2.2.1 94 rfl).1 0 (8, 0) rfl) (by decide) rfl rfl rfl (Nat.le_of_ble_eq_true rfl) (by decide) (by decide) (Nat.le_refl _) (Nat.le_refl _) (fun _ _ hq => ?_)
  obtain ⟨rfl, rfl⟩ := hq
  refine V.aload_n dX11_wine_11 rfl ?_
  refine V.aload_n dX11_wine_12 rfl ?_
  refine V.getr fl_X11_30 dX11_wine_13 (hx.1 0 (11, 0) rfl) (hx.2.1 0 4 12 rfl) (by decide) rfl ?_
  refine V.iload_n dX11_wine_16 rfl ?_
  refine V.iload_n dX11_wine_17 rfl ?_
  obtain ⟨⟨u6, I7⟩, hk5, hf⟩ := bnd_some hf
  try dsimp only at hf
  refine V.inv cv_X11_195 (c_x_doWine hx (hx.2.2.1 12 rfl) hs_c hc hk5) dX11_wine_18 (hx.1 0 (11, 0) rfl) (by decide) rfl rfl rfl (Nat.le_of_ble_eq_true rfl) (by decide) (by decide) (Nat.le_refl _) (Nat.le_refl _) (fun _ _ hq => ?_)
  obtain ⟨rfl, rfl⟩ := hq
  try dsimp only
  refine V.istore_n dX11_wine_21 rfl (by decide) (by first | exact rfl | exact trivial) ?_
  refine V.iload_n dX11_wine_22 rfl ?_
  refine V.if_eq 31 dX11_wine_23 (by decide) (fun c8 => ?_) (fun c8 => ?_)
  · rw [if_pos c8] at hf
    refine V.aload_n dX11_wine_31 rfl ?_
    obtain ⟨I11, hk10, hf⟩ := bnd_some hf
    try dsimp only at hf
    refine V.inv cv_X11_182 (c_x_keepForUndo hx hk10) dX11_wine_32 (hx.1 0 (11, 0) rfl) (by decide) rfl rfl rfl (Nat.le_of_ble_eq_true rfl) (by decide) (by decide) (Nat.le_refl _) (Nat.le_refl _) (fun _ _ hq => ?_)
    obtain ⟨rfl, rfl⟩ := hq
    refine V.aload_n dX11_wine_35 rfl ?_
    refine V.getr fl_X11_30 dX11_wine_36 (hx.1 0 (11, 0) rfl) (hx.2.1 0 4 12 rfl) (by decide) rfl ?_
    refine V.getr fl_X11_132 dX11_wine_39 ((hx.2.2.1 12 rfl).1 0 (8, 0) rfl) ((hx.2.2.1 12 rfl).2 0 4 1 rfl) (by decide) rfl ?_
    refine V.iload_n dX11_wine_42 rfl ?_
    obtain ⟨hb12, hf⟩ := chk_some hf
    refine V.iald dX11_wine_43 ((hx.2.2.1 12 rfl).1 1 (20, 6) rfl) hb12 ?_
    obtain rfl := Option.some.inj hf
    exact V.iret dX11_wine_44 rfl (Nat.le_refl _) (Nat.le_refl _) ⟨rfl, rfl⟩
  · rw [if_neg c8] at hf
    refine V.bipush (v := -10) dX11_wine_26 (by decide) ?_
    refine V.iload_n dX11_wine_28 rfl ?_
    refine V.isub dX11_wine_29 ?_
    obtain rfl := Option.some.inj hf
    exact V.iret dX11_wine_30 rfl (Nat.le_refl _) (Nat.le_refl _) ⟨rfl, rfl⟩
theorem dX11_evening_0 : decode cX11_evening 0 = .ok (.aload_n 0, 1) := by decide +kernel
theorem dX11_evening_1 : decode cX11_evening 1 = .ok (.getfield 59, 3) := by decide +kernel
theorem dX11_evening_4 : decode cX11_evening 4 = .ok (.aload_n 0, 1) := by decide +kernel
theorem dX11_evening_5 : decode cX11_evening 5 = .ok (.getfield 30, 3) := by decide +kernel
theorem dX11_evening_8 : decode cX11_evening 8 = .ok (.invokevirtual 174, 3) := by decide +kernel
theorem dX11_evening_11 : decode cX11_evening 11 = .ok (.aload_n 0, 1) := by decide +kernel
theorem dX11_evening_12 : decode cX11_evening 12 = .ok (.getfield 30, 3) := by decide +kernel
theorem dX11_evening_15 : decode cX11_evening 15 = .ok (.aload_n 0, 1) := by decide +kernel
theorem dX11_evening_16 : decode cX11_evening 16 = .ok (.getfield 23, 3) := by decide +kernel
theorem dX11_evening_19 : decode cX11_evening 19 = .ok (.invokevirtual 198, 3) := by decide +kernel
theorem dX11_evening_22 : decode cX11_evening 22 = .ok (.aload_n 0, 1) := by decide +kernel
theorem dX11_evening_23 : decode cX11_evening 23 = .ok (.invokevirtual 182, 3) := by decide +kernel
theorem dX11_evening_26 : decode cX11_evening 26 = .ok (.aload_n 0, 1) := by decide +kernel
theorem dX11_evening_27 : decode cX11_evening 27 = .ok (.getfield 59, 3) := by decide +kernel
theorem dX11_evening_30 : decode cX11_evening 30 = .ok (.getfield 201, 3) := by decide +kernel
theorem dX11_evening_33 : decode cX11_evening 33 = .ok (.ireturn, 1) := by decide +kernel
def x_evening (F : Nat) (I : Nat → Nat → Int32) (x : Nat) (c : Nat) : Option (Int32 × (Nat → Nat → Int32)) := (s_copyFrom I (x + 94) (x + 12)).bind (fun q1 => let I3 := q1; (s_standAgain F I3 (x + 12) c).bind (fun q4 => let I6 := q4; (x_keepForUndo I6 x).bind (fun q7 => let I9 := q7; some ((I9 (x + 94) 2), I9))))
theorem c_x_evening {l : Launch} {D : va_G} {E : Nat → ClassId} {B : Nat → Prop} {n F : Nat} {T : Nat → Option (Nat × Nat)} {I : Nat → Nat → Int32} {J : Nat → Nat → Int64} {P : Nat → Nat → Option Nat} {x : Nat} {c : Nat}  {r : Int32 × (Nat → Nat → Int32)} (hx : isSR T P x) (hs_c : isCt T P c) (hc : P x 3 = some c) (hf : x_evening F I x c = some r) : Ct l D E B yX11_evening cX11_evening 1 (some .int) 4 0 0 [.ref x] (n, T, I, J, P) (Ret (some (.int r.1)) (n, T, r.2, J, P)) := by
  unfold x_evening at hf
  refine Ct.ofV (by decide) (Nat.le_of_ble_eq_true rfl) ?_
  refine V.aload_n dX11_evening_0 rfl ?_
  refine V.getr fl_X11_59 dX11_evening_1 (hx.1 0 (11, 0) rfl) (hx.2.1 0 11 94 rfl) (by decide) rfl ?_
  refine V.aload_n dX11_evening_4 rfl ?_
  refine V.getr fl_X11_30 dX11_evening_5 (hx.1 0 (11, 0) rfl) (hx.2.1 0 4 12 rfl) (by decide) rfl ?_
  obtain ⟨I3, hk2, hf⟩ := bnd_some hf
  try dsimp only at hf
  refine V.inv cv_X11_174 (c_s_copyFrom (hx.2.2.1 94 rfl) (hx.2.2.1 12 rfl) hk2) dX11_evening_8 ((hx.2.2.1 94 rfl).1 0 (8, 0) rfl) (by decide) rfl rfl rfl (Nat.le_of_ble_eq_true rfl) (by decide) (by decide) (Nat.le_refl _) (Nat.le_refl _) (fun _ _ hq => ?_)
  obtain ⟨rfl, rfl⟩ := hq
  refine V.aload_n dX11_evening_11 rfl ?_
  refine V.getr fl_X11_30 dX11_evening_12 (hx.1 0 (11, 0) rfl) (hx.2.1 0 4 12 rfl) (by decide) rfl ?_
  refine V.aload_n dX11_evening_15 rfl ?_
  refine V.getr fl_X11_23 dX11_evening_16 (hx.1 0 (11, 0) rfl) hc (by decide) rfl ?_
  obtain ⟨I6, hk5, hf⟩ := bnd_some hf
  try dsimp only at hf
  refine V.inv cv_X11_198 (c_s_standAgain (hx.2.2.1 12 rfl) hs_c hk5) dX11_evening_19 ((hx.2.2.1 12 rfl).1 0 (8, 0) rfl) (by decide) rfl rfl rfl (Nat.le_of_ble_eq_true rfl) (by decide) (by decide) (Nat.le_refl _) (Nat.le_refl _) (fun _ _ hq => ?_)
  obtain ⟨rfl, rfl⟩ := hq
  refine V.aload_n dX11_evening_22 rfl ?_
  obtain ⟨I9, hk8, hf⟩ := bnd_some hf
  try dsimp only at hf
  refine V.inv cv_X11_182 (c_x_keepForUndo hx hk8) dX11_evening_23 (hx.1 0 (11, 0) rfl) (by decide) rfl rfl rfl (Nat.le_of_ble_eq_true rfl) (by decide) (by decide) (Nat.le_refl _) (Nat.le_refl _) (fun _ _ hq => ?_)
  obtain ⟨rfl, rfl⟩ := hq
  refine V.aload_n dX11_evening_26 rfl ?_
  refine V.getr fl_X11_59 dX11_evening_27 (hx.1 0 (11, 0) rfl) (hx.2.1 0 11 94 rfl) (by decide) rfl ?_
  refine V.getf fl_X11_201 dX11_evening_30 ((hx.2.2.1 94 rfl).1 0 (8, 0) rfl) (by decide) rfl ?_
  obtain rfl := Option.some.inj hf
  exact V.iret dX11_evening_33 rfl (Nat.le_refl _) (Nat.le_refl _) ⟨rfl, rfl⟩
theorem dX11_undo_0 : decode cX11_undo 0 = .ok (.iload_n 1, 1) := by decide +kernel
theorem dX11_undo_1 : decode cX11_undo 1 = .ok (.iconst 1, 1) := by decide +kernel
theorem dX11_undo_2 : decode cX11_undo 2 = .ok (.if_icmp .lt 14, 3) := by decide +kernel
theorem dX11_undo_5 : decode cX11_undo 5 = .ok (.iload_n 1, 1) := by decide +kernel
theorem dX11_undo_6 : decode cX11_undo 6 = .ok (.aload_n 0, 1) := by decide +kernel
theorem dX11_undo_7 : decode cX11_undo 7 = .ok (.getfield 37, 3) := by decide +kernel
theorem dX11_undo_10 : decode cX11_undo 10 = .ok (.getfield 204, 3) := by decide +kernel
theorem dX11_undo_13 : decode cX11_undo 13 = .ok (.if_icmp .le 6, 3) := by decide +kernel
theorem dX11_undo_16 : decode cX11_undo 16 = .ok (.bipush (-3), 2) := by decide +kernel
theorem dX11_undo_18 : decode cX11_undo 18 = .ok (.ireturn, 1) := by decide +kernel
theorem dX11_undo_19 : decode cX11_undo 19 = .ok (.aload_n 0, 1) := by decide +kernel
theorem dX11_undo_20 : decode cX11_undo 20 = .ok (.getfield 37, 3) := by decide +kernel
theorem dX11_undo_23 : decode cX11_undo 23 = .ok (.aload_n 0, 1) := by decide +kernel
theorem dX11_undo_24 : decode cX11_undo 24 = .ok (.getfield 30, 3) := by decide +kernel
theorem dX11_undo_27 : decode cX11_undo 27 = .ok (.iload_n 1, 1) := by decide +kernel
theorem dX11_undo_28 : decode cX11_undo 28 = .ok (.invokevirtual 207, 3) := by decide +kernel
theorem dX11_undo_31 : decode cX11_undo 31 = .ok (.aload_n 0, 1) := by decide +kernel
theorem dX11_undo_32 : decode cX11_undo 32 = .ok (.dup, 1) := by decide +kernel
theorem dX11_undo_33 : decode cX11_undo 33 = .ok (.getfield 55, 3) := by decide +kernel
theorem dX11_undo_36 : decode cX11_undo 36 = .ok (.iconst 1, 1) := by decide +kernel
theorem dX11_undo_37 : decode cX11_undo 37 = .ok (.iadd, 1) := by decide +kernel
theorem dX11_undo_38 : decode cX11_undo 38 = .ok (.putfield 55, 3) := by decide +kernel
theorem dX11_undo_41 : decode cX11_undo 41 = .ok (.aload_n 0, 1) := by decide +kernel
theorem dX11_undo_42 : decode cX11_undo 42 = .ok (.getfield 37, 3) := by decide +kernel
theorem dX11_undo_45 : decode cX11_undo 45 = .ok (.getfield 204, 3) := by decide +kernel
theorem dX11_undo_48 : decode cX11_undo 48 = .ok (.ireturn, 1) := by decide +kernel
def x_undo (I : Nat → Nat → Int32) (x : Nat) (v1 : Int32) : Option (Int32 × (Nat → Nat → Int32)) := if v1 < 1 then (some ((-3), I)) else (if v1 ≤ (I (x + 19) 2) then ((pa_bringBack I x (x + 12) v1).bind (fun q3 => let I5 := q3; let I6 := uI I5 x 9 ((I5 x 9) + 1); some ((I6 (x + 19) 2), I6))) else (some ((-3), I)))
theorem c_x_undo {l : Launch} {D : va_G} {E : Nat → ClassId} {B : Nat → Prop} {n : Nat} {T : Nat → Option (Nat × Nat)} {I : Nat → Nat → Int32} {J : Nat → Nat → Int64} {P : Nat → Nat → Option Nat} {x : Nat} {v1 : Int32} {r : Int32 × (Nat → Nat → Int32)} (hx : isSR T P x) (hf : x_undo I x v1 = some r) : Ct l D E B yX11_undo cX11_undo 2 (some .int) 3 0 0 [.ref x, .int v1] (n, T, I, J, P) (Ret (some (.int r.1)) (n, T, r.2, J, P)) := by
  unfold x_undo at hf
  refine Ct.ofV (by decide) (Nat.le_of_ble_eq_true rfl) ?_
  refine V.iload_n dX11_undo_0 rfl ?_
  refine V.iconst (v := 1) dX11_undo_1 (by decide) ?_
  refine V.icmp_lt 16 dX11_undo_2 (by decide) (fun c1 => ?_) (fun c1 => ?_)
  · rw [if_pos c1] at hf
    refine V.bipush (v := -3) dX11_undo_16 (by decide) ?_
    obtain rfl := Option.some.inj hf
    exact V.iret dX11_undo_18 rfl (Nat.le_refl _) (Nat.le_refl _) ⟨rfl, rfl⟩
  · rw [if_neg c1] at hf
    refine V.iload_n dX11_undo_5 rfl ?_
    refine V.aload_n dX11_undo_6 rfl ?_
    refine V.getr fl_X11_37 dX11_undo_7 (hx.1 0 (11, 0) rfl) (hx.2.1 0 5 19 rfl) (by decide) rfl ?_
    refine V.getf fl_X11_204 dX11_undo_10 (hx.1 19 (6, 0) rfl) (by decide) rfl ?_
    refine V.icmp_le 19 dX11_undo_13 (by decide) (fun c2 => ?_) (fun c2 => ?_)
    · rw [if_pos c2] at hf
      refine V.aload_n dX11_undo_19 rfl ?_
      refine V.getr fl_X11_37 dX11_undo_20 (hx.1 0 (11, 0) rfl) (hx.2.1 0 5 19 rfl) (by decide) rfl ?_
      refine V.aload_n dX11_undo_23 rfl ?_
      refine V.getr fl_X11_30 dX11_undo_24 (hx.1 0 (11, 0) rfl) (hx.2.1 0 4 12 rfl) (by decide) rfl ?_
      refine V.iload_n dX11_undo_27 rfl ?_
      obtain ⟨I5, hk4, hf⟩ := bnd_some hf
      try dsimp only at hf
      refine V.inv cv_X11_207 (c_pa_bringBack hx (hx.2.2.1 12 rfl) hk4) dX11_undo_28 (hx.1 19 (6, 0) rfl) (by decide) rfl rfl rfl (Nat.le_of_ble_eq_true rfl) (by decide) (by decide) (Nat.le_refl _) (Nat.le_refl _) (fun _ _ hq => ?_)
      obtain ⟨rfl, rfl⟩ := hq
      refine V.aload_n dX11_undo_31 rfl ?_
      refine V.dup dX11_undo_32 rfl ?_
      refine V.getf fl_X11_55 dX11_undo_33 (hx.1 0 (11, 0) rfl) (by decide) rfl ?_
      refine V.iconst (v := 1) dX11_undo_36 (by decide) ?_
      refine V.iadd dX11_undo_37 ?_
      refine V.putiE fl_X11_55 dX11_undo_38 (hx.1 0 (11, 0) rfl) (by decide) (fun h => by cases h) rfl rfl rfl (Nat.le_of_ble_eq_true rfl) (fun I6 e7 => ?_)
      rw [← e7] at hf
      try dsimp only at hf
      clear e7
      refine V.aload_n dX11_undo_41 rfl ?_
      refine V.getr fl_X11_37 dX11_undo_42 (hx.1 0 (11, 0) rfl) (hx.2.1 0 5 19 rfl) (by decide) rfl ?_
      refine V.getf fl_X11_204 dX11_undo_45 (hx.1 19 (6, 0) rfl) (by decide) rfl ?_
      obtain rfl := Option.some.inj hf
      exact V.iret dX11_undo_48 rfl (Nat.le_refl _) (Nat.le_refl _) ⟨rfl, rfl⟩
    · rw [if_neg c2] at hf
      refine V.bipush (v := -3) dX11_undo_16 (by decide) ?_
      obtain rfl := Option.some.inj hf
      exact V.iret dX11_undo_18 rfl (Nat.le_refl _) (Nat.le_refl _) ⟨rfl, rfl⟩
theorem dX11_noTray_0 : decode cX11_noTray 0 = .ok (.iload_n 1, 1) := by decide +kernel
theorem dX11_noTray_1 : decode cX11_noTray 1 = .ok (.ifCond .lt 8, 3) := by decide +kernel
theorem dX11_noTray_4 : decode cX11_noTray 4 = .ok (.iload_n 1, 1) := by decide +kernel
theorem dX11_noTray_5 : decode cX11_noTray 5 = .ok (.iconst 4, 1) := by decide +kernel
theorem dX11_noTray_6 : decode cX11_noTray 6 = .ok (.if_icmp .lt 7, 3) := by decide +kernel
theorem dX11_noTray_9 : decode cX11_noTray 9 = .ok (.iconst 1, 1) := by decide +kernel
theorem dX11_noTray_10 : decode cX11_noTray 10 = .ok (.goto 4, 3) := by decide +kernel
theorem dX11_noTray_13 : decode cX11_noTray 13 = .ok (.iconst 0, 1) := by decide +kernel
theorem dX11_noTray_14 : decode cX11_noTray 14 = .ok (.ireturn, 1) := by decide +kernel
def x_noTray (x : Nat) (v1 : Int32) : Int32 := if v1 < 0 then (1) else (if v1 < 4 then (0) else (1))
theorem c_x_noTray {l : Launch} {D : va_G} {E : Nat → ClassId} {B : Nat → Prop} {n : Nat} {T : Nat → Option (Nat × Nat)} {I : Nat → Nat → Int32} {J : Nat → Nat → Int64} {P : Nat → Nat → Option Nat} {x : Nat} {v1 : Int32} (hx : isSR T P x) : Ct l D E B yX11_noTray cX11_noTray 2 (some .boolean) 0 0 0 [.ref x, .int v1] (n, T, I, J, P) (Ret (some (.int (x_noTray x v1))) (n, T, I, J, P)) := by
  obtain ⟨r, hf⟩ : ∃ r, x_noTray x v1 = r := ⟨_, rfl⟩
  rw [hf]
  unfold x_noTray at hf
  refine Ct.ofV (by decide) (Nat.le_of_ble_eq_true rfl) ?_
  refine V.iload_n dX11_noTray_0 rfl ?_
  refine V.if_lt 9 dX11_noTray_1 (by decide) (fun c1 => ?_) (fun c1 => ?_)
  · rw [if_pos c1] at hf
    refine V.iconst (v := 1) dX11_noTray_9 (by decide) ?_
    refine V.goto 14 dX11_noTray_10 (by decide) ?_
    subst hf
    exact V.zret dX11_noTray_14 rfl rfl (Nat.le_refl _) (Nat.le_refl _) ⟨rfl, rfl⟩
  · rw [if_neg c1] at hf
    refine V.iload_n dX11_noTray_4 rfl ?_
    refine V.iconst (v := 4) dX11_noTray_5 (by decide) ?_
    refine V.icmp_lt 13 dX11_noTray_6 (by decide) (fun c2 => ?_) (fun c2 => ?_)
    · rw [if_pos c2] at hf
      refine V.iconst (v := 0) dX11_noTray_13 (by decide) ?_
      subst hf
      exact V.zret dX11_noTray_14 rfl rfl (Nat.le_refl _) (Nat.le_refl _) ⟨rfl, rfl⟩
    · rw [if_neg c2] at hf
      refine V.iconst (v := 1) dX11_noTray_9 (by decide) ?_
      refine V.goto 14 dX11_noTray_10 (by decide) ?_
      subst hf
      exact V.zret dX11_noTray_14 rfl rfl (Nat.le_refl _) (Nat.le_refl _) ⟨rfl, rfl⟩
theorem dX11_doDeed_0 : decode cX11_doDeed 0 = .ok (.lload_n 2, 1) := by decide +kernel
theorem dX11_doDeed_1 : decode cX11_doDeed 1 = .ok (.ldc2_w 249, 3) := by decide +kernel
theorem dX11_doDeed_4 : decode cX11_doDeed 4 = .ok (.lcmp, 1) := by decide +kernel
theorem dX11_doDeed_5 : decode cX11_doDeed 5 = .ok (.ifCond .ne 13, 3) := by decide +kernel
theorem dX11_doDeed_8 : decode cX11_doDeed 8 = .ok (.aload_n 1, 1) := by decide +kernel
theorem dX11_doDeed_9 : decode cX11_doDeed 9 = .ok (.aload_n 0, 1) := by decide +kernel
theorem dX11_doDeed_10 : decode cX11_doDeed 10 = .ok (.getfield 23, 3) := by decide +kernel
theorem dX11_doDeed_13 : decode cX11_doDeed 13 = .ok (.invokevirtual 198, 3) := by decide +kernel
theorem dX11_doDeed_16 : decode cX11_doDeed 16 = .ok (.iconst 0, 1) := by decide +kernel
theorem dX11_doDeed_17 : decode cX11_doDeed 17 = .ok (.ireturn, 1) := by decide +kernel
theorem dX11_doDeed_18 : decode cX11_doDeed 18 = .ok (.lload_n 2, 1) := by decide +kernel
theorem dX11_doDeed_19 : decode cX11_doDeed 19 = .ok (.lconst 0, 1) := by decide +kernel
theorem dX11_doDeed_20 : decode cX11_doDeed 20 = .ok (.lcmp, 1) := by decide +kernel
theorem dX11_doDeed_21 : decode cX11_doDeed 21 = .ok (.ifCond .lt 11, 3) := by decide +kernel
theorem dX11_doDeed_24 : decode cX11_doDeed 24 = .ok (.lload_n 2, 1) := by decide +kernel
theorem dX11_doDeed_25 : decode cX11_doDeed 25 = .ok (.ldc2_w 251, 3) := by decide +kernel
theorem dX11_doDeed_28 : decode cX11_doDeed 28 = .ok (.lcmp, 1) := by decide +kernel
theorem dX11_doDeed_29 : decode cX11_doDeed 29 = .ok (.ifCond .le 5, 3) := by decide +kernel
theorem dX11_doDeed_32 : decode cX11_doDeed 32 = .ok (.iconst 1, 1) := by decide +kernel
theorem dX11_doDeed_33 : decode cX11_doDeed 33 = .ok (.ireturn, 1) := by decide +kernel
theorem dX11_doDeed_34 : decode cX11_doDeed 34 = .ok (.lload_n 2, 1) := by decide +kernel
theorem dX11_doDeed_35 : decode cX11_doDeed 35 = .ok (.l2i, 1) := by decide +kernel
theorem dX11_doDeed_36 : decode cX11_doDeed 36 = .ok (.istore 4, 2) := by decide +kernel
theorem dX11_doDeed_38 : decode cX11_doDeed 38 = .ok (.iload 4, 2) := by decide +kernel
theorem dX11_doDeed_40 : decode cX11_doDeed 40 = .ok (.bipush 10, 2) := by decide +kernel
theorem dX11_doDeed_42 : decode cX11_doDeed 42 = .ok (.if_icmp .ge 11, 3) := by decide +kernel
theorem dX11_doDeed_45 : decode cX11_doDeed 45 = .ok (.aload_n 0, 1) := by decide +kernel
theorem dX11_doDeed_46 : decode cX11_doDeed 46 = .ok (.aload_n 1, 1) := by decide +kernel
theorem dX11_doDeed_47 : decode cX11_doDeed 47 = .ok (.iload 4, 2) := by decide +kernel
theorem dX11_doDeed_49 : decode cX11_doDeed 49 = .ok (.invokevirtual 178, 3) := by decide +kernel
theorem dX11_doDeed_52 : decode cX11_doDeed 52 = .ok (.ireturn, 1) := by decide +kernel
theorem dX11_doDeed_53 : decode cX11_doDeed 53 = .ok (.iload 4, 2) := by decide +kernel
theorem dX11_doDeed_55 : decode cX11_doDeed 55 = .ok (.bipush 20, 2) := by decide +kernel
theorem dX11_doDeed_57 : decode cX11_doDeed 57 = .ok (.if_icmp .ge 14, 3) := by decide +kernel
theorem dX11_doDeed_60 : decode cX11_doDeed 60 = .ok (.aload_n 0, 1) := by decide +kernel
theorem dX11_doDeed_61 : decode cX11_doDeed 61 = .ok (.aload_n 1, 1) := by decide +kernel
theorem dX11_doDeed_62 : decode cX11_doDeed 62 = .ok (.iload 4, 2) := by decide +kernel
theorem dX11_doDeed_64 : decode cX11_doDeed 64 = .ok (.bipush 10, 2) := by decide +kernel
theorem dX11_doDeed_66 : decode cX11_doDeed 66 = .ok (.isub, 1) := by decide +kernel
theorem dX11_doDeed_67 : decode cX11_doDeed 67 = .ok (.invokevirtual 189, 3) := by decide +kernel
theorem dX11_doDeed_70 : decode cX11_doDeed 70 = .ok (.ireturn, 1) := by decide +kernel
theorem dX11_doDeed_71 : decode cX11_doDeed 71 = .ok (.iload 4, 2) := by decide +kernel
theorem dX11_doDeed_73 : decode cX11_doDeed 73 = .ok (.bipush 100, 2) := by decide +kernel
theorem dX11_doDeed_75 : decode cX11_doDeed 75 = .ok (.if_icmp .ge 5, 3) := by decide +kernel
theorem dX11_doDeed_78 : decode cX11_doDeed 78 = .ok (.iconst 1, 1) := by decide +kernel
theorem dX11_doDeed_79 : decode cX11_doDeed 79 = .ok (.ireturn, 1) := by decide +kernel
theorem dX11_doDeed_80 : decode cX11_doDeed 80 = .ok (.iload 4, 2) := by decide +kernel
theorem dX11_doDeed_82 : decode cX11_doDeed 82 = .ok (.sipush 200, 3) := by decide +kernel
theorem dX11_doDeed_85 : decode cX11_doDeed 85 = .ok (.if_icmp .ge 24, 3) := by decide +kernel
theorem dX11_doDeed_88 : decode cX11_doDeed 88 = .ok (.aload_n 0, 1) := by decide +kernel
theorem dX11_doDeed_89 : decode cX11_doDeed 89 = .ok (.aload_n 1, 1) := by decide +kernel
theorem dX11_doDeed_90 : decode cX11_doDeed 90 = .ok (.iload 4, 2) := by decide +kernel
theorem dX11_doDeed_92 : decode cX11_doDeed 92 = .ok (.bipush 100, 2) := by decide +kernel
theorem dX11_doDeed_94 : decode cX11_doDeed 94 = .ok (.isub, 1) := by decide +kernel
theorem dX11_doDeed_95 : decode cX11_doDeed 95 = .ok (.bipush 10, 2) := by decide +kernel
theorem dX11_doDeed_97 : decode cX11_doDeed 97 = .ok (.idiv, 1) := by decide +kernel
theorem dX11_doDeed_98 : decode cX11_doDeed 98 = .ok (.iload 4, 2) := by decide +kernel
theorem dX11_doDeed_100 : decode cX11_doDeed 100 = .ok (.bipush 10, 2) := by decide +kernel
theorem dX11_doDeed_102 : decode cX11_doDeed 102 = .ok (.irem, 1) := by decide +kernel
theorem dX11_doDeed_103 : decode cX11_doDeed 103 = .ok (.invokevirtual 192, 3) := by decide +kernel
theorem dX11_doDeed_106 : decode cX11_doDeed 106 = .ok (.goto 22, 3) := by decide +kernel
theorem dX11_doDeed_109 : decode cX11_doDeed 109 = .ok (.aload_n 0, 1) := by decide +kernel
theorem dX11_doDeed_110 : decode cX11_doDeed 110 = .ok (.aload_n 1, 1) := by decide +kernel
theorem dX11_doDeed_111 : decode cX11_doDeed 111 = .ok (.iload 4, 2) := by decide +kernel
theorem dX11_doDeed_113 : decode cX11_doDeed 113 = .ok (.sipush 200, 3) := by decide +kernel
theorem dX11_doDeed_116 : decode cX11_doDeed 116 = .ok (.isub, 1) := by decide +kernel
theorem dX11_doDeed_117 : decode cX11_doDeed 117 = .ok (.bipush 10, 2) := by decide +kernel
theorem dX11_doDeed_119 : decode cX11_doDeed 119 = .ok (.idiv, 1) := by decide +kernel
theorem dX11_doDeed_120 : decode cX11_doDeed 120 = .ok (.iload 4, 2) := by decide +kernel
theorem dX11_doDeed_122 : decode cX11_doDeed 122 = .ok (.bipush 10, 2) := by decide +kernel
theorem dX11_doDeed_124 : decode cX11_doDeed 124 = .ok (.irem, 1) := by decide +kernel
theorem dX11_doDeed_125 : decode cX11_doDeed 125 = .ok (.invokevirtual 195, 3) := by decide +kernel
theorem dX11_doDeed_128 : decode cX11_doDeed 128 = .ok (.ireturn, 1) := by decide +kernel
def x_doDeed (F : Nat) (T : Nat → Option (Nat × Nat)) (I : Nat → Nat → Int32) (P : Nat → Nat → Option Nat) (x : Nat) (a : Nat) (c : Nat) (v2 : Int64) : Option (Int32 × (Nat → Nat → Int32)) := if (lg_cmp v2 (-1)) = 0 then ((s_standAgain F I a c).bind (fun q26 => let I28 := q26; some (0, I28))) else (if (lg_cmp v2 0) < 0 then (some (1, I)) else (if (lg_cmp v2 299) ≤ 0 then (let x4 := (Int64.toInt32 v2); if 10 ≤ x4 then (if 20 ≤ x4 then (if 100 ≤ x4 then (if 200 ≤ x4 then ((x_doWine I x a c ((x4 - 200) / 10) (x4 - x4 / 10 * 10)).bind (fun q10 => let u12 := q10.1; let I13 := q10.2; some (u12, I13))) else ((x_doChange I x a c ((x4 - 100) / 10) (x4 - x4 / 10 * 10)).bind (fun q14 => let u16 := q14.1; let I17 := q14.2; some (u16, I17)))) else (some (1, I))) else ((x_doSit I x a c (x4 - 10)).bind (fun q18 => let u20 := q18.1; let I21 := q18.2; some (u20, I21)))) else ((x_doMinute F T I P x a c x4).bind (fun q22 => let u24 := q22.1; let I25 := q22.2; some (u24, I25)))) else (some (1, I))))
theorem c_x_doDeed {l : Launch} {D : va_G} {E : Nat → ClassId} {B : Nat → Prop} {n F : Nat} {T : Nat → Option (Nat × Nat)} {I : Nat → Nat → Int32} {J : Nat → Nat → Int64} {P : Nat → Nat → Option Nat} {x : Nat} {a : Nat} {c : Nat} {v2 : Int64} {r : Int32 × (Nat → Nat → Int32)} (hx : isSR T P x) (hs_a : isSt T P a) (hs_c : isCt T P c) (hc : P x 3 = some c) (hf : x_doDeed F T I P x a c v2 = some r) : Ct l D E B yX11_doDeed cX11_doDeed 5 (some .int) 5 0 0 [.ref x, .ref a, .long v2] (n, T, I, J, P) (Ret (some (.int r.1)) (n, T, r.2, J, P)) := by
  unfold x_doDeed at hf
  refine Ct.ofV (by decide) (Nat.le_of_ble_eq_true rfl) ?_
  refine V.lload_n dX11_doDeed_0 rfl ?_
  refine V.ldc2 dX11_doDeed_1 kc_X11_249 ?_
  refine V.lcmp dX11_doDeed_4 ?_
  refine V.if_ne 18 dX11_doDeed_5 (by decide) (fun c1 => ?_) (fun c1 => ?_)
  · rw [if_neg c1] at hf
    refine V.lload_n dX11_doDeed_18 rfl ?_
    refine V.lconst (v := 0) dX11_doDeed_19 (by decide) ?_
    refine V.lcmp dX11_doDeed_20 ?_
    refine V.if_lt 32 dX11_doDeed_21 (by decide) (fun c2 => ?_) (fun c2 => ?_)
    · rw [if_pos c2] at hf
      refine V.iconst (v := 1) dX11_doDeed_32 (by decide) ?_
      obtain rfl := Option.some.inj hf
      exact V.iret dX11_doDeed_33 rfl (Nat.le_refl _) (Nat.le_refl _) ⟨rfl, rfl⟩
    · rw [if_neg c2] at hf
      refine V.lload_n dX11_doDeed_24 rfl ?_
      refine V.ldc2 dX11_doDeed_25 kc_X11_251 ?_
      refine V.lcmp dX11_doDeed_28 ?_
      refine V.if_le 34 dX11_doDeed_29 (by decide) (fun c3 => ?_) (fun c3 => ?_)
      · rw [if_pos c3] at hf
        refine V.lload_n dX11_doDeed_34 rfl ?_
        refine V.l2i dX11_doDeed_35 ?_
        refine V.istore dX11_doDeed_36 (by decide) (by first | exact rfl | exact trivial) ?_
        obtain ⟨x4, e5⟩ : ∃ zz_, zz_ = (Int64.toInt32 v2) := ⟨_, rfl⟩
        rw [← e5] at hf ⊢
        try dsimp only at hf
        refine V.iload dX11_doDeed_38 rfl ?_
        refine V.bipush (v := 10) dX11_doDeed_40 (by decide) ?_
        refine V.icmp_ge 53 dX11_doDeed_42 (by decide) (fun c6 => ?_) (fun c6 => ?_)
        · rw [if_pos c6] at hf
          refine V.iload dX11_doDeed_53 rfl ?_
          refine V.bipush (v := 20) dX11_doDeed_55 (by decide) ?_
          refine V.icmp_ge 71 dX11_doDeed_57 (by decide) (fun c7 => ?_) (fun c7 => ?_)
          · rw [if_pos c7] at hf
            refine V.iload dX11_doDeed_71 rfl ?_
            refine V.bipush (v := 100) dX11_doDeed_73 (by decide) ?_
            refine V.icmp_ge 80 dX11_doDeed_75 (by decide) (fun c8 => ?_) (fun c8 => ?_)
            · rw [if_pos c8] at hf
              refine V.iload dX11_doDeed_80 rfl ?_
              refine V.sipush (v := 200) dX11_doDeed_82 (by decide) ?_
              refine V.icmp_ge 109 dX11_doDeed_85 (by decide) (fun c9 => ?_) (fun c9 => ?_)
              · rw [if_pos c9] at hf
                refine V.aload_n dX11_doDeed_109 rfl ?_
                refine V.aload_n dX11_doDeed_110 rfl ?_
                refine V.iload dX11_doDeed_111 rfl ?_
                refine V.sipush (v := 200) dX11_doDeed_113 (by decide) ?_
                refine V.isub dX11_doDeed_116 ?_
                refine V.bipush (v := 10) dX11_doDeed_117 (by decide) ?_
                refine V.idiv dX11_doDeed_119 (by decide) ?_
                refine V.iload dX11_doDeed_120 rfl ?_
                refine V.bipush (v := 10) dX11_doDeed_122 (by decide) ?_
                refine V.irem dX11_doDeed_124 (by decide) ?_
                obtain ⟨⟨u12, I13⟩, hk11, hf⟩ := bnd_some hf
                try dsimp only at hf
                refine V.inv cv_X11_195 (c_x_doWine hx hs_a hs_c hc hk11) dX11_doDeed_125 (hx.1 0 (11, 0) rfl) (by decide) rfl rfl rfl (Nat.le_of_ble_eq_true rfl) (by decide) (by decide) (Nat.le_refl _) (Nat.le_refl _) (fun _ _ hq => ?_)
                obtain ⟨rfl, rfl⟩ := hq
                try dsimp only
                obtain rfl := Option.some.inj hf
                exact V.iret dX11_doDeed_128 rfl (Nat.le_refl _) (Nat.le_refl _) ⟨rfl, rfl⟩
              · rw [if_neg c9] at hf
                refine V.aload_n dX11_doDeed_88 rfl ?_
                refine V.aload_n dX11_doDeed_89 rfl ?_
                refine V.iload dX11_doDeed_90 rfl ?_
                refine V.bipush (v := 100) dX11_doDeed_92 (by decide) ?_
                refine V.isub dX11_doDeed_94 ?_
                refine V.bipush (v := 10) dX11_doDeed_95 (by decide) ?_
                refine V.idiv dX11_doDeed_97 (by decide) ?_
                refine V.iload dX11_doDeed_98 rfl ?_
                refine V.bipush (v := 10) dX11_doDeed_100 (by decide) ?_
                refine V.irem dX11_doDeed_102 (by decide) ?_
                obtain ⟨⟨u16, I17⟩, hk15, hf⟩ := bnd_some hf
                try dsimp only at hf
                refine V.inv cv_X11_192 (c_x_doChange hx hs_a hs_c hc hk15) dX11_doDeed_103 (hx.1 0 (11, 0) rfl) (by decide) rfl rfl rfl (Nat.le_of_ble_eq_true rfl) (by decide) (by decide) (Nat.le_refl _) (Nat.le_refl _) (fun _ _ hq => ?_)
                obtain ⟨rfl, rfl⟩ := hq
                try dsimp only
                refine V.goto 128 dX11_doDeed_106 (by decide) ?_
                obtain rfl := Option.some.inj hf
                exact V.iret dX11_doDeed_128 rfl (Nat.le_refl _) (Nat.le_refl _) ⟨rfl, rfl⟩
            · rw [if_neg c8] at hf
              refine V.iconst (v := 1) dX11_doDeed_78 (by decide) ?_
              obtain rfl := Option.some.inj hf
              exact V.iret dX11_doDeed_79 rfl (Nat.le_refl _) (Nat.le_refl _) ⟨rfl, rfl⟩
          · rw [if_neg c7] at hf
            refine V.aload_n dX11_doDeed_60 rfl ?_
            refine V.aload_n dX11_doDeed_61 rfl ?_
            refine V.iload dX11_doDeed_62 rfl ?_
            refine V.bipush (v := 10) dX11_doDeed_64 (by decide) ?_
            refine V.isub dX11_doDeed_66 ?_
            obtain ⟨⟨u20, I21⟩, hk19, hf⟩ := bnd_some hf
            try dsimp only at hf
            refine V.inv cv_X11_189 (c_x_doSit hx hs_a hs_c hc hk19) dX11_doDeed_67 (hx.1 0 (11, 0) rfl) (by decide) rfl rfl rfl (Nat.le_of_ble_eq_true rfl) (by decide) (by decide) (Nat.le_refl _) (Nat.le_refl _) (fun _ _ hq => ?_)
            obtain ⟨rfl, rfl⟩ := hq
            try dsimp only
            obtain rfl := Option.some.inj hf
            exact V.iret dX11_doDeed_70 rfl (Nat.le_refl _) (Nat.le_refl _) ⟨rfl, rfl⟩
        · rw [if_neg c6] at hf
          refine V.aload_n dX11_doDeed_45 rfl ?_
          refine V.aload_n dX11_doDeed_46 rfl ?_
          refine V.iload dX11_doDeed_47 rfl ?_
          obtain ⟨⟨u24, I25⟩, hk23, hf⟩ := bnd_some hf
          try dsimp only at hf
          refine V.inv cv_X11_178 (c_x_doMinute hx hs_a hs_c hc hk23) dX11_doDeed_49 (hx.1 0 (11, 0) rfl) (by decide) rfl rfl rfl (Nat.le_of_ble_eq_true rfl) (by decide) (by decide) (Nat.le_refl _) (Nat.le_refl _) (fun _ _ hq => ?_)
          obtain ⟨rfl, rfl⟩ := hq
          try dsimp only
          obtain rfl := Option.some.inj hf
          exact V.iret dX11_doDeed_52 rfl (Nat.le_refl _) (Nat.le_refl _) ⟨rfl, rfl⟩
      · rw [if_neg c3] at hf
        refine V.iconst (v := 1) dX11_doDeed_32 (by decide) ?_
        obtain rfl := Option.some.inj hf
        exact V.iret dX11_doDeed_33 rfl (Nat.le_refl _) (Nat.le_refl _) ⟨rfl, rfl⟩
  · rw [if_pos c1] at hf
    refine V.aload_n dX11_doDeed_8 rfl ?_
    refine V.aload_n dX11_doDeed_9 rfl ?_
    refine V.getr fl_X11_23 dX11_doDeed_10 (hx.1 0 (11, 0) rfl) hc (by decide) rfl ?_
    obtain ⟨I28, hk27, hf⟩ := bnd_some hf
    try dsimp only at hf
    refine V.inv cv_X11_198 (c_s_standAgain hs_a hs_c hk27) dX11_doDeed_13 (hs_a.1 0 (8, 0) rfl) (by decide) rfl rfl rfl (Nat.le_of_ble_eq_true rfl) (by decide) (by decide) (Nat.le_refl _) (Nat.le_refl _) (fun _ _ hq => ?_)
    obtain ⟨rfl, rfl⟩ := hq
    refine V.iconst (v := 0) dX11_doDeed_16 (by decide) ?_
    obtain rfl := Option.some.inj hf
    exact V.iret dX11_doDeed_17 rfl (Nat.le_refl _) (Nat.le_refl _) ⟨rfl, rfl⟩
theorem dX11_doAll_0 : decode cX11_doAll 0 = .ok (.iconst 0, 1) := by decide +kernel
theorem dX11_doAll_1 : decode cX11_doAll 1 = .ok (.istore_n 3, 1) := by decide +kernel
theorem dX11_doAll_2 : decode cX11_doAll 2 = .ok (.iload_n 3, 1) := by decide +kernel
theorem dX11_doAll_3 : decode cX11_doAll 3 = .ok (.aload_n 2, 1) := by decide +kernel
theorem dX11_doAll_4 : decode cX11_doAll 4 = .ok (.getfield 222, 3) := by decide +kernel
theorem dX11_doAll_7 : decode cX11_doAll 7 = .ok (.if_icmp .ge 25, 3) := by decide +kernel
theorem dX11_doAll_10 : decode cX11_doAll 10 = .ok (.aload_n 0, 1) := by decide +kernel
theorem dX11_doAll_11 : decode cX11_doAll 11 = .ok (.aload_n 1, 1) := by decide +kernel
theorem dX11_doAll_12 : decode cX11_doAll 12 = .ok (.aload_n 2, 1) := by decide +kernel
theorem dX11_doAll_13 : decode cX11_doAll 13 = .ok (.getfield 225, 3) := by decide +kernel
theorem dX11_doAll_16 : decode cX11_doAll 16 = .ok (.iload_n 3, 1) := by decide +kernel
theorem dX11_doAll_17 : decode cX11_doAll 17 = .ok (.laload, 1) := by decide +kernel
theorem dX11_doAll_18 : decode cX11_doAll 18 = .ok (.invokevirtual 229, 3) := by decide +kernel
theorem dX11_doAll_21 : decode cX11_doAll 21 = .ok (.ifCond .eq 5, 3) := by decide +kernel
theorem dX11_doAll_24 : decode cX11_doAll 24 = .ok (.iload_n 3, 1) := by decide +kernel
theorem dX11_doAll_25 : decode cX11_doAll 25 = .ok (.ireturn, 1) := by decide +kernel
theorem dX11_doAll_26 : decode cX11_doAll 26 = .ok (.iinc 3 1, 3) := by decide +kernel
theorem dX11_doAll_29 : decode cX11_doAll 29 = .ok (.goto (-27), 3) := by decide +kernel
theorem dX11_doAll_32 : decode cX11_doAll 32 = .ok (.aload_n 2, 1) := by decide +kernel
theorem dX11_doAll_33 : decode cX11_doAll 33 = .ok (.getfield 222, 3) := by decide +kernel
theorem dX11_doAll_36 : decode cX11_doAll 36 = .ok (.ireturn, 1) := by decide +kernel
def x_doAll_2 (F : Nat) (T : Nat → Option (Nat × Nat)) (J : Nat → Nat → Int64) (P : Nat → Nat → Option Nat) (x : Nat) (a : Nat) (ty : Nat) (c : Nat) : Nat → Int32 → (Nat → Nat → Int32) → Option ((Int32 × (Nat → Nat → Int32)) ⊕ (Int32 × (Nat → Nat → Int32)))
  | 0, _, _ => none
  | k + 1, l3, I => if (I ty 1) ≤ l3 then (some (.inr (l3, I))) else (chk l3 40 ((x_doDeed F T I P x a c (J (ty + 1) (Int32.toNatClampNeg l3))).bind (fun q3 => let u5 := q3.1; let I6 := q3.2; if u5 = 0 then (x_doAll_2 F T J P x a ty c k (l3 + 1) I6) else (some (.inl (l3, I6))))))
def x_doAll (F : Nat) (T : Nat → Option (Nat × Nat)) (I : Nat → Nat → Int32) (J : Nat → Nat → Int64) (P : Nat → Nat → Option Nat) (x : Nat) (a : Nat) (ty : Nat) (c : Nat) : Option (Int32 × (Nat → Nat → Int32)) := (x_doAll_2 F T J P x a ty c F 0 I).bind (fun q8 => match q8 with | .inl r0 => some r0 | .inr q0 => let m10 := q0.1; let I11 := q0.2; some ((I11 ty 1), I11))
theorem l_x_doAll_2 {l : Launch} {D : va_G} {E : Nat → ClassId} {B : Nat → Prop} {n F : Nat} {Q : Option Value → HT → Prop} {T : Nat → Option (Nat × Nat)} {J : Nat → Nat → Int64} {P : Nat → Nat → Option Nat} {x : Nat} {a : Nat} {ty : Nat} {c : Nat}  (hx : isSR T P x) (hs_a : isSt T P a) (hs_ty : isTy T P ty) (hs_c : isCt T P c) (hc : P x 3 = some c)  (r : (Int32 × (Nat → Nat → Int32)) ⊕ (Int32 × (Nat → Nat → Int32))) : ∀ (k : Nat) (l3 : Int32) (I : (Nat → Nat → Int32)), x_doAll_2 F T J P x a ty c k l3 I = some r → (match r with | .inl r => Q (some (.int r.1)) (n, T, r.2, J, P) | .inr r => V l D E B yX11_doAll cX11_doAll 4 (some .int) 6 0 0 Q 0 0 (n, T, r.2, J, P) 32 [(0, some (.ref x)), (1, some (.ref a)), (2, some (.ref ty)), (3, some (.int (r.1)))] []) → V l D E B yX11_doAll cX11_doAll 4 (some .int) 6 0 0 Q 0 0 (n, T, I, J, P) 2 [(0, some (.ref x)), (1, some (.ref a)), (2, some (.ref ty)), (3, some (.int l3))] [] := by
  intro k
  induction k with
  | zero =>
    intro l3 I hf hk
    cases hf
  | succ k ih =>
    intro l3 I hf hk
    unfold x_doAll_2 at hf
    refine V.iload_n dX11_doAll_2 rfl ?_
    refine V.aload_n dX11_doAll_3 rfl ?_
    refine V.getf fl_X11_222 dX11_doAll_4 (hs_ty.1 0 (9, 0) rfl) (by decide) rfl ?_
    refine V.icmp_ge 32 dX11_doAll_7 (by decide) (fun c1 => ?_) (fun c1 => ?_)
    · rw [if_pos c1] at hf
      obtain rfl := Option.some.inj hf
      exact V.lo [(0, some (.ref x)), (1, some (.ref a)), (2, some (.ref ty)), (3, some (.int l3))] (by simp only [Subs]; repeat' first | exact trivial | constructor | rfl) hk
    · rw [if_neg c1] at hf
      refine V.aload_n dX11_doAll_10 rfl ?_
      refine V.aload_n dX11_doAll_11 rfl ?_
      refine V.aload_n dX11_doAll_12 rfl ?_
      refine V.getr fl_X11_225 dX11_doAll_13 (hs_ty.1 0 (9, 0) rfl) (hs_ty.2 0 0 1 rfl) (by decide) rfl ?_
      refine V.iload_n dX11_doAll_16 rfl ?_
      obtain ⟨hb2, hf⟩ := chk_some hf
      refine V.lald dX11_doAll_17 (hs_ty.1 1 (22, 40) rfl) hb2 ?_
      obtain ⟨⟨u5, I6⟩, hk4, hf⟩ := bnd_some hf
      try dsimp only at hf
      refine V.inv cv_X11_229 (c_x_doDeed hx hs_a hs_c hc hk4) dX11_doAll_18 (hx.1 0 (11, 0) rfl) (by decide) rfl rfl rfl (Nat.le_of_ble_eq_true rfl) (by decide) (by decide) (Nat.le_refl _) (Nat.le_refl _) (fun _ _ hq => ?_)
      obtain ⟨rfl, rfl⟩ := hq
      try dsimp only
      refine V.if_eq 26 dX11_doAll_21 (by decide) (fun c7 => ?_) (fun c7 => ?_)
      · rw [if_pos c7] at hf
        refine V.iinc (v := (l3 + 1)) dX11_doAll_26 rfl rfl (by first | exact rfl | exact trivial) ?_
        refine V.goto 2 dX11_doAll_29 (by decide) ?_
        exact V.lo [(0, some (.ref x)), (1, some (.ref a)), (2, some (.ref ty)), (3, some (.int (l3 + 1)))] (by simp only [Subs]; repeat' first | exact trivial | constructor | rfl) (ih _ _ hf hk)
      · rw [if_neg c7] at hf
        refine V.iload_n dX11_doAll_24 rfl ?_
        obtain rfl := Option.some.inj hf
        exact V.iret dX11_doAll_25 rfl (Nat.le_refl _) (Nat.le_refl _) hk
theorem c_x_doAll {l : Launch} {D : va_G} {E : Nat → ClassId} {B : Nat → Prop} {n F : Nat} {T : Nat → Option (Nat × Nat)} {I : Nat → Nat → Int32} {J : Nat → Nat → Int64} {P : Nat → Nat → Option Nat} {x : Nat} {a : Nat} {ty : Nat} {c : Nat}  {r : Int32 × (Nat → Nat → Int32)} (hx : isSR T P x) (hs_a : isSt T P a) (hs_ty : isTy T P ty) (hs_c : isCt T P c) (hc : P x 3 = some c) (hf : x_doAll F T I J P x a ty c = some r) : Ct l D E B yX11_doAll cX11_doAll 4 (some .int) 6 0 0 [.ref x, .ref a, .ref ty] (n, T, I, J, P) (Ret (some (.int r.1)) (n, T, r.2, J, P)) := by
  unfold x_doAll at hf
  refine Ct.ofV (by decide) (Nat.le_of_ble_eq_true rfl) ?_
  refine V.iconst (v := 0) dX11_doAll_0 (by decide) ?_
  refine V.istore_n dX11_doAll_1 rfl (by decide) (by first | exact rfl | exact trivial) ?_
  obtain ⟨q8, hk9, hf⟩ := bnd_some hf
  refine V.lo [(0, some (.ref x)), (1, some (.ref a)), (2, some (.ref ty)), (3, some (.int 0))] (by simp only [Subs]; repeat' first | exact trivial | constructor | rfl) (l_x_doAll_2 hx hs_a hs_ty hs_c hc q8 F _ _ hk9 ?_)
  rcases q8 with r0 | ⟨m10, I11⟩
  · try dsimp only at hf ⊢
    obtain rfl := Option.some.inj hf
    exact ⟨rfl, rfl⟩
  · try dsimp only at hf ⊢
    refine V.aload_n dX11_doAll_32 rfl ?_
    refine V.getf fl_X11_222 dX11_doAll_33 (hs_ty.1 0 (9, 0) rfl) (by decide) rfl ?_
    obtain rfl := Option.some.inj hf
    exact V.iret dX11_doAll_36 rfl (Nat.le_refl _) (Nat.le_refl _) ⟨rfl, rfl⟩
theorem dX11_judge_0 : decode cX11_judge 0 = .ok (.aload_n 0, 1) := by decide +kernel
theorem dX11_judge_1 : decode cX11_judge 1 = .ok (.iload_n 1, 1) := by decide +kernel
theorem dX11_judge_2 : decode cX11_judge 2 = .ok (.invokevirtual 211, 3) := by decide +kernel
theorem dX11_judge_5 : decode cX11_judge 5 = .ok (.ifCond .ne 12, 3) := by decide +kernel
theorem dX11_judge_8 : decode cX11_judge 8 = .ok (.iload_n 2, 1) := by decide +kernel
theorem dX11_judge_9 : decode cX11_judge 9 = .ok (.ifCond .lt 8, 3) := by decide +kernel
theorem dX11_judge_12 : decode cX11_judge 12 = .ok (.iload_n 2, 1) := by decide +kernel
theorem dX11_judge_13 : decode cX11_judge 13 = .ok (.iconst 3, 1) := by decide +kernel
theorem dX11_judge_14 : decode cX11_judge 14 = .ok (.if_icmp .le 6, 3) := by decide +kernel
theorem dX11_judge_17 : decode cX11_judge 17 = .ok (.bipush (-2), 2) := by decide +kernel
theorem dX11_judge_19 : decode cX11_judge 19 = .ok (.ireturn, 1) := by decide +kernel
theorem dX11_judge_20 : decode cX11_judge 20 = .ok (.aload_n 0, 1) := by decide +kernel
theorem dX11_judge_21 : decode cX11_judge 21 = .ok (.getfield 43, 3) := by decide +kernel
theorem dX11_judge_24 : decode cX11_judge 24 = .ok (.iload_n 1, 1) := by decide +kernel
theorem dX11_judge_25 : decode cX11_judge 25 = .ok (.aaload, 1) := by decide +kernel
theorem dX11_judge_26 : decode cX11_judge 26 = .ok (.astore_n 3, 1) := by decide +kernel
theorem dX11_judge_27 : decode cX11_judge 27 = .ok (.aload_n 3, 1) := by decide +kernel
theorem dX11_judge_28 : decode cX11_judge 28 = .ok (.invokevirtual 214, 3) := by decide +kernel
theorem dX11_judge_31 : decode cX11_judge 31 = .ok (.ifCond .eq 6, 3) := by decide +kernel
theorem dX11_judge_34 : decode cX11_judge 34 = .ok (.bipush (-6), 2) := by decide +kernel
theorem dX11_judge_36 : decode cX11_judge 36 = .ok (.ireturn, 1) := by decide +kernel
theorem dX11_judge_37 : decode cX11_judge 37 = .ok (.aload_n 0, 1) := by decide +kernel
theorem dX11_judge_38 : decode cX11_judge 38 = .ok (.getfield 62, 3) := by decide +kernel
theorem dX11_judge_41 : decode cX11_judge 41 = .ok (.aload_n 0, 1) := by decide +kernel
theorem dX11_judge_42 : decode cX11_judge 42 = .ok (.getfield 30, 3) := by decide +kernel
theorem dX11_judge_45 : decode cX11_judge 45 = .ok (.invokevirtual 174, 3) := by decide +kernel
theorem dX11_judge_48 : decode cX11_judge 48 = .ok (.aload_n 0, 1) := by decide +kernel
theorem dX11_judge_49 : decode cX11_judge 49 = .ok (.aload_n 0, 1) := by decide +kernel
theorem dX11_judge_50 : decode cX11_judge 50 = .ok (.getfield 62, 3) := by decide +kernel
theorem dX11_judge_53 : decode cX11_judge 53 = .ok (.aload_n 3, 1) := by decide +kernel
theorem dX11_judge_54 : decode cX11_judge 54 = .ok (.invokevirtual 218, 3) := by decide +kernel
theorem dX11_judge_57 : decode cX11_judge 57 = .ok (.istore 4, 2) := by decide +kernel
theorem dX11_judge_59 : decode cX11_judge 59 = .ok (.iload_n 2, 1) := by decide +kernel
theorem dX11_judge_60 : decode cX11_judge 60 = .ok (.tableswitch 81 0 2 #[28, 44, 73], 28) := by decide +kernel
theorem dX11_judge_88 : decode cX11_judge 88 = .ok (.iload 4, 2) := by decide +kernel
theorem dX11_judge_90 : decode cX11_judge 90 = .ok (.aload_n 3, 1) := by decide +kernel
theorem dX11_judge_91 : decode cX11_judge 91 = .ok (.getfield 222, 3) := by decide +kernel
theorem dX11_judge_94 : decode cX11_judge 94 = .ok (.if_icmp .ge 8, 3) := by decide +kernel
theorem dX11_judge_97 : decode cX11_judge 97 = .ok (.iload 4, 2) := by decide +kernel
theorem dX11_judge_99 : decode cX11_judge 99 = .ok (.goto 4, 3) := by decide +kernel
theorem dX11_judge_102 : decode cX11_judge 102 = .ok (.iconst (-1), 1) := by decide +kernel
theorem dX11_judge_103 : decode cX11_judge 103 = .ok (.ireturn, 1) := by decide +kernel
theorem dX11_judge_104 : decode cX11_judge 104 = .ok (.iload 4, 2) := by decide +kernel
theorem dX11_judge_106 : decode cX11_judge 106 = .ok (.aload_n 3, 1) := by decide +kernel
theorem dX11_judge_107 : decode cX11_judge 107 = .ok (.getfield 222, 3) := by decide +kernel
theorem dX11_judge_110 : decode cX11_judge 110 = .ok (.if_icmp .ge 21, 3) := by decide +kernel
theorem dX11_judge_113 : decode cX11_judge 113 = .ok (.aload_n 0, 1) := by decide +kernel
theorem dX11_judge_114 : decode cX11_judge 114 = .ok (.aload_n 0, 1) := by decide +kernel
theorem dX11_judge_115 : decode cX11_judge 115 = .ok (.getfield 62, 3) := by decide +kernel
theorem dX11_judge_118 : decode cX11_judge 118 = .ok (.aload_n 3, 1) := by decide +kernel
theorem dX11_judge_119 : decode cX11_judge 119 = .ok (.getfield 225, 3) := by decide +kernel
theorem dX11_judge_122 : decode cX11_judge 122 = .ok (.iload 4, 2) := by decide +kernel
theorem dX11_judge_124 : decode cX11_judge 124 = .ok (.laload, 1) := by decide +kernel
theorem dX11_judge_125 : decode cX11_judge 125 = .ok (.invokevirtual 229, 3) := by decide +kernel
theorem dX11_judge_128 : decode cX11_judge 128 = .ok (.goto 4, 3) := by decide +kernel
theorem dX11_judge_131 : decode cX11_judge 131 = .ok (.iconst 0, 1) := by decide +kernel
theorem dX11_judge_132 : decode cX11_judge 132 = .ok (.ireturn, 1) := by decide +kernel
theorem dX11_judge_133 : decode cX11_judge 133 = .ok (.aload_n 0, 1) := by decide +kernel
theorem dX11_judge_134 : decode cX11_judge 134 = .ok (.getfield 62, 3) := by decide +kernel
theorem dX11_judge_137 : decode cX11_judge 137 = .ok (.getfield 233, 3) := by decide +kernel
theorem dX11_judge_140 : decode cX11_judge 140 = .ok (.ireturn, 1) := by decide +kernel
theorem dX11_judge_141 : decode cX11_judge 141 = .ok (.aload_n 0, 1) := by decide +kernel
theorem dX11_judge_142 : decode cX11_judge 142 = .ok (.getfield 62, 3) := by decide +kernel
theorem dX11_judge_145 : decode cX11_judge 145 = .ok (.invokevirtual 236, 3) := by decide +kernel
theorem dX11_judge_148 : decode cX11_judge 148 = .ok (.ireturn, 1) := by decide +kernel
def x_judge (F : Nat) (T : Nat → Option (Nat × Nat)) (I : Nat → Nat → Int32) (J : Nat → Nat → Int64) (P : Nat → Nat → Option Nat) (x : Nat) (c : Nat) (v1 : Int32) (v2 : Int32) : Option (Int32 × (Nat → Nat → Int32)) := if (x_noTray x v1) = 0 then (if v2 < 0 then (some ((-2), I)) else (if v2 ≤ 3 then (chk v1 4 (if (ty_isMissing I (x + (135 + 2 * (Int32.toNatClampNeg v1)))) = 0 then ((s_copyFrom I (x + 101) (x + 12)).bind (fun q6 => let I8 := q6; (x_doAll F T I8 J P x (x + 101) (x + (135 + 2 * (Int32.toNatClampNeg v1))) c).bind (fun q9 => let u11 := q9.1; let I12 := q9.2; if v2 = 0 then (if (I12 (x + (135 + 2 * (Int32.toNatClampNeg v1))) 1) ≤ u11 then (some ((-1), I12)) else (some (u11, I12))) else (if v2 = 1 then (if (I12 (x + (135 + 2 * (Int32.toNatClampNeg v1))) 1) ≤ u11 then (some (0, I12)) else (chk u11 40 ((x_doDeed F T I12 P x (x + 101) c (J ((x + (135 + 2 * (Int32.toNatClampNeg v1))) + 1) (Int32.toNatClampNeg u11))).bind (fun q18 => let u20 := q18.1; let I21 := q18.2; some (u20, I21))))) else (if v2 = 2 then (some ((I12 (x + 101) 1), I12)) else ((s_firstInPlace F I12 (x + 101)).bind (fun q23 => let u25 := q23; some (u25, I12)))))))) else (some ((-6), I)))) else (some ((-2), I)))) else (some ((-2), I))
theorem c_x_judge {l : Launch} {D : va_G} {E : Nat → ClassId} {B : Nat → Prop} {n F : Nat} {T : Nat → Option (Nat × Nat)} {I : Nat → Nat → Int32} {J : Nat → Nat → Int64} {P : Nat → Nat → Option Nat} {x : Nat} {c : Nat} {v1 : Int32} {v2 : Int32} {r : Int32 × (Nat → Nat → Int32)} (hx : isSR T P x) (hs_c : isCt T P c) (hc : P x 3 = some c) (hf : x_judge F T I J P x c v1 v2 = some r) : Ct l D E B yX11_judge cX11_judge 5 (some .int) 7 0 0 [.ref x, .int v1, .int v2] (n, T, I, J, P) (Ret (some (.int r.1)) (n, T, r.2, J, P)) := by
  unfold x_judge at hf
  refine Ct.ofV (by decide) (Nat.le_of_ble_eq_true rfl) ?_
  refine V.aload_n dX11_judge_0 rfl ?_
  refine V.iload_n dX11_judge_1 rfl ?_
  refine V.inv cv_X11_211 (c_x_noTray hx) dX11_judge_2 (hx.1 0 (11, 0) rfl) (by decide) rfl rfl rfl (Nat.le_of_ble_eq_true rfl) (by decide) (by decide) (Nat.le_refl _) (Nat.le_refl _) (fun _ _ hq => ?_)
  obtain ⟨rfl, rfl⟩ := hq
  refine V.if_ne 17 dX11_judge_5 (by decide) (fun c1 => ?_) (fun c1 => ?_)
  · rw [if_neg c1] at hf
    refine V.bipush (v := -2) dX11_judge_17 (by decide) ?_
    obtain rfl := Option.some.inj hf
    exact V.iret dX11_judge_19 rfl (Nat.le_refl _) (Nat.le_refl _) ⟨rfl, rfl⟩
  · rw [if_pos c1] at hf
    refine V.iload_n dX11_judge_8 rfl ?_
    refine V.if_lt 17 dX11_judge_9 (by decide) (fun c2 => ?_) (fun c2 => ?_)
    · rw [if_pos c2] at hf
      refine V.bipush (v := -2) dX11_judge_17 (by decide) ?_
      obtain rfl := Option.some.inj hf
      exact V.iret dX11_judge_19 rfl (Nat.le_refl _) (Nat.le_refl _) ⟨rfl, rfl⟩
    · rw [if_neg c2] at hf
      refine V.iload_n dX11_judge_12 rfl ?_
      refine V.iconst (v := 3) dX11_judge_13 (by decide) ?_
      refine V.icmp_le 20 dX11_judge_14 (by decide) (fun c3 => ?_) (fun c3 => ?_)
      · rw [if_pos c3] at hf
        refine V.aload_n dX11_judge_20 rfl ?_
        refine V.getr fl_X11_43 dX11_judge_21 (hx.1 0 (11, 0) rfl) (hx.2.1 0 6 91 rfl) (by decide) rfl ?_
        refine V.iload_n dX11_judge_24 rfl ?_
        obtain ⟨hb4, hf⟩ := chk_some hf
        refine V.aald dX11_judge_25 (hx.1 91 (26, 4) rfl) (by decide) hb4 (hx.arr91 (i := v1) hb4) ?_
        refine V.astore_n dX11_judge_26 rfl (by decide) (by first | exact rfl | exact trivial) ?_
        refine V.aload_n dX11_judge_27 rfl ?_
        refine V.inv cv_X11_214 (c_ty_isMissing (hx.ob91 (i := v1) hb4)) dX11_judge_28 ((hx.ob91 (i := v1) hb4).1 0 (9, 0) rfl) (by decide) rfl rfl rfl (Nat.le_of_ble_eq_true rfl) (by decide) (by decide) (Nat.le_refl _) (Nat.le_refl _) (fun _ _ hq => ?_)
        obtain ⟨rfl, rfl⟩ := hq
        refine V.if_eq 37 dX11_judge_31 (by decide) (fun c5 => ?_) (fun c5 => ?_)
        · rw [if_pos c5] at hf
          refine V.aload_n dX11_judge_37 rfl ?_
          refine V.getr fl_X11_62 dX11_judge_38 (hx.1 0 (11, 0) rfl) (hx.2.1 0 12 101 rfl) (by decide) rfl ?_
          refine V.aload_n dX11_judge_41 rfl ?_
          refine V.getr fl_X11_30 dX11_judge_42 (hx.1 0 (11, 0) rfl) (hx.2.1 0 4 12 rfl) (by decide) rfl ?_
          obtain ⟨I8, hk7, hf⟩ := bnd_some hf
          try dsimp only at hf
          refine V.inv cv_X11_174 (c_s_copyFrom (hx.2.2.1 101 rfl) (hx.2.2.1 12 rfl) hk7) dX11_judge_45 ((hx.2.2.1 101 rfl).1 0 (8, 0) rfl) (by decide) rfl rfl rfl (Nat.le_of_ble_eq_true rfl) (by decide) (by decide) (Nat.le_refl _) (Nat.le_refl _) (fun _ _ hq => ?_)
          obtain ⟨rfl, rfl⟩ := hq
          refine V.aload_n dX11_judge_48 rfl ?_
          refine V.aload_n dX11_judge_49 rfl ?_
          refine V.getr fl_X11_62 dX11_judge_50 (hx.1 0 (11, 0) rfl) (hx.2.1 0 12 101 rfl) (by decide) rfl ?_
          refine V.aload_n dX11_judge_53 rfl ?_
          obtain ⟨⟨u11, I12⟩, hk10, hf⟩ := bnd_some hf
          try dsimp only at hf
          refine V.inv cv_X11_218 (c_x_doAll hx (hx.2.2.1 101 rfl) (hx.ob91 (i := v1) hb4) hs_c hc hk10) dX11_judge_54 (hx.1 0 (11, 0) rfl) (by decide) rfl rfl rfl (Nat.le_of_ble_eq_true rfl) (by decide) (by decide) (Nat.le_refl _) (Nat.le_refl _) (fun _ _ hq => ?_)
          obtain ⟨rfl, rfl⟩ := hq
          try dsimp only
          refine V.istore dX11_judge_57 (by decide) (by first | exact rfl | exact trivial) ?_
          refine V.iload_n dX11_judge_59 rfl ?_
          by_cases c13 : v2 = 0
          · rw [if_pos c13] at hf
            refine V.tabIn (off := 28) 88 dX11_judge_60 (by rw [c13]; decide) (by rw [c13]; decide) (by rw [c13]; rfl) (by decide) ?_
            refine V.iload dX11_judge_88 rfl ?_
            refine V.aload_n dX11_judge_90 rfl ?_
            refine V.getf fl_X11_222 dX11_judge_91 ((hx.ob91 (i := v1) hb4).1 0 (9, 0) rfl) (by decide) rfl ?_
            refine V.icmp_ge 102 dX11_judge_94 (by decide) (fun c14 => ?_) (fun c14 => ?_)
            · rw [if_pos c14] at hf
              refine V.iconst (v := -1) dX11_judge_102 (by decide) ?_
              obtain rfl := Option.some.inj hf
              exact V.iret dX11_judge_103 rfl (Nat.le_refl _) (Nat.le_refl _) ⟨rfl, rfl⟩
            · rw [if_neg c14] at hf
              refine V.iload dX11_judge_97 rfl ?_
              refine V.goto 103 dX11_judge_99 (by decide) ?_
              obtain rfl := Option.some.inj hf
              exact V.iret dX11_judge_103 rfl (Nat.le_refl _) (Nat.le_refl _) ⟨rfl, rfl⟩
          rw [if_neg c13] at hf
          by_cases c15 : v2 = 1
          · rw [if_pos c15] at hf
            refine V.tabIn (off := 44) 104 dX11_judge_60 (by rw [c15]; decide) (by rw [c15]; decide) (by rw [c15]; rfl) (by decide) ?_
            refine V.iload dX11_judge_104 rfl ?_
            refine V.aload_n dX11_judge_106 rfl ?_
            refine V.getf fl_X11_222 dX11_judge_107 ((hx.ob91 (i := v1) hb4).1 0 (9, 0) rfl) (by decide) rfl ?_
            refine V.icmp_ge 131 dX11_judge_110 (by decide) (fun c16 => ?_) (fun c16 => ?_)
            · rw [if_pos c16] at hf
              refine V.iconst (v := 0) dX11_judge_131 (by decide) ?_
              obtain rfl := Option.some.inj hf
              exact V.iret dX11_judge_132 rfl (Nat.le_refl _) (Nat.le_refl _) ⟨rfl, rfl⟩
            · rw [if_neg c16] at hf
              refine V.aload_n dX11_judge_113 rfl ?_
              refine V.aload_n dX11_judge_114 rfl ?_
              refine V.getr fl_X11_62 dX11_judge_115 (hx.1 0 (11, 0) rfl) (hx.2.1 0 12 101 rfl) (by decide) rfl ?_
              refine V.aload_n dX11_judge_118 rfl ?_
              refine V.getr fl_X11_225 dX11_judge_119 ((hx.ob91 (i := v1) hb4).1 0 (9, 0) rfl) ((hx.ob91 (i := v1) hb4).2 0 0 1 rfl) (by decide) rfl ?_
              refine V.iload dX11_judge_122 rfl ?_
              obtain ⟨hb17, hf⟩ := chk_some hf
              refine V.lald dX11_judge_124 ((hx.ob91 (i := v1) hb4).1 1 (22, 40) rfl) hb17 ?_
              obtain ⟨⟨u20, I21⟩, hk19, hf⟩ := bnd_some hf
              try dsimp only at hf
              refine V.inv cv_X11_229 (c_x_doDeed hx (hx.2.2.1 101 rfl) hs_c hc hk19) dX11_judge_125 (hx.1 0 (11, 0) rfl) (by decide) rfl rfl rfl (Nat.le_of_ble_eq_true rfl) (by decide) (by decide) (Nat.le_refl _) (Nat.le_refl _) (fun _ _ hq => ?_)
              obtain ⟨rfl, rfl⟩ := hq
              try dsimp only
              refine V.goto 132 dX11_judge_128 (by decide) ?_
              obtain rfl := Option.some.inj hf
              exact V.iret dX11_judge_132 rfl (Nat.le_refl _) (Nat.le_refl _) ⟨rfl, rfl⟩
          rw [if_neg c15] at hf
          by_cases c22 : v2 = 2
          · rw [if_pos c22] at hf
            refine V.tabIn (off := 73) 133 dX11_judge_60 (by rw [c22]; decide) (by rw [c22]; decide) (by rw [c22]; rfl) (by decide) ?_
            refine V.aload_n dX11_judge_133 rfl ?_
            refine V.getr fl_X11_62 dX11_judge_134 (hx.1 0 (11, 0) rfl) (hx.2.1 0 12 101 rfl) (by decide) rfl ?_
            refine V.getf fl_X11_233 dX11_judge_137 ((hx.2.2.1 101 rfl).1 0 (8, 0) rfl) (by decide) rfl ?_
            obtain rfl := Option.some.inj hf
            exact V.iret dX11_judge_140 rfl (Nat.le_refl _) (Nat.le_refl _) ⟨rfl, rfl⟩
          rw [if_neg c22] at hf
          refine V.tabOut 141 dX11_judge_60 (by have c13_ := sw_ne c13 (j := 0) (by decide); have c15_ := sw_ne c15 (j := 1) (by decide); have c22_ := sw_ne c22 (j := 2) (by decide); omega) (by decide) ?_
          refine V.aload_n dX11_judge_141 rfl ?_
          refine V.getr fl_X11_62 dX11_judge_142 (hx.1 0 (11, 0) rfl) (hx.2.1 0 12 101 rfl) (by decide) rfl ?_
          obtain ⟨u25, hk24, hf⟩ := bnd_some hf
          try dsimp only at hf
          refine V.inv cv_X11_236 (c_s_firstInPlace (hx.2.2.1 101 rfl) hk24) dX11_judge_145 ((hx.2.2.1 101 rfl).1 0 (8, 0) rfl) (by decide) rfl rfl rfl (Nat.le_of_ble_eq_true rfl) (by decide) (by decide) (Nat.le_refl _) (Nat.le_refl _) (fun _ _ hq => ?_)
          obtain ⟨rfl, rfl⟩ := hq
          obtain rfl := Option.some.inj hf
          exact V.iret dX11_judge_148 rfl (Nat.le_refl _) (Nat.le_refl _) ⟨rfl, rfl⟩
        · rw [if_neg c5] at hf
          refine V.bipush (v := -6) dX11_judge_34 (by decide) ?_
          obtain rfl := Option.some.inj hf
          exact V.iret dX11_judge_36 rfl (Nat.le_refl _) (Nat.le_refl _) ⟨rfl, rfl⟩
      · rw [if_neg c3] at hf
        refine V.bipush (v := -2) dX11_judge_17 (by decide) ?_
        obtain rfl := Option.some.inj hf
        exact V.iret dX11_judge_19 rfl (Nat.le_refl _) (Nat.le_refl _) ⟨rfl, rfl⟩
theorem dX11_perform_0 : decode cX11_perform 0 = .ok (.aload_n 0, 1) := by decide +kernel
theorem dX11_perform_1 : decode cX11_perform 1 = .ok (.iload_n 1, 1) := by decide +kernel
theorem dX11_perform_2 : decode cX11_perform 2 = .ok (.invokevirtual 211, 3) := by decide +kernel
theorem dX11_perform_5 : decode cX11_perform 5 = .ok (.ifCond .eq 6, 3) := by decide +kernel
theorem dX11_perform_8 : decode cX11_perform 8 = .ok (.bipush (-2), 2) := by decide +kernel
theorem dX11_perform_10 : decode cX11_perform 10 = .ok (.ireturn, 1) := by decide +kernel
theorem dX11_perform_11 : decode cX11_perform 11 = .ok (.aload_n 0, 1) := by decide +kernel
theorem dX11_perform_12 : decode cX11_perform 12 = .ok (.getfield 43, 3) := by decide +kernel
theorem dX11_perform_15 : decode cX11_perform 15 = .ok (.iload_n 1, 1) := by decide +kernel
theorem dX11_perform_16 : decode cX11_perform 16 = .ok (.aaload, 1) := by decide +kernel
theorem dX11_perform_17 : decode cX11_perform 17 = .ok (.invokevirtual 214, 3) := by decide +kernel
theorem dX11_perform_20 : decode cX11_perform 20 = .ok (.ifCond .eq 6, 3) := by decide +kernel
theorem dX11_perform_23 : decode cX11_perform 23 = .ok (.bipush (-6), 2) := by decide +kernel
theorem dX11_perform_25 : decode cX11_perform 25 = .ok (.ireturn, 1) := by decide +kernel
theorem dX11_perform_26 : decode cX11_perform 26 = .ok (.aload_n 0, 1) := by decide +kernel
theorem dX11_perform_27 : decode cX11_perform 27 = .ok (.getfield 59, 3) := by decide +kernel
theorem dX11_perform_30 : decode cX11_perform 30 = .ok (.aload_n 0, 1) := by decide +kernel
theorem dX11_perform_31 : decode cX11_perform 31 = .ok (.getfield 30, 3) := by decide +kernel
theorem dX11_perform_34 : decode cX11_perform 34 = .ok (.invokevirtual 174, 3) := by decide +kernel
theorem dX11_perform_37 : decode cX11_perform 37 = .ok (.aload_n 0, 1) := by decide +kernel
theorem dX11_perform_38 : decode cX11_perform 38 = .ok (.aload_n 0, 1) := by decide +kernel
theorem dX11_perform_39 : decode cX11_perform 39 = .ok (.getfield 30, 3) := by decide +kernel
theorem dX11_perform_42 : decode cX11_perform 42 = .ok (.aload_n 0, 1) := by decide +kernel
theorem dX11_perform_43 : decode cX11_perform 43 = .ok (.getfield 43, 3) := by decide +kernel
theorem dX11_perform_46 : decode cX11_perform 46 = .ok (.iload_n 1, 1) := by decide +kernel
theorem dX11_perform_47 : decode cX11_perform 47 = .ok (.aaload, 1) := by decide +kernel
theorem dX11_perform_48 : decode cX11_perform 48 = .ok (.invokevirtual 218, 3) := by decide +kernel
theorem dX11_perform_51 : decode cX11_perform 51 = .ok (.istore_n 2, 1) := by decide +kernel
theorem dX11_perform_52 : decode cX11_perform 52 = .ok (.iload_n 2, 1) := by decide +kernel
theorem dX11_perform_53 : decode cX11_perform 53 = .ok (.ifCond .le 7, 3) := by decide +kernel
theorem dX11_perform_56 : decode cX11_perform 56 = .ok (.aload_n 0, 1) := by decide +kernel
theorem dX11_perform_57 : decode cX11_perform 57 = .ok (.invokevirtual 182, 3) := by decide +kernel
theorem dX11_perform_60 : decode cX11_perform 60 = .ok (.iload_n 2, 1) := by decide +kernel
theorem dX11_perform_61 : decode cX11_perform 61 = .ok (.ireturn, 1) := by decide +kernel
def x_perform (F : Nat) (T : Nat → Option (Nat × Nat)) (I : Nat → Nat → Int32) (J : Nat → Nat → Int64) (P : Nat → Nat → Option Nat) (x : Nat) (c : Nat) (v1 : Int32) : Option (Int32 × (Nat → Nat → Int32)) := if (x_noTray x v1) = 0 then (chk v1 4 (if (ty_isMissing I (x + (135 + 2 * (Int32.toNatClampNeg v1)))) = 0 then ((s_copyFrom I (x + 94) (x + 12)).bind (fun q4 => let I6 := q4; (x_doAll F T I6 J P x (x + 12) (x + (135 + 2 * (Int32.toNatClampNeg v1))) c).bind (fun q7 => let u9 := q7.1; let I10 := q7.2; if u9 ≤ 0 then (some (u9, I10)) else ((x_keepForUndo I10 x).bind (fun q12 => let I14 := q12; some (u9, I14)))))) else (some ((-6), I)))) else (some ((-2), I))
theorem c_x_perform {l : Launch} {D : va_G} {E : Nat → ClassId} {B : Nat → Prop} {n F : Nat} {T : Nat → Option (Nat × Nat)} {I : Nat → Nat → Int32} {J : Nat → Nat → Int64} {P : Nat → Nat → Option Nat} {x : Nat} {c : Nat} {v1 : Int32} {r : Int32 × (Nat → Nat → Int32)} (hx : isSR T P x) (hs_c : isCt T P c) (hc : P x 3 = some c) (hf : x_perform F T I J P x c v1 = some r) : Ct l D E B yX11_perform cX11_perform 3 (some .int) 7 0 0 [.ref x, .int v1] (n, T, I, J, P) (Ret (some (.int r.1)) (n, T, r.2, J, P)) := by
  unfold x_perform at hf
  refine Ct.ofV (by decide) (Nat.le_of_ble_eq_true rfl) ?_
  refine V.aload_n dX11_perform_0 rfl ?_
  refine V.iload_n dX11_perform_1 rfl ?_
  refine V.inv cv_X11_211 (c_x_noTray hx) dX11_perform_2 (hx.1 0 (11, 0) rfl) (by decide) rfl rfl rfl (Nat.le_of_ble_eq_true rfl) (by decide) (by decide) (Nat.le_refl _) (Nat.le_refl _) (fun _ _ hq => ?_)
  obtain ⟨rfl, rfl⟩ := hq
  refine V.if_eq 11 dX11_perform_5 (by decide) (fun c1 => ?_) (fun c1 => ?_)
  · rw [if_pos c1] at hf
    refine V.aload_n dX11_perform_11 rfl ?_
    refine V.getr fl_X11_43 dX11_perform_12 (hx.1 0 (11, 0) rfl) (hx.2.1 0 6 91 rfl) (by decide) rfl ?_
    refine V.iload_n dX11_perform_15 rfl ?_
    obtain ⟨hb2, hf⟩ := chk_some hf
    refine V.aald dX11_perform_16 (hx.1 91 (26, 4) rfl) (by decide) hb2 (hx.arr91 (i := v1) hb2) ?_
    refine V.inv cv_X11_214 (c_ty_isMissing (hx.ob91 (i := v1) hb2)) dX11_perform_17 ((hx.ob91 (i := v1) hb2).1 0 (9, 0) rfl) (by decide) rfl rfl rfl (Nat.le_of_ble_eq_true rfl) (by decide) (by decide) (Nat.le_refl _) (Nat.le_refl _) (fun _ _ hq => ?_)
    obtain ⟨rfl, rfl⟩ := hq
    refine V.if_eq 26 dX11_perform_20 (by decide) (fun c3 => ?_) (fun c3 => ?_)
    · rw [if_pos c3] at hf
      refine V.aload_n dX11_perform_26 rfl ?_
      refine V.getr fl_X11_59 dX11_perform_27 (hx.1 0 (11, 0) rfl) (hx.2.1 0 11 94 rfl) (by decide) rfl ?_
      refine V.aload_n dX11_perform_30 rfl ?_
      refine V.getr fl_X11_30 dX11_perform_31 (hx.1 0 (11, 0) rfl) (hx.2.1 0 4 12 rfl) (by decide) rfl ?_
      obtain ⟨I6, hk5, hf⟩ := bnd_some hf
      try dsimp only at hf
      refine V.inv cv_X11_174 (c_s_copyFrom (hx.2.2.1 94 rfl) (hx.2.2.1 12 rfl) hk5) dX11_perform_34 ((hx.2.2.1 94 rfl).1 0 (8, 0) rfl) (by decide) rfl rfl rfl (Nat.le_of_ble_eq_true rfl) (by decide) (by decide) (Nat.le_refl _) (Nat.le_refl _) (fun _ _ hq => ?_)
      obtain ⟨rfl, rfl⟩ := hq
      refine V.aload_n dX11_perform_37 rfl ?_
      refine V.aload_n dX11_perform_38 rfl ?_
      refine V.getr fl_X11_30 dX11_perform_39 (hx.1 0 (11, 0) rfl) (hx.2.1 0 4 12 rfl) (by decide) rfl ?_
      refine V.aload_n dX11_perform_42 rfl ?_
      refine V.getr fl_X11_43 dX11_perform_43 (hx.1 0 (11, 0) rfl) (hx.2.1 0 6 91 rfl) (by decide) rfl ?_
      refine V.iload_n dX11_perform_46 rfl ?_
      refine V.aald dX11_perform_47 (hx.1 91 (26, 4) rfl) (by decide) hb2 (hx.arr91 (i := v1) hb2) ?_
      obtain ⟨⟨u9, I10⟩, hk8, hf⟩ := bnd_some hf
      try dsimp only at hf
      refine V.inv cv_X11_218 (c_x_doAll hx (hx.2.2.1 12 rfl) (hx.ob91 (i := v1) hb2) hs_c hc hk8) dX11_perform_48 (hx.1 0 (11, 0) rfl) (by decide) rfl rfl rfl (Nat.le_of_ble_eq_true rfl) (by decide) (by decide) (Nat.le_refl _) (Nat.le_refl _) (fun _ _ hq => ?_)
      obtain ⟨rfl, rfl⟩ := hq
      try dsimp only
      refine V.istore_n dX11_perform_51 rfl (by decide) (by first | exact rfl | exact trivial) ?_
      refine V.iload_n dX11_perform_52 rfl ?_
      refine V.if_le 60 dX11_perform_53 (by decide) (fun c11 => ?_) (fun c11 => ?_)
      · rw [if_pos c11] at hf
        refine V.iload_n dX11_perform_60 rfl ?_
        obtain rfl := Option.some.inj hf
        exact V.iret dX11_perform_61 rfl (Nat.le_refl _) (Nat.le_refl _) ⟨rfl, rfl⟩
      · rw [if_neg c11] at hf
        refine V.aload_n dX11_perform_56 rfl ?_
        obtain ⟨I14, hk13, hf⟩ := bnd_some hf
        try dsimp only at hf
        refine V.inv cv_X11_182 (c_x_keepForUndo hx hk13) dX11_perform_57 (hx.1 0 (11, 0) rfl) (by decide) rfl rfl rfl (Nat.le_of_ble_eq_true rfl) (by decide) (by decide) (Nat.le_refl _) (Nat.le_refl _) (fun _ _ hq => ?_)
        obtain ⟨rfl, rfl⟩ := hq
        refine V.iload_n dX11_perform_60 rfl ?_
        obtain rfl := Option.some.inj hf
        exact V.iret dX11_perform_61 rfl (Nat.le_refl _) (Nat.le_refl _) ⟨rfl, rfl⟩
    · rw [if_neg c3] at hf
      refine V.bipush (v := -6) dX11_perform_23 (by decide) ?_
      obtain rfl := Option.some.inj hf
      exact V.iret dX11_perform_25 rfl (Nat.le_refl _) (Nat.le_refl _) ⟨rfl, rfl⟩
  · rw [if_neg c1] at hf
    refine V.bipush (v := -2) dX11_perform_8 (by decide) ?_
    obtain rfl := Option.some.inj hf
    exact V.iret dX11_perform_10 rfl (Nat.le_refl _) (Nat.le_refl _) ⟨rfl, rfl⟩
theorem dX11_draw_0 : decode cX11_draw 0 = .ok (.aload_n 0, 1) := by decide +kernel
theorem dX11_draw_1 : decode cX11_draw 1 = .ok (.ldc_w 256, 3) := by decide +kernel
theorem dX11_draw_4 : decode cX11_draw 4 = .ok (.aload_n 0, 1) := by decide +kernel
theorem dX11_draw_5 : decode cX11_draw 5 = .ok (.getfield 239, 3) := by decide +kernel
theorem dX11_draw_8 : decode cX11_draw 8 = .ok (.imul, 1) := by decide +kernel
theorem dX11_draw_9 : decode cX11_draw 9 = .ok (.sipush 12345, 3) := by decide +kernel
theorem dX11_draw_12 : decode cX11_draw 12 = .ok (.iadd, 1) := by decide +kernel
theorem dX11_draw_13 : decode cX11_draw 13 = .ok (.putfield 239, 3) := by decide +kernel
theorem dX11_draw_16 : decode cX11_draw 16 = .ok (.aload_n 0, 1) := by decide +kernel
theorem dX11_draw_17 : decode cX11_draw 17 = .ok (.getfield 239, 3) := by decide +kernel
theorem dX11_draw_20 : decode cX11_draw 20 = .ok (.bipush 16, 2) := by decide +kernel
theorem dX11_draw_22 : decode cX11_draw 22 = .ok (.iushr, 1) := by decide +kernel
theorem dX11_draw_23 : decode cX11_draw 23 = .ok (.ireturn, 1) := by decide +kernel
def x_draw (I : Nat → Nat → Int32) (x : Nat) : Option (Int32 × (Nat → Nat → Int32)) := let I1 := uI I x 10 ((1103515245 * (I x 10)) + 12345); some ((Int32.toUInt32 (I1 x 10) >>> (Int32.toUInt32 16 &&& Int32.toUInt32 31)).toInt32, I1)
theorem c_x_draw {l : Launch} {D : va_G} {E : Nat → ClassId} {B : Nat → Prop} {n : Nat} {T : Nat → Option (Nat × Nat)} {I : Nat → Nat → Int32} {J : Nat → Nat → Int64} {P : Nat → Nat → Option Nat} {x : Nat}  {r : Int32 × (Nat → Nat → Int32)} (hx : isSR T P x) (hf : x_draw I x = some r) : Ct l D E B yX11_draw cX11_draw 1 (some .int) 0 0 0 [.ref x] (n, T, I, J, P) (Ret (some (.int r.1)) (n, T, r.2, J, P)) := by
  unfold x_draw at hf
  refine Ct.ofV (by decide) (Nat.le_of_ble_eq_true rfl) ?_
  refine V.aload_n dX11_draw_0 rfl ?_
  refine V.ldcw dX11_draw_1 kc_X11_256 ?_
  refine V.aload_n dX11_draw_4 rfl ?_
  refine V.getf fl_X11_239 dX11_draw_5 (hx.1 0 (11, 0) rfl) (by decide) rfl ?_
  refine V.imul dX11_draw_8 ?_
  refine V.sipush (v := 12345) dX11_draw_9 (by decide) ?_
  refine V.iadd dX11_draw_12 ?_
  refine V.putiE fl_X11_239 dX11_draw_13 (hx.1 0 (11, 0) rfl) (by decide) (fun h => by cases h) rfl rfl rfl (Nat.le_of_ble_eq_true rfl) (fun I1 e2 => ?_)
  rw [← e2] at hf
  try dsimp only at hf
  clear e2
  refine V.aload_n dX11_draw_16 rfl ?_
  refine V.getf fl_X11_239 dX11_draw_17 (hx.1 0 (11, 0) rfl) (by decide) rfl ?_
  refine V.bipush (v := 16) dX11_draw_20 (by decide) ?_
  refine V.iushr dX11_draw_22 ?_
  obtain rfl := Option.some.inj hf
  exact V.iret dX11_draw_23 rfl (Nat.le_refl _) (Nat.le_refl _) ⟨rfl, rfl⟩
theorem dX11_doDrawn_0 : decode cX11_doDrawn 0 = .ok (.aload_n 0, 1) := by decide +kernel
theorem dX11_doDrawn_1 : decode cX11_doDrawn 1 = .ok (.invokevirtual 253, 3) := by decide +kernel
theorem dX11_doDrawn_4 : decode cX11_doDrawn 4 = .ok (.bipush 6, 2) := by decide +kernel
theorem dX11_doDrawn_6 : decode cX11_doDrawn 6 = .ok (.irem, 1) := by decide +kernel
theorem dX11_doDrawn_7 : decode cX11_doDrawn 7 = .ok (.tableswitch 70 3 5 #[25, 38, 60], 25) := by decide +kernel
theorem dX11_doDrawn_32 : decode cX11_doDrawn 32 = .ok (.aload_n 0, 1) := by decide +kernel
theorem dX11_doDrawn_33 : decode cX11_doDrawn 33 = .ok (.aload_n 1, 1) := by decide +kernel
theorem dX11_doDrawn_34 : decode cX11_doDrawn 34 = .ok (.aload_n 0, 1) := by decide +kernel
theorem dX11_doDrawn_35 : decode cX11_doDrawn 35 = .ok (.invokevirtual 253, 3) := by decide +kernel
theorem dX11_doDrawn_38 : decode cX11_doDrawn 38 = .ok (.bipush 6, 2) := by decide +kernel
theorem dX11_doDrawn_40 : decode cX11_doDrawn 40 = .ok (.irem, 1) := by decide +kernel
theorem dX11_doDrawn_41 : decode cX11_doDrawn 41 = .ok (.invokevirtual 189, 3) := by decide +kernel
theorem dX11_doDrawn_44 : decode cX11_doDrawn 44 = .ok (.ireturn, 1) := by decide +kernel
theorem dX11_doDrawn_45 : decode cX11_doDrawn 45 = .ok (.aload_n 0, 1) := by decide +kernel
theorem dX11_doDrawn_46 : decode cX11_doDrawn 46 = .ok (.invokevirtual 253, 3) := by decide +kernel
theorem dX11_doDrawn_49 : decode cX11_doDrawn 49 = .ok (.bipush 6, 2) := by decide +kernel
theorem dX11_doDrawn_51 : decode cX11_doDrawn 51 = .ok (.irem, 1) := by decide +kernel
theorem dX11_doDrawn_52 : decode cX11_doDrawn 52 = .ok (.istore_n 2, 1) := by decide +kernel
theorem dX11_doDrawn_53 : decode cX11_doDrawn 53 = .ok (.aload_n 0, 1) := by decide +kernel
theorem dX11_doDrawn_54 : decode cX11_doDrawn 54 = .ok (.aload_n 1, 1) := by decide +kernel
theorem dX11_doDrawn_55 : decode cX11_doDrawn 55 = .ok (.iload_n 2, 1) := by decide +kernel
theorem dX11_doDrawn_56 : decode cX11_doDrawn 56 = .ok (.aload_n 0, 1) := by decide +kernel
theorem dX11_doDrawn_57 : decode cX11_doDrawn 57 = .ok (.invokevirtual 253, 3) := by decide +kernel
theorem dX11_doDrawn_60 : decode cX11_doDrawn 60 = .ok (.bipush 6, 2) := by decide +kernel
theorem dX11_doDrawn_62 : decode cX11_doDrawn 62 = .ok (.irem, 1) := by decide +kernel
theorem dX11_doDrawn_63 : decode cX11_doDrawn 63 = .ok (.invokevirtual 192, 3) := by decide +kernel
theorem dX11_doDrawn_66 : decode cX11_doDrawn 66 = .ok (.ireturn, 1) := by decide +kernel
theorem dX11_doDrawn_67 : decode cX11_doDrawn 67 = .ok (.aload_n 1, 1) := by decide +kernel
theorem dX11_doDrawn_68 : decode cX11_doDrawn 68 = .ok (.aload_n 0, 1) := by decide +kernel
theorem dX11_doDrawn_69 : decode cX11_doDrawn 69 = .ok (.getfield 23, 3) := by decide +kernel
theorem dX11_doDrawn_72 : decode cX11_doDrawn 72 = .ok (.invokevirtual 198, 3) := by decide +kernel
theorem dX11_doDrawn_75 : decode cX11_doDrawn 75 = .ok (.iconst 0, 1) := by decide +kernel
theorem dX11_doDrawn_76 : decode cX11_doDrawn 76 = .ok (.ireturn, 1) := by decide +kernel
theorem dX11_doDrawn_77 : decode cX11_doDrawn 77 = .ok (.aload_n 0, 1) := by decide +kernel
theorem dX11_doDrawn_78 : decode cX11_doDrawn 78 = .ok (.aload_n 1, 1) := by decide +kernel
theorem dX11_doDrawn_79 : decode cX11_doDrawn 79 = .ok (.aload_n 0, 1) := by decide +kernel
theorem dX11_doDrawn_80 : decode cX11_doDrawn 80 = .ok (.invokevirtual 253, 3) := by decide +kernel
theorem dX11_doDrawn_83 : decode cX11_doDrawn 83 = .ok (.iconst 4, 1) := by decide +kernel
theorem dX11_doDrawn_84 : decode cX11_doDrawn 84 = .ok (.irem, 1) := by decide +kernel
theorem dX11_doDrawn_85 : decode cX11_doDrawn 85 = .ok (.invokevirtual 178, 3) := by decide +kernel
theorem dX11_doDrawn_88 : decode cX11_doDrawn 88 = .ok (.ireturn, 1) := by decide +kernel
def x_doDrawn (F : Nat) (T : Nat → Option (Nat × Nat)) (I : Nat → Nat → Int32) (P : Nat → Nat → Option Nat) (x : Nat) (a : Nat) (c : Nat) : Option (Int32 × (Nat → Nat → Int32)) := (x_draw I x).bind (fun q1 => let u3 := q1.1; let I4 := q1.2; if (u3 - u3 / 6 * 6) = 3 then ((x_draw I4 x).bind (fun q6 => let u8 := q6.1; let I9 := q6.2; (x_doSit I9 x a c (u8 - u8 / 6 * 6)).bind (fun q10 => let u12 := q10.1; let I13 := q10.2; some (u12, I13)))) else (if (u3 - u3 / 6 * 6) = 4 then ((x_draw I4 x).bind (fun q15 => let u17 := q15.1; let I18 := q15.2; let x19 := (u17 - u17 / 6 * 6); (x_draw I18 x).bind (fun q21 => let u23 := q21.1; let I24 := q21.2; (x_doChange I24 x a c x19 (u23 - u23 / 6 * 6)).bind (fun q25 => let u27 := q25.1; let I28 := q25.2; some (u27, I28))))) else (if (u3 - u3 / 6 * 6) = 5 then ((s_standAgain F I4 a c).bind (fun q30 => let I32 := q30; some (0, I32))) else ((x_draw I4 x).bind (fun q33 => let u35 := q33.1; let I36 := q33.2; (x_doMinute F T I36 P x a c (u35 - u35 / 4 * 4)).bind (fun q37 => let u39 := q37.1; let I40 := q37.2; some (u39, I40)))))))
theorem c_x_doDrawn {l : Launch} {D : va_G} {E : Nat → ClassId} {B : Nat → Prop} {n F : Nat} {T : Nat → Option (Nat × Nat)} {I : Nat → Nat → Int32} {J : Nat → Nat → Int64} {P : Nat → Nat → Option Nat} {x : Nat} {a : Nat} {c : Nat}  {r : Int32 × (Nat → Nat → Int32)} (hx : isSR T P x) (hs_a : isSt T P a) (hs_c : isCt T P c) (hc : P x 3 = some c) (hf : x_doDrawn F T I P x a c = some r) : Ct l D E B yX11_doDrawn cX11_doDrawn 3 (some .int) 5 0 0 [.ref x, .ref a] (n, T, I, J, P) (Ret (some (.int r.1)) (n, T, r.2, J, P)) := by
  unfold x_doDrawn at hf
  refine Ct.ofV (by decide) (Nat.le_of_ble_eq_true rfl) ?_
  refine V.aload_n dX11_doDrawn_0 rfl ?_
  obtain ⟨⟨u3, I4⟩, hk2, hf⟩ := bnd_some hf
  try dsimp only at hf
  refine V.inv cv_X11_253 (c_x_draw hx hk2) dX11_doDrawn_1 (hx.1 0 (11, 0) rfl) (by decide) rfl rfl rfl (Nat.le_of_ble_eq_true rfl) (by decide) (by decide) (Nat.le_refl _) (Nat.le_refl _) (fun _ _ hq => ?_)
  obtain ⟨rfl, rfl⟩ := hq
  try dsimp only
  refine V.bipush (v := 6) dX11_doDrawn_4 (by decide) ?_
  refine V.irem dX11_doDrawn_6 (by decide) ?_
  by_cases c5 : (u3 - u3 / 6 * 6) = 3
  · rw [if_pos c5] at hf
    refine V.tabIn (off := 25) 32 dX11_doDrawn_7 (by rw [c5]; decide) (by rw [c5]; decide) (by rw [c5]; rfl) (by decide) ?_
    refine V.aload_n dX11_doDrawn_32 rfl ?_
    refine V.aload_n dX11_doDrawn_33 rfl ?_
    refine V.aload_n dX11_doDrawn_34 rfl ?_
    obtain ⟨⟨u8, I9⟩, hk7, hf⟩ := bnd_some hf
    try dsimp only at hf
    refine V.inv cv_X11_253 (c_x_draw hx hk7) dX11_doDrawn_35 (hx.1 0 (11, 0) rfl) (by decide) rfl rfl rfl (Nat.le_of_ble_eq_true rfl) (by decide) (by decide) (Nat.le_refl _) (Nat.le_refl _) (fun _ _ hq => ?_)
    obtain ⟨rfl, rfl⟩ := hq
    try dsimp only
    refine V.bipush (v := 6) dX11_doDrawn_38 (by decide) ?_
    refine V.irem dX11_doDrawn_40 (by decide) ?_
    obtain ⟨⟨u12, I13⟩, hk11, hf⟩ := bnd_some hf
    try dsimp only at hf
    refine V.inv cv_X11_189 (c_x_doSit hx hs_a hs_c hc hk11) dX11_doDrawn_41 (hx.1 0 (11, 0) rfl) (by decide) rfl rfl rfl (Nat.le_of_ble_eq_true rfl) (by decide) (by decide) (Nat.le_refl _) (Nat.le_refl _) (fun _ _ hq => ?_)
    obtain ⟨rfl, rfl⟩ := hq
    try dsimp only
    obtain rfl := Option.some.inj hf
    exact V.iret dX11_doDrawn_44 rfl (Nat.le_refl _) (Nat.le_refl _) ⟨rfl, rfl⟩
  rw [if_neg c5] at hf
  by_cases c14 : (u3 - u3 / 6 * 6) = 4
  · rw [if_pos c14] at hf
    refine V.tabIn (off := 38) 45 dX11_doDrawn_7 (by rw [c14]; decide) (by rw [c14]; decide) (by rw [c14]; rfl) (by decide) ?_
    refine V.aload_n dX11_doDrawn_45 rfl ?_
    obtain ⟨⟨u17, I18⟩, hk16, hf⟩ := bnd_some hf
    try dsimp only at hf
    refine V.inv cv_X11_253 (c_x_draw hx hk16) dX11_doDrawn_46 (hx.1 0 (11, 0) rfl) (by decide) rfl rfl rfl (Nat.le_of_ble_eq_true rfl) (by decide) (by decide) (Nat.le_refl _) (Nat.le_refl _) (fun _ _ hq => ?_)
    obtain ⟨rfl, rfl⟩ := hq
    try dsimp only
    refine V.bipush (v := 6) dX11_doDrawn_49 (by decide) ?_
    refine V.irem dX11_doDrawn_51 (by decide) ?_
    refine V.istore_n dX11_doDrawn_52 rfl (by decide) (by first | exact rfl | exact trivial) ?_
    obtain ⟨x19, e20⟩ : ∃ zz_, zz_ = (u17 - u17 / 6 * 6) := ⟨_, rfl⟩
    rw [← e20] at hf ⊢
    try dsimp only at hf
    refine V.aload_n dX11_doDrawn_53 rfl ?_
    refine V.aload_n dX11_doDrawn_54 rfl ?_
    refine V.iload_n dX11_doDrawn_55 rfl ?_
    refine V.aload_n dX11_doDrawn_56 rfl ?_
    obtain ⟨⟨u23, I24⟩, hk22, hf⟩ := bnd_some hf
    try dsimp only at hf
    refine V.inv cv_X11_253 (c_x_draw hx hk22) dX11_doDrawn_57 (hx.1 0 (11, 0) rfl) (by decide) rfl rfl rfl (Nat.le_of_ble_eq_true rfl) (by decide) (by decide) (Nat.le_refl _) (Nat.le_refl _) (fun _ _ hq => ?_)
    obtain ⟨rfl, rfl⟩ := hq
    try dsimp only
    refine V.bipush (v := 6) dX11_doDrawn_60 (by decide) ?_
    refine V.irem dX11_doDrawn_62 (by decide) ?_
    obtain ⟨⟨u27, I28⟩, hk26, hf⟩ := bnd_some hf
    try dsimp only at hf
    refine V.inv cv_X11_192 (c_x_doChange hx hs_a hs_c hc hk26) dX11_doDrawn_63 (hx.1 0 (11, 0) rfl) (by decide) rfl rfl rfl (Nat.le_of_ble_eq_true rfl) (by decide) (by decide) (Nat.le_refl _) (Nat.le_refl _) (fun _ _ hq => ?_)
    obtain ⟨rfl, rfl⟩ := hq
    try dsimp only
    obtain rfl := Option.some.inj hf
    exact V.iret dX11_doDrawn_66 rfl (Nat.le_refl _) (Nat.le_refl _) ⟨rfl, rfl⟩
  rw [if_neg c14] at hf
  by_cases c29 : (u3 - u3 / 6 * 6) = 5
  · rw [if_pos c29] at hf
    refine V.tabIn (off := 60) 67 dX11_doDrawn_7 (by rw [c29]; decide) (by rw [c29]; decide) (by rw [c29]; rfl) (by decide) ?_
    refine V.aload_n dX11_doDrawn_67 rfl ?_
    refine V.aload_n dX11_doDrawn_68 rfl ?_
    refine V.getr fl_X11_23 dX11_doDrawn_69 (hx.1 0 (11, 0) rfl) hc (by decide) rfl ?_
    obtain ⟨I32, hk31, hf⟩ := bnd_some hf
    try dsimp only at hf
    refine V.inv cv_X11_198 (c_s_standAgain hs_a hs_c hk31) dX11_doDrawn_72 (hs_a.1 0 (8, 0) rfl) (by decide) rfl rfl rfl (Nat.le_of_ble_eq_true rfl) (by decide) (by decide) (Nat.le_refl _) (Nat.le_refl _) (fun _ _ hq => ?_)
    obtain ⟨rfl, rfl⟩ := hq
    refine V.iconst (v := 0) dX11_doDrawn_75 (by decide) ?_
    obtain rfl := Option.some.inj hf
    exact V.iret dX11_doDrawn_76 rfl (Nat.le_refl _) (Nat.le_refl _) ⟨rfl, rfl⟩
  rw [if_neg c29] at hf
  refine V.tabOut 77 dX11_doDrawn_7 (by have c5_ := sw_ne c5 (j := 3) (by decide); have c14_ := sw_ne c14 (j := 4) (by decide); have c29_ := sw_ne c29 (j := 5) (by decide); omega) (by decide) ?_
  refine V.aload_n dX11_doDrawn_77 rfl ?_
  refine V.aload_n dX11_doDrawn_78 rfl ?_
  refine V.aload_n dX11_doDrawn_79 rfl ?_
  obtain ⟨⟨u35, I36⟩, hk34, hf⟩ := bnd_some hf
  try dsimp only at hf
  refine V.inv cv_X11_253 (c_x_draw hx hk34) dX11_doDrawn_80 (hx.1 0 (11, 0) rfl) (by decide) rfl rfl rfl (Nat.le_of_ble_eq_true rfl) (by decide) (by decide) (Nat.le_refl _) (Nat.le_refl _) (fun _ _ hq => ?_)
  obtain ⟨rfl, rfl⟩ := hq
  try dsimp only
  refine V.iconst (v := 4) dX11_doDrawn_83 (by decide) ?_
  refine V.irem dX11_doDrawn_84 (by decide) ?_
  obtain ⟨⟨u39, I40⟩, hk38, hf⟩ := bnd_some hf
  try dsimp only at hf
  refine V.inv cv_X11_178 (c_x_doMinute hx hs_a hs_c hc hk38) dX11_doDrawn_85 (hx.1 0 (11, 0) rfl) (by decide) rfl rfl rfl (Nat.le_of_ble_eq_true rfl) (by decide) (by decide) (Nat.le_refl _) (Nat.le_refl _) (fun _ _ hq => ?_)
  obtain ⟨rfl, rfl⟩ := hq
  try dsimp only
  obtain rfl := Option.some.inj hf
  exact V.iret dX11_doDrawn_88 rfl (Nat.le_refl _) (Nat.le_refl _) ⟨rfl, rfl⟩
theorem dX11_season_0 : decode cX11_season 0 = .ok (.iload_n 2, 1) := by decide +kernel
theorem dX11_season_1 : decode cX11_season 1 = .ok (.iconst 1, 1) := by decide +kernel
theorem dX11_season_2 : decode cX11_season 2 = .ok (.if_icmp .lt 9, 3) := by decide +kernel
theorem dX11_season_5 : decode cX11_season 5 = .ok (.iload_n 2, 1) := by decide +kernel
theorem dX11_season_6 : decode cX11_season 6 = .ok (.bipush 40, 2) := by decide +kernel
theorem dX11_season_8 : decode cX11_season 8 = .ok (.if_icmp .le 6, 3) := by decide +kernel
theorem dX11_season_11 : decode cX11_season 11 = .ok (.bipush (-3), 2) := by decide +kernel
theorem dX11_season_13 : decode cX11_season 13 = .ok (.ireturn, 1) := by decide +kernel
theorem dX11_season_14 : decode cX11_season 14 = .ok (.aload_n 0, 1) := by decide +kernel
theorem dX11_season_15 : decode cX11_season 15 = .ok (.getfield 59, 3) := by decide +kernel
theorem dX11_season_18 : decode cX11_season 18 = .ok (.aload_n 0, 1) := by decide +kernel
theorem dX11_season_19 : decode cX11_season 19 = .ok (.getfield 30, 3) := by decide +kernel
theorem dX11_season_22 : decode cX11_season 22 = .ok (.invokevirtual 174, 3) := by decide +kernel
theorem dX11_season_25 : decode cX11_season 25 = .ok (.aload_n 0, 1) := by decide +kernel
theorem dX11_season_26 : decode cX11_season 26 = .ok (.iload_n 1, 1) := by decide +kernel
theorem dX11_season_27 : decode cX11_season 27 = .ok (.putfield 239, 3) := by decide +kernel
theorem dX11_season_30 : decode cX11_season 30 = .ok (.iconst 0, 1) := by decide +kernel
theorem dX11_season_31 : decode cX11_season 31 = .ok (.istore_n 3, 1) := by decide +kernel
theorem dX11_season_32 : decode cX11_season 32 = .ok (.iconst 0, 1) := by decide +kernel
theorem dX11_season_33 : decode cX11_season 33 = .ok (.istore 4, 2) := by decide +kernel
theorem dX11_season_35 : decode cX11_season 35 = .ok (.iload 4, 2) := by decide +kernel
theorem dX11_season_37 : decode cX11_season 37 = .ok (.iload_n 2, 1) := by decide +kernel
theorem dX11_season_38 : decode cX11_season 38 = .ok (.if_icmp .ge 23, 3) := by decide +kernel
theorem dX11_season_41 : decode cX11_season 41 = .ok (.aload_n 0, 1) := by decide +kernel
theorem dX11_season_42 : decode cX11_season 42 = .ok (.aload_n 0, 1) := by decide +kernel
theorem dX11_season_43 : decode cX11_season 43 = .ok (.getfield 30, 3) := by decide +kernel
theorem dX11_season_46 : decode cX11_season 46 = .ok (.invokevirtual 242, 3) := by decide +kernel
theorem dX11_season_49 : decode cX11_season 49 = .ok (.ifCond .ne 6, 3) := by decide +kernel
theorem dX11_season_52 : decode cX11_season 52 = .ok (.iinc 3 1, 3) := by decide +kernel
theorem dX11_season_55 : decode cX11_season 55 = .ok (.iinc 4 1, 3) := by decide +kernel
theorem dX11_season_58 : decode cX11_season 58 = .ok (.goto (-23), 3) := by decide +kernel
theorem dX11_season_61 : decode cX11_season 61 = .ok (.iload_n 3, 1) := by decide +kernel
theorem dX11_season_62 : decode cX11_season 62 = .ok (.ifCond .le 7, 3) := by decide +kernel
theorem dX11_season_65 : decode cX11_season 65 = .ok (.aload_n 0, 1) := by decide +kernel
theorem dX11_season_66 : decode cX11_season 66 = .ok (.invokevirtual 182, 3) := by decide +kernel
theorem dX11_season_69 : decode cX11_season 69 = .ok (.iload_n 3, 1) := by decide +kernel
theorem dX11_season_70 : decode cX11_season 70 = .ok (.ireturn, 1) := by decide +kernel
def x_season_35 (F : Nat) (T : Nat → Option (Nat × Nat)) (P : Nat → Nat → Option Nat) (x : Nat) (c : Nat) (g1 : Int32) (g2 : Int32) : Nat → Int32 → Int32 → (Nat → Nat → Int32) → Option (Int32 × Int32 × (Nat → Nat → Int32))
  | 0, _, _, _ => none
  | k + 1, l3, l4, I => if g2 ≤ l4 then (some (l3, l4, I)) else ((x_doDrawn F T I P x (x + 12) c).bind (fun q9 => let u11 := q9.1; let I12 := q9.2; if u11 = 0 then (x_season_35 F T P x c g1 g2 k (l3 + 1) (l4 + 1) I12) else (x_season_35 F T P x c g1 g2 k l3 (l4 + 1) I12)))
def x_season (F : Nat) (T : Nat → Option (Nat × Nat)) (I : Nat → Nat → Int32) (P : Nat → Nat → Option Nat) (x : Nat) (c : Nat) (v1 : Int32) (v2 : Int32) : Option (Int32 × (Nat → Nat → Int32)) := if v2 < 1 then (some ((-3), I)) else (if v2 ≤ 40 then ((s_copyFrom I (x + 94) (x + 12)).bind (fun q3 => let I5 := q3; let I6 := uI I5 x 10 v1; (x_season_35 F T P x c v1 v2 F 0 0 I6).bind (fun q14 => let m16 := q14.1; let m17 := q14.2.1; let I18 := q14.2.2; if m16 ≤ 0 then (some (m16, I18)) else ((x_keepForUndo I18 x).bind (fun q20 => let I22 := q20; some (m16, I22)))))) else (some ((-3), I)))
theorem l_x_season_35 {l : Launch} {D : va_G} {E : Nat → ClassId} {B : Nat → Prop} {n F : Nat} {Q : Option Value → HT → Prop} {T : Nat → Option (Nat × Nat)} {J : Nat → Nat → Int64} {P : Nat → Nat → Option Nat} {x : Nat} {c : Nat} {g1 : Int32} {g2 : Int32} (hx : isSR T P x) (hs_c : isCt T P c) (hc : P x 3 = some c)  (r : Int32 × Int32 × (Nat → Nat → Int32)) : ∀ (k : Nat) (l3 : Int32) (l4 : Int32) (I : (Nat → Nat → Int32)), x_season_35 F T P x c g1 g2 k l3 l4 I = some r → V l D E B yX11_season cX11_season 5 (some .int) 6 0 0 Q 0 0 (n, T, r.2.2, J, P) 61 [(0, some (.ref x)), (1, some (.int g1)), (2, some (.int g2)), (3, some (.int (r.1))), (4, some (.int (r.2.1)))] [] → V l D E B yX11_season cX11_season 5 (some .int) 6 0 0 Q 0 0 (n, T, I, J, P) 35 [(0, some (.ref x)), (1, some (.int g1)), (2, some (.int g2)), (3, some (.int l3)), (4, some (.int l4))] [] := by
  intro k
  induction k with
  | zero =>
    intro l3 l4 I hf hk
    cases hf
  | succ k ih =>
    intro l3 l4 I hf hk
    unfold x_season_35 at hf
    refine V.iload dX11_season_35 rfl ?_
    refine V.iload_n dX11_season_37 rfl ?_
    refine V.icmp_ge 61 dX11_season_38 (by decide) (fun c8 => ?_) (fun c8 => ?_)
    · rw [if_pos c8] at hf
      obtain rfl := Option.some.inj hf
      exact V.lo [(0, some (.ref x)), (1, some (.int g1)), (2, some (.int g2)), (3, some (.int l3)), (4, some (.int l4))] (by simp only [Subs]; repeat' first | exact trivial | constructor | rfl) hk
    · rw [if_neg c8] at hf
      refine V.aload_n dX11_season_41 rfl ?_
      refine V.aload_n dX11_season_42 rfl ?_
      refine V.getr fl_X11_30 dX11_season_43 (hx.1 0 (11, 0) rfl) (hx.2.1 0 4 12 rfl) (by decide) rfl ?_
      obtain ⟨⟨u11, I12⟩, hk10, hf⟩ := bnd_some hf
      try dsimp only at hf
      refine V.inv cv_X11_242 (c_x_doDrawn hx (hx.2.2.1 12 rfl) hs_c hc hk10) dX11_season_46 (hx.1 0 (11, 0) rfl) (by decide) rfl rfl rfl (Nat.le_of_ble_eq_true rfl) (by decide) (by decide) (Nat.le_refl _) (Nat.le_refl _) (fun _ _ hq => ?_)
      obtain ⟨rfl, rfl⟩ := hq
      try dsimp only
      refine V.if_ne 55 dX11_season_49 (by decide) (fun c13 => ?_) (fun c13 => ?_)
      · rw [if_neg c13] at hf
        refine V.iinc (v := (l4 + 1)) dX11_season_55 rfl rfl (by first | exact rfl | exact trivial) ?_
        refine V.goto 35 dX11_season_58 (by decide) ?_
        exact V.lo [(0, some (.ref x)), (1, some (.int g1)), (2, some (.int g2)), (3, some (.int l3)), (4, some (.int (l4 + 1)))] (by simp only [Subs]; repeat' first | exact trivial | constructor | rfl) (ih _ _ _ hf hk)
      · rw [if_pos c13] at hf
        refine V.iinc (v := (l3 + 1)) dX11_season_52 rfl rfl (by first | exact rfl | exact trivial) ?_
        refine V.iinc (v := (l4 + 1)) dX11_season_55 rfl rfl (by first | exact rfl | exact trivial) ?_
        refine V.goto 35 dX11_season_58 (by decide) ?_
        exact V.lo [(0, some (.ref x)), (1, some (.int g1)), (2, some (.int g2)), (3, some (.int (l3 + 1))), (4, some (.int (l4 + 1)))] (by simp only [Subs]; repeat' first | exact trivial | constructor | rfl) (ih _ _ _ hf hk)
theorem c_x_season {l : Launch} {D : va_G} {E : Nat → ClassId} {B : Nat → Prop} {n F : Nat} {T : Nat → Option (Nat × Nat)} {I : Nat → Nat → Int32} {J : Nat → Nat → Int64} {P : Nat → Nat → Option Nat} {x : Nat} {c : Nat} {v1 : Int32} {v2 : Int32} {r : Int32 × (Nat → Nat → Int32)} (hx : isSR T P x) (hs_c : isCt T P c) (hc : P x 3 = some c) (hf : x_season F T I P x c v1 v2 = some r) : Ct l D E B yX11_season cX11_season 5 (some .int) 6 0 0 [.ref x, .int v1, .int v2] (n, T, I, J, P) (Ret (some (.int r.1)) (n, T, r.2, J, P)) := by
  unfold x_season at hf
  refine Ct.ofV (by decide) (Nat.le_of_ble_eq_true rfl) ?_
  refine V.iload_n dX11_season_0 rfl ?_
  refine V.iconst (v := 1) dX11_season_1 (by decide) ?_
  refine V.icmp_lt 11 dX11_season_2 (by decide) (fun c1 => ?_) (fun c1 => ?_)
  · rw [if_pos c1] at hf
    refine V.bipush (v := -3) dX11_season_11 (by decide) ?_
    obtain rfl := Option.some.inj hf
    exact V.iret dX11_season_13 rfl (Nat.le_refl _) (Nat.le_refl _) ⟨rfl, rfl⟩
  · rw [if_neg c1] at hf
    refine V.iload_n dX11_season_5 rfl ?_
    refine V.bipush (v := 40) dX11_season_6 (by decide) ?_
    refine V.icmp_le 14 dX11_season_8 (by decide) (fun c2 => ?_) (fun c2 => ?_)
    · rw [if_pos c2] at hf
      refine V.aload_n dX11_season_14 rfl ?_
      refine V.getr fl_X11_59 dX11_season_15 (hx.1 0 (11, 0) rfl) (hx.2.1 0 11 94 rfl) (by decide) rfl ?_
      refine V.aload_n dX11_season_18 rfl ?_
      refine V.getr fl_X11_30 dX11_season_19 (hx.1 0 (11, 0) rfl) (hx.2.1 0 4 12 rfl) (by decide) rfl ?_
      obtain ⟨I5, hk4, hf⟩ := bnd_some hf
      try dsimp only at hf
      refine V.inv cv_X11_174 (c_s_copyFrom (hx.2.2.1 94 rfl) (hx.2.2.1 12 rfl) hk4) dX11_season_22 ((hx.2.2.1 94 rfl).1 0 (8, 0) rfl) (by decide) rfl rfl rfl (Nat.le_of_ble_eq_true rfl) (by decide) (by decide) (Nat.le_refl _) (Nat.le_refl _) (fun _ _ hq => ?_)
      obtain ⟨rfl, rfl⟩ := hq
      refine V.aload_n dX11_season_25 rfl ?_
      refine V.iload_n dX11_season_26 rfl ?_
      refine V.putiE fl_X11_239 dX11_season_27 (hx.1 0 (11, 0) rfl) (by decide) (fun h => by cases h) rfl rfl rfl (Nat.le_of_ble_eq_true rfl) (fun I6 e7 => ?_)
      rw [← e7] at hf
      try dsimp only at hf
      clear e7
      refine V.iconst (v := 0) dX11_season_30 (by decide) ?_
      refine V.istore_n dX11_season_31 rfl (by decide) (by first | exact rfl | exact trivial) ?_
      refine V.iconst (v := 0) dX11_season_32 (by decide) ?_
      refine V.istore dX11_season_33 (by decide) (by first | exact rfl | exact trivial) ?_
      obtain ⟨⟨m16, m17, I18⟩, hk15, hf⟩ := bnd_some hf
      try dsimp only at hf
      refine V.lo [(0, some (.ref x)), (1, some (.int v1)), (2, some (.int v2)), (3, some (.int 0)), (4, some (.int 0))] (by simp only [Subs]; repeat' first | exact trivial | constructor | rfl) (l_x_season_35 hx hs_c hc _ F _ _ _ hk15 ?_)
      try dsimp only
      refine V.iload_n dX11_season_61 rfl ?_
      refine V.if_le 69 dX11_season_62 (by decide) (fun c19 => ?_) (fun c19 => ?_)
      · rw [if_pos c19] at hf
        refine V.iload_n dX11_season_69 rfl ?_
        obtain rfl := Option.some.inj hf
        exact V.iret dX11_season_70 rfl (Nat.le_refl _) (Nat.le_refl _) ⟨rfl, rfl⟩
      · rw [if_neg c19] at hf
        refine V.aload_n dX11_season_65 rfl ?_
        obtain ⟨I22, hk21, hf⟩ := bnd_some hf
        try dsimp only at hf
        refine V.inv cv_X11_182 (c_x_keepForUndo hx hk21) dX11_season_66 (hx.1 0 (11, 0) rfl) (by decide) rfl rfl rfl (Nat.le_of_ble_eq_true rfl) (by decide) (by decide) (Nat.le_refl _) (Nat.le_refl _) (fun _ _ hq => ?_)
        obtain ⟨rfl, rfl⟩ := hq
        refine V.iload_n dX11_season_69 rfl ?_
        obtain rfl := Option.some.inj hf
        exact V.iret dX11_season_70 rfl (Nat.le_refl _) (Nat.le_refl _) ⟨rfl, rfl⟩
    · rw [if_neg c2] at hf
      refine V.bipush (v := -3) dX11_season_11 (by decide) ?_
      obtain rfl := Option.some.inj hf
      exact V.iret dX11_season_13 rfl (Nat.le_refl _) (Nat.le_refl _) ⟨rfl, rfl⟩
theorem dX11_readTunes_0 : decode cX11_readTunes 0 = .ok (.aload_n 0, 1) := by decide +kernel
theorem dX11_readTunes_1 : decode cX11_readTunes 1 = .ok (.getfield 43, 3) := by decide +kernel
theorem dX11_readTunes_4 : decode cX11_readTunes 4 = .ok (.iload_n 1, 1) := by decide +kernel
theorem dX11_readTunes_5 : decode cX11_readTunes 5 = .ok (.aaload, 1) := by decide +kernel
theorem dX11_readTunes_6 : decode cX11_readTunes 6 = .ok (.invokevirtual 214, 3) := by decide +kernel
theorem dX11_readTunes_9 : decode cX11_readTunes 9 = .ok (.ifCond .eq 8, 3) := by decide +kernel
theorem dX11_readTunes_12 : decode cX11_readTunes 12 = .ok (.bipush (-6), 2) := by decide +kernel
theorem dX11_readTunes_14 : decode cX11_readTunes 14 = .ok (.goto 23, 3) := by decide +kernel
theorem dX11_readTunes_17 : decode cX11_readTunes 17 = .ok (.aload_n 0, 1) := by decide +kernel
theorem dX11_readTunes_18 : decode cX11_readTunes 18 = .ok (.getfield 68, 3) := by decide +kernel
theorem dX11_readTunes_21 : decode cX11_readTunes 21 = .ok (.aload_n 0, 1) := by decide +kernel
theorem dX11_readTunes_22 : decode cX11_readTunes 22 = .ok (.getfield 43, 3) := by decide +kernel
theorem dX11_readTunes_25 : decode cX11_readTunes 25 = .ok (.iload_n 1, 1) := by decide +kernel
theorem dX11_readTunes_26 : decode cX11_readTunes 26 = .ok (.aaload, 1) := by decide +kernel
theorem dX11_readTunes_27 : decode cX11_readTunes 27 = .ok (.aload_n 0, 1) := by decide +kernel
theorem dX11_readTunes_28 : decode cX11_readTunes 28 = .ok (.getfield 23, 3) := by decide +kernel
theorem dX11_readTunes_31 : decode cX11_readTunes 31 = .ok (.getfield 171, 3) := by decide +kernel
theorem dX11_readTunes_34 : decode cX11_readTunes 34 = .ok (.invokevirtual 301, 3) := by decide +kernel
theorem dX11_readTunes_37 : decode cX11_readTunes 37 = .ok (.ireturn, 1) := by decide +kernel
def x_readTunes (F : Nat) (I : Nat → Nat → Int32) (J : Nat → Nat → Int64) (x : Nat) (c : Nat) (v1 : Int32) : Option (Int32 × (Nat → Nat → Int32)) := chk v1 4 (if (ty_isMissing I (x + (135 + 2 * (Int32.toNatClampNeg v1)))) = 0 then ((ni_take F I J x (x + (135 + 2 * (Int32.toNatClampNeg v1))) (I c 1)).bind (fun q3 => let u5 := q3.1; let I6 := q3.2; some (u5, I6))) else (some ((-6), I)))
theorem c_x_readTunes {l : Launch} {D : va_G} {E : Nat → ClassId} {B : Nat → Prop} {n F : Nat} {T : Nat → Option (Nat × Nat)} {I : Nat → Nat → Int32} {J : Nat → Nat → Int64} {P : Nat → Nat → Option Nat} {x : Nat} {c : Nat} {v1 : Int32} {r : Int32 × (Nat → Nat → Int32)} (hx : isSR T P x) (hs_c : isCt T P c) (hc : P x 3 = some c) (hf : x_readTunes F I J x c v1 = some r) : Ct l D E B yX11_readTunes cX11_readTunes 2 (some .int) 1 0 0 [.ref x, .int v1] (n, T, I, J, P) (Ret (some (.int r.1)) (n, T, r.2, J, P)) := by
  unfold x_readTunes at hf
  refine Ct.ofV (by decide) (Nat.le_of_ble_eq_true rfl) ?_
  refine V.aload_n dX11_readTunes_0 rfl ?_
  refine V.getr fl_X11_43 dX11_readTunes_1 (hx.1 0 (11, 0) rfl) (hx.2.1 0 6 91 rfl) (by decide) rfl ?_
  refine V.iload_n dX11_readTunes_4 rfl ?_
  obtain ⟨hb1, hf⟩ := chk_some hf
  refine V.aald dX11_readTunes_5 (hx.1 91 (26, 4) rfl) (by decide) hb1 (hx.arr91 (i := v1) hb1) ?_
  refine V.inv cv_X11_214 (c_ty_isMissing (hx.ob91 (i := v1) hb1)) dX11_readTunes_6 ((hx.ob91 (i := v1) hb1).1 0 (9, 0) rfl) (by decide) rfl rfl rfl (Nat.le_of_ble_eq_true rfl) (by decide) (by decide) (Nat.le_refl _) (Nat.le_refl _) (fun _ _ hq => ?_)
  obtain ⟨rfl, rfl⟩ := hq
  refine V.if_eq 17 dX11_readTunes_9 (by decide) (fun c2 => ?_) (fun c2 => ?_)
  · rw [if_pos c2] at hf
    refine V.aload_n dX11_readTunes_17 rfl ?_
    refine V.getr fl_X11_68 dX11_readTunes_18 (hx.1 0 (11, 0) rfl) (hx.2.1 0 13 108 rfl) (by decide) rfl ?_
    refine V.aload_n dX11_readTunes_21 rfl ?_
    refine V.getr fl_X11_43 dX11_readTunes_22 (hx.1 0 (11, 0) rfl) (hx.2.1 0 6 91 rfl) (by decide) rfl ?_
    refine V.iload_n dX11_readTunes_25 rfl ?_
    refine V.aald dX11_readTunes_26 (hx.1 91 (26, 4) rfl) (by decide) hb1 (hx.arr91 (i := v1) hb1) ?_
    refine V.aload_n dX11_readTunes_27 rfl ?_
    refine V.getr fl_X11_23 dX11_readTunes_28 (hx.1 0 (11, 0) rfl) hc (by decide) rfl ?_
    refine V.getf fl_X11_171 dX11_readTunes_31 (hs_c.1.1 0 (1, 0) rfl) (by decide) rfl ?_
    obtain ⟨⟨u5, I6⟩, hk4, hf⟩ := bnd_some hf
    try dsimp only at hf
    refine V.inv cv_X11_301 (c_ni_take hx (hx.ob91 (i := v1) hb1) hk4) dX11_readTunes_34 (hx.1 108 (5, 0) rfl) (by decide) rfl rfl rfl (Nat.le_of_ble_eq_true rfl) (by decide) (by decide) (Nat.le_refl _) (Nat.le_refl _) (fun _ _ hq => ?_)
    obtain ⟨rfl, rfl⟩ := hq
    try dsimp only
    obtain rfl := Option.some.inj hf
    exact V.iret dX11_readTunes_37 rfl (Nat.le_refl _) (Nat.le_refl _) ⟨rfl, rfl⟩
  · rw [if_neg c2] at hf
    refine V.bipush (v := -6) dX11_readTunes_12 (by decide) ?_
    refine V.goto 37 dX11_readTunes_14 (by decide) ?_
    obtain rfl := Option.some.inj hf
    exact V.iret dX11_readTunes_37 rfl (Nat.le_refl _) (Nat.le_refl _) ⟨rfl, rfl⟩
theorem dX11_readNight_0 : decode cX11_readNight 0 = .ok (.aload_n 0, 1) := by decide +kernel
theorem dX11_readNight_1 : decode cX11_readNight 1 = .ok (.iload_n 1, 1) := by decide +kernel
theorem dX11_readNight_2 : decode cX11_readNight 2 = .ok (.invokevirtual 211, 3) := by decide +kernel
theorem dX11_readNight_5 : decode cX11_readNight 5 = .ok (.ifCond .ne 11, 3) := by decide +kernel
theorem dX11_readNight_8 : decode cX11_readNight 8 = .ok (.aload_n 0, 1) := by decide +kernel
theorem dX11_readNight_9 : decode cX11_readNight 9 = .ok (.iload_n 2, 1) := by decide +kernel
theorem dX11_readNight_10 : decode cX11_readNight 10 = .ok (.invokevirtual 127, 3) := by decide +kernel
theorem dX11_readNight_13 : decode cX11_readNight 13 = .ok (.ifCond .eq 8, 3) := by decide +kernel
theorem dX11_readNight_16 : decode cX11_readNight 16 = .ok (.bipush (-2), 2) := by decide +kernel
theorem dX11_readNight_18 : decode cX11_readNight 18 = .ok (.goto 8, 3) := by decide +kernel
theorem dX11_readNight_21 : decode cX11_readNight 21 = .ok (.aload_n 0, 1) := by decide +kernel
theorem dX11_readNight_22 : decode cX11_readNight 22 = .ok (.iload_n 1, 1) := by decide +kernel
theorem dX11_readNight_23 : decode cX11_readNight 23 = .ok (.invokevirtual 288, 3) := by decide +kernel
theorem dX11_readNight_26 : decode cX11_readNight 26 = .ok (.ireturn, 1) := by decide +kernel
def x_readNight (F : Nat) (I : Nat → Nat → Int32) (J : Nat → Nat → Int64) (x : Nat) (c : Nat) (v1 : Int32) (v2 : Int32) : Option (Int32 × (Nat → Nat → Int32)) := if (x_noTray x v1) = 0 then (if (x_noPerson I x c v2) = 0 then ((x_readTunes F I J x c v1).bind (fun q3 => let u5 := q3.1; let I6 := q3.2; some (u5, I6))) else (some ((-2), I))) else (some ((-2), I))
theorem c_x_readNight {l : Launch} {D : va_G} {E : Nat → ClassId} {B : Nat → Prop} {n F : Nat} {T : Nat → Option (Nat × Nat)} {I : Nat → Nat → Int32} {J : Nat → Nat → Int64} {P : Nat → Nat → Option Nat} {x : Nat} {c : Nat} {v1 : Int32} {v2 : Int32} {r : Int32 × (Nat → Nat → Int32)} (hx : isSR T P x) (hs_c : isCt T P c) (hc : P x 3 = some c) (hf : x_readNight F I J x c v1 v2 = some r) : Ct l D E B yX11_readNight cX11_readNight 3 (some .int) 2 0 0 [.ref x, .int v1, .int v2] (n, T, I, J, P) (Ret (some (.int r.1)) (n, T, r.2, J, P)) := by
  unfold x_readNight at hf
  refine Ct.ofV (by decide) (Nat.le_of_ble_eq_true rfl) ?_
  refine V.aload_n dX11_readNight_0 rfl ?_
  refine V.iload_n dX11_readNight_1 rfl ?_
  refine V.inv cv_X11_211 (c_x_noTray hx) dX11_readNight_2 (hx.1 0 (11, 0) rfl) (by decide) rfl rfl rfl (Nat.le_of_ble_eq_true rfl) (by decide) (by decide) (Nat.le_refl _) (Nat.le_refl _) (fun _ _ hq => ?_)
  obtain ⟨rfl, rfl⟩ := hq
  refine V.if_ne 16 dX11_readNight_5 (by decide) (fun c1 => ?_) (fun c1 => ?_)
  · rw [if_neg c1] at hf
    refine V.bipush (v := -2) dX11_readNight_16 (by decide) ?_
    refine V.goto 26 dX11_readNight_18 (by decide) ?_
    obtain rfl := Option.some.inj hf
    exact V.iret dX11_readNight_26 rfl (Nat.le_refl _) (Nat.le_refl _) ⟨rfl, rfl⟩
  · rw [if_pos c1] at hf
    refine V.aload_n dX11_readNight_8 rfl ?_
    refine V.iload_n dX11_readNight_9 rfl ?_
    refine V.inv cv_X11_127 (c_x_noPerson hx hs_c hc) dX11_readNight_10 (hx.1 0 (11, 0) rfl) (by decide) rfl rfl rfl (Nat.le_of_ble_eq_true rfl) (by decide) (by decide) (Nat.le_refl _) (Nat.le_refl _) (fun _ _ hq => ?_)
    obtain ⟨rfl, rfl⟩ := hq
    refine V.if_eq 21 dX11_readNight_13 (by decide) (fun c2 => ?_) (fun c2 => ?_)
    · rw [if_pos c2] at hf
      refine V.aload_n dX11_readNight_21 rfl ?_
      refine V.iload_n dX11_readNight_22 rfl ?_
      obtain ⟨⟨u5, I6⟩, hk4, hf⟩ := bnd_some hf
      try dsimp only at hf
      refine V.inv cv_X11_288 (c_x_readTunes hx hs_c hc hk4) dX11_readNight_23 (hx.1 0 (11, 0) rfl) (by decide) rfl rfl rfl (Nat.le_of_ble_eq_true rfl) (by decide) (by decide) (Nat.le_refl _) (Nat.le_refl _) (fun _ _ hq => ?_)
      obtain ⟨rfl, rfl⟩ := hq
      try dsimp only
      obtain rfl := Option.some.inj hf
      exact V.iret dX11_readNight_26 rfl (Nat.le_refl _) (Nat.le_refl _) ⟨rfl, rfl⟩
    · rw [if_neg c2] at hf
      refine V.bipush (v := -2) dX11_readNight_16 (by decide) ?_
      refine V.goto 26 dX11_readNight_18 (by decide) ?_
      obtain rfl := Option.some.inj hf
      exact V.iret dX11_readNight_26 rfl (Nat.le_refl _) (Nat.le_refl _) ⟨rfl, rfl⟩
theorem dX11_readNightOfOneUp_0 : decode cX11_readNightOfOneUp 0 = .ok (.aload_n 0, 1) := by decide +kernel
theorem dX11_readNightOfOneUp_1 : decode cX11_readNightOfOneUp 1 = .ok (.iload_n 1, 1) := by decide +kernel
theorem dX11_readNightOfOneUp_2 : decode cX11_readNightOfOneUp 2 = .ok (.iload_n 2, 1) := by decide +kernel
theorem dX11_readNightOfOneUp_3 : decode cX11_readNightOfOneUp 3 = .ok (.invokevirtual 281, 3) := by decide +kernel
theorem dX11_readNightOfOneUp_6 : decode cX11_readNightOfOneUp 6 = .ok (.istore_n 3, 1) := by decide +kernel
theorem dX11_readNightOfOneUp_7 : decode cX11_readNightOfOneUp 7 = .ok (.iload_n 3, 1) := by decide +kernel
theorem dX11_readNightOfOneUp_8 : decode cX11_readNightOfOneUp 8 = .ok (.ifCond .ne 19, 3) := by decide +kernel
theorem dX11_readNightOfOneUp_11 : decode cX11_readNightOfOneUp 11 = .ok (.aload_n 0, 1) := by decide +kernel
theorem dX11_readNightOfOneUp_12 : decode cX11_readNightOfOneUp 12 = .ok (.getfield 30, 3) := by decide +kernel
theorem dX11_readNightOfOneUp_15 : decode cX11_readNightOfOneUp 15 = .ok (.iload_n 2, 1) := by decide +kernel
theorem dX11_readNightOfOneUp_16 : decode cX11_readNightOfOneUp 16 = .ok (.invokevirtual 139, 3) := by decide +kernel
theorem dX11_readNightOfOneUp_19 : decode cX11_readNightOfOneUp 19 = .ok (.ifCond .ne 8, 3) := by decide +kernel
theorem dX11_readNightOfOneUp_22 : decode cX11_readNightOfOneUp 22 = .ok (.bipush (-5), 2) := by decide +kernel
theorem dX11_readNightOfOneUp_24 : decode cX11_readNightOfOneUp 24 = .ok (.goto 4, 3) := by decide +kernel
theorem dX11_readNightOfOneUp_27 : decode cX11_readNightOfOneUp 27 = .ok (.iload_n 3, 1) := by decide +kernel
theorem dX11_readNightOfOneUp_28 : decode cX11_readNightOfOneUp 28 = .ok (.ireturn, 1) := by decide +kernel
def x_readNightOfOneUp (F : Nat) (I : Nat → Nat → Int32) (J : Nat → Nat → Int64) (x : Nat) (c : Nat) (v1 : Int32) (v2 : Int32) : Option (Int32 × (Nat → Nat → Int32)) := (x_readNight F I J x c v1 v2).bind (fun q1 => let u3 := q1.1; let I4 := q1.2; if u3 = 0 then (if (s_isUp I4 (x + 12) v2) = 0 then (some ((-5), I4)) else (some (u3, I4))) else (some (u3, I4)))
theorem c_x_readNightOfOneUp {l : Launch} {D : va_G} {E : Nat → ClassId} {B : Nat → Prop} {n F : Nat} {T : Nat → Option (Nat × Nat)} {I : Nat → Nat → Int32} {J : Nat → Nat → Int64} {P : Nat → Nat → Option Nat} {x : Nat} {c : Nat} {v1 : Int32} {v2 : Int32} {r : Int32 × (Nat → Nat → Int32)} (hx : isSR T P x) (hs_c : isCt T P c) (hc : P x 3 = some c) (hf : x_readNightOfOneUp F I J x c v1 v2 = some r) : Ct l D E B yX11_readNightOfOneUp cX11_readNightOfOneUp 4 (some .int) 3 0 0 [.ref x, .int v1, .int v2] (n, T, I, J, P) (Ret (some (.int r.1)) (n, T, r.2, J, P)) := by
  unfold x_readNightOfOneUp at hf
  refine Ct.ofV (by decide) (Nat.le_of_ble_eq_true rfl) ?_
  refine V.aload_n dX11_readNightOfOneUp_0 rfl ?_
  refine V.iload_n dX11_readNightOfOneUp_1 rfl ?_
  refine V.iload_n dX11_readNightOfOneUp_2 rfl ?_
  obtain ⟨⟨u3, I4⟩, hk2, hf⟩ := bnd_some hf
  try dsimp only at hf
  refine V.inv cv_X11_281 (c_x_readNight hx hs_c hc hk2) dX11_readNightOfOneUp_3 (hx.1 0 (11, 0) rfl) (by decide) rfl rfl rfl (Nat.le_of_ble_eq_true rfl) (by decide) (by decide) (Nat.le_refl _) (Nat.le_refl _) (fun _ _ hq => ?_)
  obtain ⟨rfl, rfl⟩ := hq
  try dsimp only
  refine V.istore_n dX11_readNightOfOneUp_6 rfl (by decide) (by first | exact rfl | exact trivial) ?_
  refine V.iload_n dX11_readNightOfOneUp_7 rfl ?_
  refine V.if_ne 27 dX11_readNightOfOneUp_8 (by decide) (fun c5 => ?_) (fun c5 => ?_)
  · rw [if_neg c5] at hf
    refine V.iload_n dX11_readNightOfOneUp_27 rfl ?_
    obtain rfl := Option.some.inj hf
    exact V.iret dX11_readNightOfOneUp_28 rfl (Nat.le_refl _) (Nat.le_refl _) ⟨rfl, rfl⟩
  · rw [if_pos c5] at hf
    refine V.aload_n dX11_readNightOfOneUp_11 rfl ?_
    refine V.getr fl_X11_30 dX11_readNightOfOneUp_12 (hx.1 0 (11, 0) rfl) (hx.2.1 0 4 12 rfl) (by decide) rfl ?_
    refine V.iload_n dX11_readNightOfOneUp_15 rfl ?_
    refine V.inv cv_X11_139 (c_s_isUp (hx.2.2.1 12 rfl)) dX11_readNightOfOneUp_16 ((hx.2.2.1 12 rfl).1 0 (8, 0) rfl) (by decide) rfl rfl rfl (Nat.le_of_ble_eq_true rfl) (by decide) (by decide) (Nat.le_refl _) (Nat.le_refl _) (fun _ _ hq => ?_)
    obtain ⟨rfl, rfl⟩ := hq
    refine V.if_ne 27 dX11_readNightOfOneUp_19 (by decide) (fun c6 => ?_) (fun c6 => ?_)
    · rw [if_neg c6] at hf
      refine V.iload_n dX11_readNightOfOneUp_27 rfl ?_
      obtain rfl := Option.some.inj hf
      exact V.iret dX11_readNightOfOneUp_28 rfl (Nat.le_refl _) (Nat.le_refl _) ⟨rfl, rfl⟩
    · rw [if_pos c6] at hf
      refine V.bipush (v := -5) dX11_readNightOfOneUp_22 (by decide) ?_
      refine V.goto 28 dX11_readNightOfOneUp_24 (by decide) ?_
      obtain rfl := Option.some.inj hf
      exact V.iret dX11_readNightOfOneUp_28 rfl (Nat.le_refl _) (Nat.le_refl _) ⟨rfl, rfl⟩
theorem dX11_stands_0 : decode cX11_stands 0 = .ok (.aload_n 0, 1) := by decide +kernel
theorem dX11_stands_1 : decode cX11_stands 1 = .ok (.iload_n 1, 1) := by decide +kernel
theorem dX11_stands_2 : decode cX11_stands 2 = .ok (.iload_n 2, 1) := by decide +kernel
theorem dX11_stands_3 : decode cX11_stands 3 = .ok (.invokevirtual 274, 3) := by decide +kernel
theorem dX11_stands_6 : decode cX11_stands 6 = .ok (.istore_n 3, 1) := by decide +kernel
theorem dX11_stands_7 : decode cX11_stands 7 = .ok (.iload_n 3, 1) := by decide +kernel
theorem dX11_stands_8 : decode cX11_stands 8 = .ok (.ifCond .eq 5, 3) := by decide +kernel
theorem dX11_stands_11 : decode cX11_stands 11 = .ok (.iload_n 3, 1) := by decide +kernel
theorem dX11_stands_12 : decode cX11_stands 12 = .ok (.ireturn, 1) := by decide +kernel
theorem dX11_stands_13 : decode cX11_stands 13 = .ok (.aload_n 0, 1) := by decide +kernel
theorem dX11_stands_14 : decode cX11_stands 14 = .ok (.getfield 62, 3) := by decide +kernel
theorem dX11_stands_17 : decode cX11_stands 17 = .ok (.aload_n 0, 1) := by decide +kernel
theorem dX11_stands_18 : decode cX11_stands 18 = .ok (.getfield 30, 3) := by decide +kernel
theorem dX11_stands_21 : decode cX11_stands 21 = .ok (.invokevirtual 174, 3) := by decide +kernel
theorem dX11_stands_24 : decode cX11_stands 24 = .ok (.aload_n 0, 1) := by decide +kernel
theorem dX11_stands_25 : decode cX11_stands 25 = .ok (.getfield 68, 3) := by decide +kernel
theorem dX11_stands_28 : decode cX11_stands 28 = .ok (.aload_n 0, 1) := by decide +kernel
theorem dX11_stands_29 : decode cX11_stands 29 = .ok (.getfield 23, 3) := by decide +kernel
theorem dX11_stands_32 : decode cX11_stands 32 = .ok (.aload_n 0, 1) := by decide +kernel
theorem dX11_stands_33 : decode cX11_stands 33 = .ok (.getfield 62, 3) := by decide +kernel
theorem dX11_stands_36 : decode cX11_stands 36 = .ok (.iload_n 2, 1) := by decide +kernel
theorem dX11_stands_37 : decode cX11_stands 37 = .ok (.invokevirtual 277, 3) := by decide +kernel
theorem dX11_stands_40 : decode cX11_stands 40 = .ok (.ireturn, 1) := by decide +kernel
def x_stands (F : Nat) (T : Nat → Option (Nat × Nat)) (I : Nat → Nat → Int32) (J : Nat → Nat → Int64) (P : Nat → Nat → Option Nat) (x : Nat) (c : Nat) (v1 : Int32) (v2 : Int32) : Option (Int32 × (Nat → Nat → Int32)) := (x_readNightOfOneUp F I J x c v1 v2).bind (fun q1 => let u3 := q1.1; let I4 := q1.2; if u3 = 0 then ((s_copyFrom I4 (x + 101) (x + 12)).bind (fun q6 => let I8 := q6; (ni_minutesUp F T I8 P x c (x + 101) v2).bind (fun q9 => let u11 := q9.1; let I12 := q9.2; some (u11, I12)))) else (some (u3, I4)))
theorem c_x_stands {l : Launch} {D : va_G} {E : Nat → ClassId} {B : Nat → Prop} {n F : Nat} {T : Nat → Option (Nat × Nat)} {I : Nat → Nat → Int32} {J : Nat → Nat → Int64} {P : Nat → Nat → Option Nat} {x : Nat} {c : Nat} {v1 : Int32} {v2 : Int32} {r : Int32 × (Nat → Nat → Int32)} (hx : isSR T P x) (hs_c : isCt T P c) (hc : P x 3 = some c) (hf : x_stands F T I J P x c v1 v2 = some r) : Ct l D E B yX11_stands cX11_stands 4 (some .int) 5 0 0 [.ref x, .int v1, .int v2] (n, T, I, J, P) (Ret (some (.int r.1)) (n, T, r.2, J, P)) := by
  unfold x_stands at hf
  refine Ct.ofV (by decide) (Nat.le_of_ble_eq_true rfl) ?_
  refine V.aload_n dX11_stands_0 rfl ?_
  refine V.iload_n dX11_stands_1 rfl ?_
  refine V.iload_n dX11_stands_2 rfl ?_
  obtain ⟨⟨u3, I4⟩, hk2, hf⟩ := bnd_some hf
  try dsimp only at hf
  refine V.inv cv_X11_274 (c_x_readNightOfOneUp hx hs_c hc hk2) dX11_stands_3 (hx.1 0 (11, 0) rfl) (by decide) rfl rfl rfl (Nat.le_of_ble_eq_true rfl) (by decide) (by decide) (Nat.le_refl _) (Nat.le_refl _) (fun _ _ hq => ?_)
  obtain ⟨rfl, rfl⟩ := hq
  try dsimp only
  refine V.istore_n dX11_stands_6 rfl (by decide) (by first | exact rfl | exact trivial) ?_
  refine V.iload_n dX11_stands_7 rfl ?_
  refine V.if_eq 13 dX11_stands_8 (by decide) (fun c5 => ?_) (fun c5 => ?_)
  · rw [if_pos c5] at hf
    refine V.aload_n dX11_stands_13 rfl ?_
    refine V.getr fl_X11_62 dX11_stands_14 (hx.1 0 (11, 0) rfl) (hx.2.1 0 12 101 rfl) (by decide) rfl ?_
    refine V.aload_n dX11_stands_17 rfl ?_
    refine V.getr fl_X11_30 dX11_stands_18 (hx.1 0 (11, 0) rfl) (hx.2.1 0 4 12 rfl) (by decide) rfl ?_
    obtain ⟨I8, hk7, hf⟩ := bnd_some hf
    try dsimp only at hf
    refine V.inv cv_X11_174 (c_s_copyFrom (hx.2.2.1 101 rfl) (hx.2.2.1 12 rfl) hk7) dX11_stands_21 ((hx.2.2.1 101 rfl).1 0 (8, 0) rfl) (by decide) rfl rfl rfl (Nat.le_of_ble_eq_true rfl) (by decide) (by decide) (Nat.le_refl _) (Nat.le_refl _) (fun _ _ hq => ?_)
    obtain ⟨rfl, rfl⟩ := hq
    refine V.aload_n dX11_stands_24 rfl ?_
    refine V.getr fl_X11_68 dX11_stands_25 (hx.1 0 (11, 0) rfl) (hx.2.1 0 13 108 rfl) (by decide) rfl ?_
    refine V.aload_n dX11_stands_28 rfl ?_
    refine V.getr fl_X11_23 dX11_stands_29 (hx.1 0 (11, 0) rfl) hc (by decide) rfl ?_
    refine V.aload_n dX11_stands_32 rfl ?_
    refine V.getr fl_X11_62 dX11_stands_33 (hx.1 0 (11, 0) rfl) (hx.2.1 0 12 101 rfl) (by decide) rfl ?_
    refine V.iload_n dX11_stands_36 rfl ?_
    obtain ⟨⟨u11, I12⟩, hk10, hf⟩ := bnd_some hf
    try dsimp only at hf
    refine V.inv cv_X11_277 (c_ni_minutesUp hx hs_c (hx.2.2.1 101 rfl) hk10) dX11_stands_37 (hx.1 108 (5, 0) rfl) (by decide) rfl rfl rfl (Nat.le_of_ble_eq_true rfl) (by decide) (by decide) (Nat.le_refl _) (Nat.le_refl _) (fun _ _ hq => ?_)
    obtain ⟨rfl, rfl⟩ := hq
    try dsimp only
    obtain rfl := Option.some.inj hf
    exact V.iret dX11_stands_40 rfl (Nat.le_refl _) (Nat.le_refl _) ⟨rfl, rfl⟩
  · rw [if_neg c5] at hf
    refine V.iload_n dX11_stands_11 rfl ?_
    obtain rfl := Option.some.inj hf
    exact V.iret dX11_stands_12 rfl (Nat.le_refl _) (Nat.le_refl _) ⟨rfl, rfl⟩
theorem dX11_place_0 : decode cX11_place 0 = .ok (.aload_n 0, 1) := by decide +kernel
theorem dX11_place_1 : decode cX11_place 1 = .ok (.iload_n 1, 1) := by decide +kernel
theorem dX11_place_2 : decode cX11_place 2 = .ok (.iload_n 2, 1) := by decide +kernel
theorem dX11_place_3 : decode cX11_place 3 = .ok (.invokevirtual 281, 3) := by decide +kernel
theorem dX11_place_6 : decode cX11_place 6 = .ok (.istore_n 3, 1) := by decide +kernel
theorem dX11_place_7 : decode cX11_place 7 = .ok (.iload_n 3, 1) := by decide +kernel
theorem dX11_place_8 : decode cX11_place 8 = .ok (.ifCond .eq 5, 3) := by decide +kernel
theorem dX11_place_11 : decode cX11_place 11 = .ok (.iload_n 3, 1) := by decide +kernel
theorem dX11_place_12 : decode cX11_place 12 = .ok (.ireturn, 1) := by decide +kernel
theorem dX11_place_13 : decode cX11_place 13 = .ok (.aload_n 0, 1) := by decide +kernel
theorem dX11_place_14 : decode cX11_place 14 = .ok (.getfield 62, 3) := by decide +kernel
theorem dX11_place_17 : decode cX11_place 17 = .ok (.aload_n 0, 1) := by decide +kernel
theorem dX11_place_18 : decode cX11_place 18 = .ok (.getfield 30, 3) := by decide +kernel
theorem dX11_place_21 : decode cX11_place 21 = .ok (.invokevirtual 174, 3) := by decide +kernel
theorem dX11_place_24 : decode cX11_place 24 = .ok (.aload_n 0, 1) := by decide +kernel
theorem dX11_place_25 : decode cX11_place 25 = .ok (.getfield 68, 3) := by decide +kernel
theorem dX11_place_28 : decode cX11_place 28 = .ok (.aload_n 0, 1) := by decide +kernel
theorem dX11_place_29 : decode cX11_place 29 = .ok (.getfield 23, 3) := by decide +kernel
theorem dX11_place_32 : decode cX11_place 32 = .ok (.aload_n 0, 1) := by decide +kernel
theorem dX11_place_33 : decode cX11_place 33 = .ok (.getfield 62, 3) := by decide +kernel
theorem dX11_place_36 : decode cX11_place 36 = .ok (.invokevirtual 284, 3) := by decide +kernel
theorem dX11_place_39 : decode cX11_place 39 = .ok (.aload_n 0, 1) := by decide +kernel
theorem dX11_place_40 : decode cX11_place 40 = .ok (.getfield 62, 3) := by decide +kernel
theorem dX11_place_43 : decode cX11_place 43 = .ok (.iload_n 2, 1) := by decide +kernel
theorem dX11_place_44 : decode cX11_place 44 = .ok (.invokevirtual 145, 3) := by decide +kernel
theorem dX11_place_47 : decode cX11_place 47 = .ok (.ireturn, 1) := by decide +kernel
def x_place (F : Nat) (T : Nat → Option (Nat × Nat)) (I : Nat → Nat → Int32) (J : Nat → Nat → Int64) (P : Nat → Nat → Option Nat) (x : Nat) (c : Nat) (v1 : Int32) (v2 : Int32) : Option (Int32 × (Nat → Nat → Int32)) := (x_readNight F I J x c v1 v2).bind (fun q1 => let u3 := q1.1; let I4 := q1.2; if u3 = 0 then ((s_copyFrom I4 (x + 101) (x + 12)).bind (fun q6 => let I8 := q6; (ni_playThrough F T I8 P x c (x + 101)).bind (fun q9 => let I11 := q9; (s_placeOf F I11 (x + 101) v2).bind (fun q12 => let u14 := q12; some (u14, I11))))) else (some (u3, I4)))
theorem c_x_place {l : Launch} {D : va_G} {E : Nat → ClassId} {B : Nat → Prop} {n F : Nat} {T : Nat → Option (Nat × Nat)} {I : Nat → Nat → Int32} {J : Nat → Nat → Int64} {P : Nat → Nat → Option Nat} {x : Nat} {c : Nat} {v1 : Int32} {v2 : Int32} {r : Int32 × (Nat → Nat → Int32)} (hx : isSR T P x) (hs_c : isCt T P c) (hc : P x 3 = some c) (hf : x_place F T I J P x c v1 v2 = some r) : Ct l D E B yX11_place cX11_place 4 (some .int) 5 0 0 [.ref x, .int v1, .int v2] (n, T, I, J, P) (Ret (some (.int r.1)) (n, T, r.2, J, P)) := by
  unfold x_place at hf
  refine Ct.ofV (by decide) (Nat.le_of_ble_eq_true rfl) ?_
  refine V.aload_n dX11_place_0 rfl ?_
  refine V.iload_n dX11_place_1 rfl ?_
  refine V.iload_n dX11_place_2 rfl ?_
  obtain ⟨⟨u3, I4⟩, hk2, hf⟩ := bnd_some hf
  try dsimp only at hf
  refine V.inv cv_X11_281 (c_x_readNight hx hs_c hc hk2) dX11_place_3 (hx.1 0 (11, 0) rfl) (by decide) rfl rfl rfl (Nat.le_of_ble_eq_true rfl) (by decide) (by decide) (Nat.le_refl _) (Nat.le_refl _) (fun _ _ hq => ?_)
  obtain ⟨rfl, rfl⟩ := hq
  try dsimp only
  refine V.istore_n dX11_place_6 rfl (by decide) (by first | exact rfl | exact trivial) ?_
  refine V.iload_n dX11_place_7 rfl ?_
  refine V.if_eq 13 dX11_place_8 (by decide) (fun c5 => ?_) (fun c5 => ?_)
  · rw [if_pos c5] at hf
    refine V.aload_n dX11_place_13 rfl ?_
    refine V.getr fl_X11_62 dX11_place_14 (hx.1 0 (11, 0) rfl) (hx.2.1 0 12 101 rfl) (by decide) rfl ?_
    refine V.aload_n dX11_place_17 rfl ?_
    refine V.getr fl_X11_30 dX11_place_18 (hx.1 0 (11, 0) rfl) (hx.2.1 0 4 12 rfl) (by decide) rfl ?_
    obtain ⟨I8, hk7, hf⟩ := bnd_some hf
    try dsimp only at hf
    refine V.inv cv_X11_174 (c_s_copyFrom (hx.2.2.1 101 rfl) (hx.2.2.1 12 rfl) hk7) dX11_place_21 ((hx.2.2.1 101 rfl).1 0 (8, 0) rfl) (by decide) rfl rfl rfl (Nat.le_of_ble_eq_true rfl) (by decide) (by decide) (Nat.le_refl _) (Nat.le_refl _) (fun _ _ hq => ?_)
    obtain ⟨rfl, rfl⟩ := hq
    refine V.aload_n dX11_place_24 rfl ?_
    refine V.getr fl_X11_68 dX11_place_25 (hx.1 0 (11, 0) rfl) (hx.2.1 0 13 108 rfl) (by decide) rfl ?_
    refine V.aload_n dX11_place_28 rfl ?_
    refine V.getr fl_X11_23 dX11_place_29 (hx.1 0 (11, 0) rfl) hc (by decide) rfl ?_
    refine V.aload_n dX11_place_32 rfl ?_
    refine V.getr fl_X11_62 dX11_place_33 (hx.1 0 (11, 0) rfl) (hx.2.1 0 12 101 rfl) (by decide) rfl ?_
    obtain ⟨I11, hk10, hf⟩ := bnd_some hf
    try dsimp only at hf
    refine V.inv cv_X11_284 (c_ni_playThrough hx hs_c (hx.2.2.1 101 rfl) hk10) dX11_place_36 (hx.1 108 (5, 0) rfl) (by decide) rfl rfl rfl (Nat.le_of_ble_eq_true rfl) (by decide) (by decide) (Nat.le_refl _) (Nat.le_refl _) (fun _ _ hq => ?_)
    obtain ⟨rfl, rfl⟩ := hq
    refine V.aload_n dX11_place_39 rfl ?_
    refine V.getr fl_X11_62 dX11_place_40 (hx.1 0 (11, 0) rfl) (hx.2.1 0 12 101 rfl) (by decide) rfl ?_
    refine V.iload_n dX11_place_43 rfl ?_
    obtain ⟨u14, hk13, hf⟩ := bnd_some hf
    try dsimp only at hf
    refine V.inv cv_X11_145 (c_s_placeOf (hx.2.2.1 101 rfl) hk13) dX11_place_44 ((hx.2.2.1 101 rfl).1 0 (8, 0) rfl) (by decide) rfl rfl rfl (Nat.le_of_ble_eq_true rfl) (by decide) (by decide) (Nat.le_refl _) (Nat.le_refl _) (fun _ _ hq => ?_)
    obtain ⟨rfl, rfl⟩ := hq
    obtain rfl := Option.some.inj hf
    exact V.iret dX11_place_47 rfl (Nat.le_refl _) (Nat.le_refl _) ⟨rfl, rfl⟩
  · rw [if_neg c5] at hf
    refine V.iload_n dX11_place_11 rfl ?_
    obtain rfl := Option.some.inj hf
    exact V.iret dX11_place_12 rfl (Nat.le_refl _) (Nat.le_refl _) ⟨rfl, rfl⟩
theorem dX11_breakfast_0 : decode cX11_breakfast 0 = .ok (.aload_n 0, 1) := by decide +kernel
theorem dX11_breakfast_1 : decode cX11_breakfast 1 = .ok (.iload_n 1, 1) := by decide +kernel
theorem dX11_breakfast_2 : decode cX11_breakfast 2 = .ok (.invokevirtual 211, 3) := by decide +kernel
theorem dX11_breakfast_5 : decode cX11_breakfast 5 = .ok (.ifCond .eq 8, 3) := by decide +kernel
theorem dX11_breakfast_8 : decode cX11_breakfast 8 = .ok (.bipush (-2), 2) := by decide +kernel
theorem dX11_breakfast_10 : decode cX11_breakfast 10 = .ok (.goto 8, 3) := by decide +kernel
theorem dX11_breakfast_13 : decode cX11_breakfast 13 = .ok (.aload_n 0, 1) := by decide +kernel
theorem dX11_breakfast_14 : decode cX11_breakfast 14 = .ok (.iload_n 1, 1) := by decide +kernel
theorem dX11_breakfast_15 : decode cX11_breakfast 15 = .ok (.invokevirtual 288, 3) := by decide +kernel
theorem dX11_breakfast_18 : decode cX11_breakfast 18 = .ok (.istore_n 2, 1) := by decide +kernel
theorem dX11_breakfast_19 : decode cX11_breakfast 19 = .ok (.iload_n 2, 1) := by decide +kernel
theorem dX11_breakfast_20 : decode cX11_breakfast 20 = .ok (.ifCond .eq 5, 3) := by decide +kernel
theorem dX11_breakfast_23 : decode cX11_breakfast 23 = .ok (.iload_n 2, 1) := by decide +kernel
theorem dX11_breakfast_24 : decode cX11_breakfast 24 = .ok (.ireturn, 1) := by decide +kernel
theorem dX11_breakfast_25 : decode cX11_breakfast 25 = .ok (.aload_n 0, 1) := by decide +kernel
theorem dX11_breakfast_26 : decode cX11_breakfast 26 = .ok (.getfield 62, 3) := by decide +kernel
theorem dX11_breakfast_29 : decode cX11_breakfast 29 = .ok (.aload_n 0, 1) := by decide +kernel
theorem dX11_breakfast_30 : decode cX11_breakfast 30 = .ok (.getfield 30, 3) := by decide +kernel
theorem dX11_breakfast_33 : decode cX11_breakfast 33 = .ok (.invokevirtual 174, 3) := by decide +kernel
theorem dX11_breakfast_36 : decode cX11_breakfast 36 = .ok (.aload_n 0, 1) := by decide +kernel
theorem dX11_breakfast_37 : decode cX11_breakfast 37 = .ok (.getfield 68, 3) := by decide +kernel
theorem dX11_breakfast_40 : decode cX11_breakfast 40 = .ok (.aload_n 0, 1) := by decide +kernel
theorem dX11_breakfast_41 : decode cX11_breakfast 41 = .ok (.getfield 23, 3) := by decide +kernel
theorem dX11_breakfast_44 : decode cX11_breakfast 44 = .ok (.aload_n 0, 1) := by decide +kernel
theorem dX11_breakfast_45 : decode cX11_breakfast 45 = .ok (.getfield 62, 3) := by decide +kernel
theorem dX11_breakfast_48 : decode cX11_breakfast 48 = .ok (.invokevirtual 284, 3) := by decide +kernel
theorem dX11_breakfast_51 : decode cX11_breakfast 51 = .ok (.aload_n 0, 1) := by decide +kernel
theorem dX11_breakfast_52 : decode cX11_breakfast 52 = .ok (.getfield 62, 3) := by decide +kernel
theorem dX11_breakfast_55 : decode cX11_breakfast 55 = .ok (.getfield 233, 3) := by decide +kernel
theorem dX11_breakfast_58 : decode cX11_breakfast 58 = .ok (.ireturn, 1) := by decide +kernel
def x_breakfast (F : Nat) (T : Nat → Option (Nat × Nat)) (I : Nat → Nat → Int32) (J : Nat → Nat → Int64) (P : Nat → Nat → Option Nat) (x : Nat) (c : Nat) (v1 : Int32) : Option (Int32 × (Nat → Nat → Int32)) := if (x_noTray x v1) = 0 then ((x_readTunes F I J x c v1).bind (fun q2 => let u4 := q2.1; let I5 := q2.2; if u4 = 0 then ((s_copyFrom I5 (x + 101) (x + 12)).bind (fun q7 => let I9 := q7; (ni_playThrough F T I9 P x c (x + 101)).bind (fun q10 => let I12 := q10; some ((I12 (x + 101) 1), I12)))) else (some (u4, I5)))) else (some ((-2), I))
theorem c_x_breakfast {l : Launch} {D : va_G} {E : Nat → ClassId} {B : Nat → Prop} {n F : Nat} {T : Nat → Option (Nat × Nat)} {I : Nat → Nat → Int32} {J : Nat → Nat → Int64} {P : Nat → Nat → Option Nat} {x : Nat} {c : Nat} {v1 : Int32} {r : Int32 × (Nat → Nat → Int32)} (hx : isSR T P x) (hs_c : isCt T P c) (hc : P x 3 = some c) (hf : x_breakfast F T I J P x c v1 = some r) : Ct l D E B yX11_breakfast cX11_breakfast 3 (some .int) 5 0 0 [.ref x, .int v1] (n, T, I, J, P) (Ret (some (.int r.1)) (n, T, r.2, J, P)) := by
  unfold x_breakfast at hf
  refine Ct.ofV (by decide) (Nat.le_of_ble_eq_true rfl) ?_
  refine V.aload_n dX11_breakfast_0 rfl ?_
  refine V.iload_n dX11_breakfast_1 rfl ?_
  refine V.inv cv_X11_211 (c_x_noTray hx) dX11_breakfast_2 (hx.1 0 (11, 0) rfl) (by decide) rfl rfl rfl (Nat.le_of_ble_eq_true rfl) (by decide) (by decide) (Nat.le_refl _) (Nat.le_refl _) (fun _ _ hq => ?_)
  obtain ⟨rfl, rfl⟩ := hq
  refine V.if_eq 13 dX11_breakfast_5 (by decide) (fun c1 => ?_) (fun c1 => ?_)
  · rw [if_pos c1] at hf
    refine V.aload_n dX11_breakfast_13 rfl ?_
    refine V.iload_n dX11_breakfast_14 rfl ?_
    obtain ⟨⟨u4, I5⟩, hk3, hf⟩ := bnd_some hf
    try dsimp only at hf
    refine V.inv cv_X11_288 (c_x_readTunes hx hs_c hc hk3) dX11_breakfast_15 (hx.1 0 (11, 0) rfl) (by decide) rfl rfl rfl (Nat.le_of_ble_eq_true rfl) (by decide) (by decide) (Nat.le_refl _) (Nat.le_refl _) (fun _ _ hq => ?_)
    obtain ⟨rfl, rfl⟩ := hq
    try dsimp only
    refine V.istore_n dX11_breakfast_18 rfl (by decide) (by first | exact rfl | exact trivial) ?_
    refine V.iload_n dX11_breakfast_19 rfl ?_
    refine V.if_eq 25 dX11_breakfast_20 (by decide) (fun c6 => ?_) (fun c6 => ?_)
    · rw [if_pos c6] at hf
      refine V.aload_n dX11_breakfast_25 rfl ?_
      refine V.getr fl_X11_62 dX11_breakfast_26 (hx.1 0 (11, 0) rfl) (hx.2.1 0 12 101 rfl) (by decide) rfl ?_
      refine V.aload_n dX11_breakfast_29 rfl ?_
      refine V.getr fl_X11_30 dX11_breakfast_30 (hx.1 0 (11, 0) rfl) (hx.2.1 0 4 12 rfl) (by decide) rfl ?_
      obtain ⟨I9, hk8, hf⟩ := bnd_some hf
      try dsimp only at hf
      refine V.inv cv_X11_174 (c_s_copyFrom (hx.2.2.1 101 rfl) (hx.2.2.1 12 rfl) hk8) dX11_breakfast_33 ((hx.2.2.1 101 rfl).1 0 (8, 0) rfl) (by decide) rfl rfl rfl (Nat.le_of_ble_eq_true rfl) (by decide) (by decide) (Nat.le_refl _) (Nat.le_refl _) (fun _ _ hq => ?_)
      obtain ⟨rfl, rfl⟩ := hq
      refine V.aload_n dX11_breakfast_36 rfl ?_
      refine V.getr fl_X11_68 dX11_breakfast_37 (hx.1 0 (11, 0) rfl) (hx.2.1 0 13 108 rfl) (by decide) rfl ?_
      refine V.aload_n dX11_breakfast_40 rfl ?_
      refine V.getr fl_X11_23 dX11_breakfast_41 (hx.1 0 (11, 0) rfl) hc (by decide) rfl ?_
      refine V.aload_n dX11_breakfast_44 rfl ?_
      refine V.getr fl_X11_62 dX11_breakfast_45 (hx.1 0 (11, 0) rfl) (hx.2.1 0 12 101 rfl) (by decide) rfl ?_
      obtain ⟨I12, hk11, hf⟩ := bnd_some hf
      try dsimp only at hf
      refine V.inv cv_X11_284 (c_ni_playThrough hx hs_c (hx.2.2.1 101 rfl) hk11) dX11_breakfast_48 (hx.1 108 (5, 0) rfl) (by decide) rfl rfl rfl (Nat.le_of_ble_eq_true rfl) (by decide) (by decide) (Nat.le_refl _) (Nat.le_refl _) (fun _ _ hq => ?_)
      obtain ⟨rfl, rfl⟩ := hq
      refine V.aload_n dX11_breakfast_51 rfl ?_
      refine V.getr fl_X11_62 dX11_breakfast_52 (hx.1 0 (11, 0) rfl) (hx.2.1 0 12 101 rfl) (by decide) rfl ?_
      refine V.getf fl_X11_233 dX11_breakfast_55 ((hx.2.2.1 101 rfl).1 0 (8, 0) rfl) (by decide) rfl ?_
      obtain rfl := Option.some.inj hf
      exact V.iret dX11_breakfast_58 rfl (Nat.le_refl _) (Nat.le_refl _) ⟨rfl, rfl⟩
    · rw [if_neg c6] at hf
      refine V.iload_n dX11_breakfast_23 rfl ?_
      obtain rfl := Option.some.inj hf
      exact V.iret dX11_breakfast_24 rfl (Nat.le_refl _) (Nat.le_refl _) ⟨rfl, rfl⟩
  · rw [if_neg c1] at hf
    refine V.bipush (v := -2) dX11_breakfast_8 (by decide) ?_
    refine V.goto 18 dX11_breakfast_10 (by decide) ?_
    refine V.istore_n dX11_breakfast_18 rfl (by decide) (by first | exact rfl | exact trivial) ?_
    refine V.iload_n dX11_breakfast_19 rfl ?_
    refine V.if_eq 25 dX11_breakfast_20 (by decide) (fun c13 => absurd c13 (by decide)) (fun c13 => ?_)
    refine V.iload_n dX11_breakfast_23 rfl ?_
    obtain rfl := Option.some.inj hf
    exact V.iret dX11_breakfast_24 rfl (Nat.le_refl _) (Nat.le_refl _) ⟨rfl, rfl⟩
theorem dX11_worthOfSitting_0 : decode cX11_worthOfSitting 0 = .ok (.aload_n 0, 1) := by decide +kernel
theorem dX11_worthOfSitting_1 : decode cX11_worthOfSitting 1 = .ok (.getfield 62, 3) := by decide +kernel
theorem dX11_worthOfSitting_4 : decode cX11_worthOfSitting 4 = .ok (.aload_n 0, 1) := by decide +kernel
theorem dX11_worthOfSitting_5 : decode cX11_worthOfSitting 5 = .ok (.getfield 30, 3) := by decide +kernel
theorem dX11_worthOfSitting_8 : decode cX11_worthOfSitting 8 = .ok (.invokevirtual 174, 3) := by decide +kernel
theorem dX11_worthOfSitting_11 : decode cX11_worthOfSitting 11 = .ok (.iconst 0, 1) := by decide +kernel
theorem dX11_worthOfSitting_12 : decode cX11_worthOfSitting 12 = .ok (.istore_n 3, 1) := by decide +kernel
theorem dX11_worthOfSitting_13 : decode cX11_worthOfSitting 13 = .ok (.iload_n 3, 1) := by decide +kernel
theorem dX11_worthOfSitting_14 : decode cX11_worthOfSitting 14 = .ok (.aload_n 0, 1) := by decide +kernel
theorem dX11_worthOfSitting_15 : decode cX11_worthOfSitting 15 = .ok (.getfield 68, 3) := by decide +kernel
theorem dX11_worthOfSitting_18 : decode cX11_worthOfSitting 18 = .ok (.getfield 295, 3) := by decide +kernel
theorem dX11_worthOfSitting_21 : decode cX11_worthOfSitting 21 = .ok (.if_icmp .gt 65, 3) := by decide +kernel
theorem dX11_worthOfSitting_24 : decode cX11_worthOfSitting 24 = .ok (.iload_n 3, 1) := by decide +kernel
theorem dX11_worthOfSitting_25 : decode cX11_worthOfSitting 25 = .ok (.iload_n 2, 1) := by decide +kernel
theorem dX11_worthOfSitting_26 : decode cX11_worthOfSitting 26 = .ok (.if_icmp .ne 22, 3) := by decide +kernel
theorem dX11_worthOfSitting_29 : decode cX11_worthOfSitting 29 = .ok (.aload_n 0, 1) := by decide +kernel
theorem dX11_worthOfSitting_30 : decode cX11_worthOfSitting 30 = .ok (.getfield 62, 3) := by decide +kernel
theorem dX11_worthOfSitting_33 : decode cX11_worthOfSitting 33 = .ok (.iload_n 1, 1) := by decide +kernel
theorem dX11_worthOfSitting_34 : decode cX11_worthOfSitting 34 = .ok (.invokevirtual 139, 3) := by decide +kernel
theorem dX11_worthOfSitting_37 : decode cX11_worthOfSitting 37 = .ok (.ifCond .eq 11, 3) := by decide +kernel
theorem dX11_worthOfSitting_40 : decode cX11_worthOfSitting 40 = .ok (.aload_n 0, 1) := by decide +kernel
theorem dX11_worthOfSitting_41 : decode cX11_worthOfSitting 41 = .ok (.getfield 62, 3) := by decide +kernel
theorem dX11_worthOfSitting_44 : decode cX11_worthOfSitting 44 = .ok (.iload_n 1, 1) := by decide +kernel
theorem dX11_worthOfSitting_45 : decode cX11_worthOfSitting 45 = .ok (.invokevirtual 261, 3) := by decide +kernel
theorem dX11_worthOfSitting_48 : decode cX11_worthOfSitting 48 = .ok (.iload_n 3, 1) := by decide +kernel
theorem dX11_worthOfSitting_49 : decode cX11_worthOfSitting 49 = .ok (.aload_n 0, 1) := by decide +kernel
theorem dX11_worthOfSitting_50 : decode cX11_worthOfSitting 50 = .ok (.getfield 68, 3) := by decide +kernel
theorem dX11_worthOfSitting_53 : decode cX11_worthOfSitting 53 = .ok (.getfield 295, 3) := by decide +kernel
theorem dX11_worthOfSitting_56 : decode cX11_worthOfSitting 56 = .ok (.if_icmp .ge 24, 3) := by decide +kernel
theorem dX11_worthOfSitting_59 : decode cX11_worthOfSitting 59 = .ok (.aload_n 0, 1) := by decide +kernel
theorem dX11_worthOfSitting_60 : decode cX11_worthOfSitting 60 = .ok (.getfield 62, 3) := by decide +kernel
theorem dX11_worthOfSitting_63 : decode cX11_worthOfSitting 63 = .ok (.aload_n 0, 1) := by decide +kernel
theorem dX11_worthOfSitting_64 : decode cX11_worthOfSitting 64 = .ok (.getfield 23, 3) := by decide +kernel
theorem dX11_worthOfSitting_67 : decode cX11_worthOfSitting 67 = .ok (.aload_n 0, 1) := by decide +kernel
theorem dX11_worthOfSitting_68 : decode cX11_worthOfSitting 68 = .ok (.getfield 68, 3) := by decide +kernel
theorem dX11_worthOfSitting_71 : decode cX11_worthOfSitting 71 = .ok (.getfield 298, 3) := by decide +kernel
theorem dX11_worthOfSitting_74 : decode cX11_worthOfSitting 74 = .ok (.iload_n 3, 1) := by decide +kernel
theorem dX11_worthOfSitting_75 : decode cX11_worthOfSitting 75 = .ok (.iaload, 1) := by decide +kernel
theorem dX11_worthOfSitting_76 : decode cX11_worthOfSitting 76 = .ok (.iconst 1, 1) := by decide +kernel
theorem dX11_worthOfSitting_77 : decode cX11_worthOfSitting 77 = .ok (.invokevirtual 257, 3) := by decide +kernel
theorem dX11_worthOfSitting_80 : decode cX11_worthOfSitting 80 = .ok (.iinc 3 1, 3) := by decide +kernel
theorem dX11_worthOfSitting_83 : decode cX11_worthOfSitting 83 = .ok (.goto (-70), 3) := by decide +kernel
theorem dX11_worthOfSitting_86 : decode cX11_worthOfSitting 86 = .ok (.aload_n 0, 1) := by decide +kernel
theorem dX11_worthOfSitting_87 : decode cX11_worthOfSitting 87 = .ok (.getfield 23, 3) := by decide +kernel
theorem dX11_worthOfSitting_90 : decode cX11_worthOfSitting 90 = .ok (.getfield 162, 3) := by decide +kernel
theorem dX11_worthOfSitting_93 : decode cX11_worthOfSitting 93 = .ok (.aload_n 0, 1) := by decide +kernel
theorem dX11_worthOfSitting_94 : decode cX11_worthOfSitting 94 = .ok (.getfield 62, 3) := by decide +kernel
theorem dX11_worthOfSitting_97 : decode cX11_worthOfSitting 97 = .ok (.iload_n 1, 1) := by decide +kernel
theorem dX11_worthOfSitting_98 : decode cX11_worthOfSitting 98 = .ok (.invokevirtual 145, 3) := by decide +kernel
theorem dX11_worthOfSitting_101 : decode cX11_worthOfSitting 101 = .ok (.iaload, 1) := by decide +kernel
theorem dX11_worthOfSitting_102 : decode cX11_worthOfSitting 102 = .ok (.aload_n 0, 1) := by decide +kernel
theorem dX11_worthOfSitting_103 : decode cX11_worthOfSitting 103 = .ok (.getfield 62, 3) := by decide +kernel
theorem dX11_worthOfSitting_106 : decode cX11_worthOfSitting 106 = .ok (.getfield 149, 3) := by decide +kernel
theorem dX11_worthOfSitting_109 : decode cX11_worthOfSitting 109 = .ok (.iload_n 1, 1) := by decide +kernel
theorem dX11_worthOfSitting_110 : decode cX11_worthOfSitting 110 = .ok (.iaload, 1) := by decide +kernel
theorem dX11_worthOfSitting_111 : decode cX11_worthOfSitting 111 = .ok (.isub, 1) := by decide +kernel
theorem dX11_worthOfSitting_112 : decode cX11_worthOfSitting 112 = .ok (.ireturn, 1) := by decide +kernel
def x_worthOfSitting_13 (F : Nat) (T : Nat → Option (Nat × Nat)) (P : Nat → Nat → Option Nat) (x : Nat) (c : Nat) (g1 : Int32) (g2 : Int32) : Nat → Int32 → (Nat → Nat → Int32) → Option (Int32 × (Nat → Nat → Int32))
  | 0, _, _ => none
  | k + 1, l3, I => if (I (x + 108) 1) < l3 then (some (l3, I)) else (if l3 = g2 then (if (s_isUp I (x + 101) g1) = 0 then (if (I (x + 108) 1) ≤ l3 then (x_worthOfSitting_13 F T P x c g1 g2 k (l3 + 1) I) else (chk l3 30 ((s_playMinute F T I P (x + 101) c (I (x + 109) (Int32.toNatClampNeg l3)) 1).bind (fun q14 => let I16 := q14; x_worthOfSitting_13 F T P x c g1 g2 k (l3 + 1) I16)))) else ((s_seat I (x + 101) g1).bind (fun q17 => let I19 := q17; if (I19 (x + 108) 1) ≤ l3 then (x_worthOfSitting_13 F T P x c g1 g2 k (l3 + 1) I19) else (chk l3 30 ((s_playMinute F T I19 P (x + 101) c (I19 (x + 109) (Int32.toNatClampNeg l3)) 1).bind (fun q22 => let I24 := q22; x_worthOfSitting_13 F T P x c g1 g2 k (l3 + 1) I24)))))) else (if (I (x + 108) 1) ≤ l3 then (x_worthOfSitting_13 F T P x c g1 g2 k (l3 + 1) I) else (chk l3 30 ((s_playMinute F T I P (x + 101) c (I (x + 109) (Int32.toNatClampNeg l3)) 1).bind (fun q8 => let I10 := q8; x_worthOfSitting_13 F T P x c g1 g2 k (l3 + 1) I10)))))
def x_worthOfSitting (F : Nat) (T : Nat → Option (Nat × Nat)) (I : Nat → Nat → Int32) (P : Nat → Nat → Option Nat) (x : Nat) (c : Nat) (v1 : Int32) (v2 : Int32) : Option (Int32 × (Nat → Nat → Int32)) := (s_copyFrom I (x + 101) (x + 12)).bind (fun q1 => let I3 := q1; (x_worthOfSitting_13 F T P x c v1 v2 F 0 I3).bind (fun q25 => let m27 := q25.1; let I28 := q25.2; (s_placeOf F I28 (x + 101) v1).bind (fun q29 => let u31 := q29; chk u31 6 (chk v1 6 (some (((I28 (c + 4) (Int32.toNatClampNeg u31)) - (I28 ((x + 101) + 2) (Int32.toNatClampNeg v1))), I28))))))
theorem l_x_worthOfSitting_13 {l : Launch} {D : va_G} {E : Nat → ClassId} {B : Nat → Prop} {n F : Nat} {Q : Option Value → HT → Prop} {T : Nat → Option (Nat × Nat)} {J : Nat → Nat → Int64} {P : Nat → Nat → Option Nat} {x : Nat} {c : Nat} {g1 : Int32} {g2 : Int32} (hx : isSR T P x) (hs_c : isCt T P c) (hc : P x 3 = some c)  (r : Int32 × (Nat → Nat → Int32)) : ∀ (k : Nat) (l3 : Int32) (I : (Nat → Nat → Int32)), x_worthOfSitting_13 F T P x c g1 g2 k l3 I = some r → V l D E B yX11_worthOfSitting cX11_worthOfSitting 4 (some .int) 4 0 0 Q 0 0 (n, T, r.2, J, P) 86 [(0, some (.ref x)), (1, some (.int g1)), (2, some (.int g2)), (3, some (.int (r.1)))] [] → V l D E B yX11_worthOfSitting cX11_worthOfSitting 4 (some .int) 4 0 0 Q 0 0 (n, T, I, J, P) 13 [(0, some (.ref x)), (1, some (.int g1)), (2, some (.int g2)), (3, some (.int l3))] [] := by
  intro k
  induction k with
  | zero =>
    intro l3 I hf hk
    cases hf
  | succ k ih =>
    intro l3 I hf hk
    unfold x_worthOfSitting_13 at hf
    refine V.iload_n dX11_worthOfSitting_13 rfl ?_
    refine V.aload_n dX11_worthOfSitting_14 rfl ?_
    refine V.getr fl_X11_68 dX11_worthOfSitting_15 (hx.1 0 (11, 0) rfl) (hx.2.1 0 13 108 rfl) (by decide) rfl ?_
    refine V.getf fl_X11_295 dX11_worthOfSitting_18 (hx.1 108 (5, 0) rfl) (by decide) rfl ?_
    refine V.icmp_gt 86 dX11_worthOfSitting_21 (by decide) (fun c4 => ?_) (fun c4 => ?_)
    · rw [if_pos c4] at hf
      obtain rfl := Option.some.inj hf
      exact V.lo [(0, some (.ref x)), (1, some (.int g1)), (2, some (.int g2)), (3, some (.int l3))] (by simp only [Subs]; repeat' first | exact trivial | constructor | rfl) hk
    · rw [if_neg c4] at hf
      refine V.iload_n dX11_worthOfSitting_24 rfl ?_
      refine V.iload_n dX11_worthOfSitting_25 rfl ?_
      refine V.icmp_ne 48 dX11_worthOfSitting_26 (by decide) (fun c5 => ?_) (fun c5 => ?_)
      · rw [if_neg c5] at hf
        refine V.iload_n dX11_worthOfSitting_48 rfl ?_
        refine V.aload_n dX11_worthOfSitting_49 rfl ?_
        refine V.getr fl_X11_68 dX11_worthOfSitting_50 (hx.1 0 (11, 0) rfl) (hx.2.1 0 13 108 rfl) (by decide) rfl ?_
        refine V.getf fl_X11_295 dX11_worthOfSitting_53 (hx.1 108 (5, 0) rfl) (by decide) rfl ?_
        refine V.icmp_ge 80 dX11_worthOfSitting_56 (by decide) (fun c6 => ?_) (fun c6 => ?_)
        · rw [if_pos c6] at hf
          refine V.iinc (v := (l3 + 1)) dX11_worthOfSitting_80 rfl rfl (by first | exact rfl | exact trivial) ?_
          refine V.goto 13 dX11_worthOfSitting_83 (by decide) ?_
          exact V.lo [(0, some (.ref x)), (1, some (.int g1)), (2, some (.int g2)), (3, some (.int (l3 + 1)))] (by simp only [Subs]; repeat' first | exact trivial | constructor | rfl) (ih _ _ hf hk)
        · rw [if_neg c6] at hf
          refine V.aload_n dX11_worthOfSitting_59 rfl ?_
          refine V.getr fl_X11_62 dX11_worthOfSitting_60 (hx.1 0 (11, 0) rfl) (hx.2.1 0 12 101 rfl) (by decide) rfl ?_
          refine V.aload_n dX11_worthOfSitting_63 rfl ?_
          refine V.getr fl_X11_23 dX11_worthOfSitting_64 (hx.1 0 (11, 0) rfl) hc (by decide) rfl ?_
          refine V.aload_n dX11_worthOfSitting_67 rfl ?_
          refine V.getr fl_X11_68 dX11_worthOfSitting_68 (hx.1 0 (11, 0) rfl) (hx.2.1 0 13 108 rfl) (by decide) rfl ?_
          refine V.getr fl_X11_298 dX11_worthOfSitting_71 (hx.1 108 (5, 0) rfl) (hx.2.1 108 0 109 rfl) (by decide) rfl ?_
          refine V.iload_n dX11_worthOfSitting_74 rfl ?_
          obtain ⟨hb7, hf⟩ := chk_some hf
          refine V.iald dX11_worthOfSitting_75 (hx.1 109 (20, 30) rfl) hb7 ?_
          refine V.iconst (v := 1) dX11_worthOfSitting_76 (by decide) ?_
          obtain ⟨I10, hk9, hf⟩ := bnd_some hf
          try dsimp only at hf
          refine V.inv cv_X11_257 (c_s_playMinute (hx.2.2.1 101 rfl) hs_c hk9) dX11_worthOfSitting_77 ((hx.2.2.1 101 rfl).1 0 (8, 0) rfl) (by decide) rfl rfl rfl (Nat.le_of_ble_eq_true rfl) (by decide) (by decide) (Nat.le_refl _) (Nat.le_refl _) (fun _ _ hq => ?_)
          obtain ⟨rfl, rfl⟩ := hq
          refine V.iinc (v := (l3 + 1)) dX11_worthOfSitting_80 rfl rfl (by first | exact rfl | exact trivial) ?_
          refine V.goto 13 dX11_worthOfSitting_83 (by decide) ?_
          exact V.lo [(0, some (.ref x)), (1, some (.int g1)), (2, some (.int g2)), (3, some (.int (l3 + 1)))] (by simp only [Subs]; repeat' first | exact trivial | constructor | rfl) (ih _ _ hf hk)
      · rw [if_pos c5] at hf
        refine V.aload_n dX11_worthOfSitting_29 rfl ?_
        refine V.getr fl_X11_62 dX11_worthOfSitting_30 (hx.1 0 (11, 0) rfl) (hx.2.1 0 12 101 rfl) (by decide) rfl ?_
        refine V.iload_n dX11_worthOfSitting_33 rfl ?_
        refine V.inv cv_X11_139 (c_s_isUp (hx.2.2.1 101 rfl)) dX11_worthOfSitting_34 ((hx.2.2.1 101 rfl).1 0 (8, 0) rfl) (by decide) rfl rfl rfl (Nat.le_of_ble_eq_true rfl) (by decide) (by decide) (Nat.le_refl _) (Nat.le_refl _) (fun _ _ hq => ?_)
        obtain ⟨rfl, rfl⟩ := hq
        refine V.if_eq 48 dX11_worthOfSitting_37 (by decide) (fun c11 => ?_) (fun c11 => ?_)
        · rw [if_pos c11] at hf
          refine V.iload_n dX11_worthOfSitting_48 rfl ?_
          refine V.aload_n dX11_worthOfSitting_49 rfl ?_
          refine V.getr fl_X11_68 dX11_worthOfSitting_50 (hx.1 0 (11, 0) rfl) (hx.2.1 0 13 108 rfl) (by decide) rfl ?_
          refine V.getf fl_X11_295 dX11_worthOfSitting_53 (hx.1 108 (5, 0) rfl) (by decide) rfl ?_
          refine V.icmp_ge 80 dX11_worthOfSitting_56 (by decide) (fun c12 => ?_) (fun c12 => ?_)
          · rw [if_pos c12] at hf
            refine V.iinc (v := (l3 + 1)) dX11_worthOfSitting_80 rfl rfl (by first | exact rfl | exact trivial) ?_
            refine V.goto 13 dX11_worthOfSitting_83 (by decide) ?_
            exact V.lo [(0, some (.ref x)), (1, some (.int g1)), (2, some (.int g2)), (3, some (.int (l3 + 1)))] (by simp only [Subs]; repeat' first | exact trivial | constructor | rfl) (ih _ _ hf hk)
          · rw [if_neg c12] at hf
            refine V.aload_n dX11_worthOfSitting_59 rfl ?_
            refine V.getr fl_X11_62 dX11_worthOfSitting_60 (hx.1 0 (11, 0) rfl) (hx.2.1 0 12 101 rfl) (by decide) rfl ?_
            refine V.aload_n dX11_worthOfSitting_63 rfl ?_
            refine V.getr fl_X11_23 dX11_worthOfSitting_64 (hx.1 0 (11, 0) rfl) hc (by decide) rfl ?_
            refine V.aload_n dX11_worthOfSitting_67 rfl ?_
            refine V.getr fl_X11_68 dX11_worthOfSitting_68 (hx.1 0 (11, 0) rfl) (hx.2.1 0 13 108 rfl) (by decide) rfl ?_
            refine V.getr fl_X11_298 dX11_worthOfSitting_71 (hx.1 108 (5, 0) rfl) (hx.2.1 108 0 109 rfl) (by decide) rfl ?_
            refine V.iload_n dX11_worthOfSitting_74 rfl ?_
            obtain ⟨hb13, hf⟩ := chk_some hf
            refine V.iald dX11_worthOfSitting_75 (hx.1 109 (20, 30) rfl) hb13 ?_
            refine V.iconst (v := 1) dX11_worthOfSitting_76 (by decide) ?_
            obtain ⟨I16, hk15, hf⟩ := bnd_some hf
            try dsimp only at hf
            refine V.inv cv_X11_257 (c_s_playMinute (hx.2.2.1 101 rfl) hs_c hk15) dX11_worthOfSitting_77 ((hx.2.2.1 101 rfl).1 0 (8, 0) rfl) (by decide) rfl rfl rfl (Nat.le_of_ble_eq_true rfl) (by decide) (by decide) (Nat.le_refl _) (Nat.le_refl _) (fun _ _ hq => ?_)
            obtain ⟨rfl, rfl⟩ := hq
            refine V.iinc (v := (l3 + 1)) dX11_worthOfSitting_80 rfl rfl (by first | exact rfl | exact trivial) ?_
            refine V.goto 13 dX11_worthOfSitting_83 (by decide) ?_
            exact V.lo [(0, some (.ref x)), (1, some (.int g1)), (2, some (.int g2)), (3, some (.int (l3 + 1)))] (by simp only [Subs]; repeat' first | exact trivial | constructor | rfl) (ih _ _ hf hk)
        · rw [if_neg c11] at hf
          refine V.aload_n dX11_worthOfSitting_40 rfl ?_
          refine V.getr fl_X11_62 dX11_worthOfSitting_41 (hx.1 0 (11, 0) rfl) (hx.2.1 0 12 101 rfl) (by decide) rfl ?_
          refine V.iload_n dX11_worthOfSitting_44 rfl ?_
          obtain ⟨I19, hk18, hf⟩ := bnd_some hf
          try dsimp only at hf
          refine V.inv cv_X11_261 (c_s_seat (hx.2.2.1 101 rfl) hk18) dX11_worthOfSitting_45 ((hx.2.2.1 101 rfl).1 0 (8, 0) rfl) (by decide) rfl rfl rfl (Nat.le_of_ble_eq_true rfl) (by decide) (by decide) (Nat.le_refl _) (Nat.le_refl _) (fun _ _ hq => ?_)
          obtain ⟨rfl, rfl⟩ := hq
          refine V.iload_n dX11_worthOfSitting_48 rfl ?_
          refine V.aload_n dX11_worthOfSitting_49 rfl ?_
          refine V.getr fl_X11_68 dX11_worthOfSitting_50 (hx.1 0 (11, 0) rfl) (hx.2.1 0 13 108 rfl) (by decide) rfl ?_
          refine V.getf fl_X11_295 dX11_worthOfSitting_53 (hx.1 108 (5, 0) rfl) (by decide) rfl ?_
          refine V.icmp_ge 80 dX11_worthOfSitting_56 (by decide) (fun c20 => ?_) (fun c20 => ?_)
          · rw [if_pos c20] at hf
            refine V.iinc (v := (l3 + 1)) dX11_worthOfSitting_80 rfl rfl (by first | exact rfl | exact trivial) ?_
            refine V.goto 13 dX11_worthOfSitting_83 (by decide) ?_
            exact V.lo [(0, some (.ref x)), (1, some (.int g1)), (2, some (.int g2)), (3, some (.int (l3 + 1)))] (by simp only [Subs]; repeat' first | exact trivial | constructor | rfl) (ih _ _ hf hk)
          · rw [if_neg c20] at hf
            refine V.aload_n dX11_worthOfSitting_59 rfl ?_
            refine V.getr fl_X11_62 dX11_worthOfSitting_60 (hx.1 0 (11, 0) rfl) (hx.2.1 0 12 101 rfl) (by decide) rfl ?_
            refine V.aload_n dX11_worthOfSitting_63 rfl ?_
            refine V.getr fl_X11_23 dX11_worthOfSitting_64 (hx.1 0 (11, 0) rfl) hc (by decide) rfl ?_
            refine V.aload_n dX11_worthOfSitting_67 rfl ?_
            refine V.getr fl_X11_68 dX11_worthOfSitting_68 (hx.1 0 (11, 0) rfl) (hx.2.1 0 13 108 rfl) (by decide) rfl ?_
            refine V.getr fl_X11_298 dX11_worthOfSitting_71 (hx.1 108 (5, 0) rfl) (hx.2.1 108 0 109 rfl) (by decide) rfl ?_
            refine V.iload_n dX11_worthOfSitting_74 rfl ?_
            obtain ⟨hb21, hf⟩ := chk_some hf
            refine V.iald dX11_worthOfSitting_75 (hx.1 109 (20, 30) rfl) hb21 ?_
            refine V.iconst (v := 1) dX11_worthOfSitting_76 (by decide) ?_
            obtain ⟨I24, hk23, hf⟩ := bnd_some hf
            try dsimp only at hf
            refine V.inv cv_X11_257 (c_s_playMinute (hx.2.2.1 101 rfl) hs_c hk23) dX11_worthOfSitting_77 ((hx.2.2.1 101 rfl).1 0 (8, 0) rfl) (by decide) rfl rfl rfl (Nat.le_of_ble_eq_true rfl) (by decide) (by decide) (Nat.le_refl _) (Nat.le_refl _) (fun _ _ hq => ?_)
            obtain ⟨rfl, rfl⟩ := hq
            refine V.iinc (v := (l3 + 1)) dX11_worthOfSitting_80 rfl rfl (by first | exact rfl | exact trivial) ?_
            refine V.goto 13 dX11_worthOfSitting_83 (by decide) ?_
            exact V.lo [(0, some (.ref x)), (1, some (.int g1)), (2, some (.int g2)), (3, some (.int (l3 + 1)))] (by simp only [Subs]; repeat' first | exact trivial | constructor | rfl) (ih _ _ hf hk)
theorem c_x_worthOfSitting {l : Launch} {D : va_G} {E : Nat → ClassId} {B : Nat → Prop} {n F : Nat} {T : Nat → Option (Nat × Nat)} {I : Nat → Nat → Int32} {J : Nat → Nat → Int64} {P : Nat → Nat → Option Nat} {x : Nat} {c : Nat} {v1 : Int32} {v2 : Int32} {r : Int32 × (Nat → Nat → Int32)} (hx : isSR T P x) (hs_c : isCt T P c) (hc : P x 3 = some c) (hf : x_worthOfSitting F T I P x c v1 v2 = some r) : Ct l D E B yX11_worthOfSitting cX11_worthOfSitting 4 (some .int) 4 0 0 [.ref x, .int v1, .int v2] (n, T, I, J, P) (Ret (some (.int r.1)) (n, T, r.2, J, P)) := by
  unfold x_worthOfSitting at hf
  refine Ct.ofV (by decide) (Nat.le_of_ble_eq_true rfl) ?_
  refine V.aload_n dX11_worthOfSitting_0 rfl ?_
  refine V.getr fl_X11_62 dX11_worthOfSitting_1 (hx.1 0 (11, 0) rfl) (hx.2.1 0 12 101 rfl) (by decide) rfl ?_
  refine V.aload_n dX11_worthOfSitting_4 rfl ?_
  refine V.getr fl_X11_30 dX11_worthOfSitting_5 (hx.1 0 (11, 0) rfl) (hx.2.1 0 4 12 rfl) (by decide) rfl ?_
  obtain ⟨I3, hk2, hf⟩ := bnd_some hf
  try dsimp only at hf
  refine V.inv cv_X11_174 (c_s_copyFrom (hx.2.2.1 101 rfl) (hx.2.2.1 12 rfl) hk2) dX11_worthOfSitting_8 ((hx.2.2.1 101 rfl).1 0 (8, 0) rfl) (by decide) rfl rfl rfl (Nat.le_of_ble_eq_true rfl) (by decide) (by decide) (Nat.le_refl _) (Nat.le_refl _) (fun _ _ hq => ?_)
  obtain ⟨rfl, rfl⟩ := hq
  refine V.iconst (v := 0) dX11_worthOfSitting_11 (by decide) ?_
  refine V.istore_n dX11_worthOfSitting_12 rfl (by decide) (by first | exact rfl | exact trivial) ?_
  obtain ⟨⟨m27, I28⟩, hk26, hf⟩ := bnd_some hf
  try dsimp only at hf
  refine V.lo [(0, some (.ref x)), (1, some (.int v1)), (2, some (.int v2)), (3, some (.int 0))] (by simp only [Subs]; repeat' first | exact trivial | constructor | rfl) (l_x_worthOfSitting_13 hx hs_c hc _ F _ _ hk26 ?_)
  try dsimp only
  refine V.aload_n dX11_worthOfSitting_86 rfl ?_
  refine V.getr fl_X11_23 dX11_worthOfSitting_87 (hx.1 0 (11, 0) rfl) hc (by decide) rfl ?_
  refine V.getr fl_X11_162 dX11_worthOfSitting_90 (hs_c.1.1 0 (1, 0) rfl) (hs_c.1.2 0 7 4 rfl) (by decide) rfl ?_
  refine V.aload_n dX11_worthOfSitting_93 rfl ?_
  refine V.getr fl_X11_62 dX11_worthOfSitting_94 (hx.1 0 (11, 0) rfl) (hx.2.1 0 12 101 rfl) (by decide) rfl ?_
  refine V.iload_n dX11_worthOfSitting_97 rfl ?_
  obtain ⟨u31, hk30, hf⟩ := bnd_some hf
  try dsimp only at hf
  refine V.inv cv_X11_145 (c_s_placeOf (hx.2.2.1 101 rfl) hk30) dX11_worthOfSitting_98 ((hx.2.2.1 101 rfl).1 0 (8, 0) rfl) (by decide) rfl rfl rfl (Nat.le_of_ble_eq_true rfl) (by decide) (by decide) (Nat.le_refl _) (Nat.le_refl _) (fun _ _ hq => ?_)
  obtain ⟨rfl, rfl⟩ := hq
  obtain ⟨hb32, hf⟩ := chk_some hf
  refine V.iald dX11_worthOfSitting_101 (hs_c.1.1 4 (20, 6) rfl) hb32 ?_
  refine V.aload_n dX11_worthOfSitting_102 rfl ?_
  refine V.getr fl_X11_62 dX11_worthOfSitting_103 (hx.1 0 (11, 0) rfl) (hx.2.1 0 12 101 rfl) (by decide) rfl ?_
  refine V.getr fl_X11_149 dX11_worthOfSitting_106 ((hx.2.2.1 101 rfl).1 0 (8, 0) rfl) ((hx.2.2.1 101 rfl).2 0 5 2 rfl) (by decide) rfl ?_
  refine V.iload_n dX11_worthOfSitting_109 rfl ?_
  obtain ⟨hb33, hf⟩ := chk_some hf
  refine V.iald dX11_worthOfSitting_110 ((hx.2.2.1 101 rfl).1 2 (20, 6) rfl) hb33 ?_
  refine V.isub dX11_worthOfSitting_111 ?_
  obtain rfl := Option.some.inj hf
  exact V.iret dX11_worthOfSitting_112 rfl (Nat.le_refl _) (Nat.le_refl _) ⟨rfl, rfl⟩
theorem dX11_worth_0 : decode cX11_worth 0 = .ok (.aload_n 0, 1) := by decide +kernel
theorem dX11_worth_1 : decode cX11_worth 1 = .ok (.iload_n 1, 1) := by decide +kernel
theorem dX11_worth_2 : decode cX11_worth 2 = .ok (.iload_n 2, 1) := by decide +kernel
theorem dX11_worth_3 : decode cX11_worth 3 = .ok (.invokevirtual 281, 3) := by decide +kernel
theorem dX11_worth_6 : decode cX11_worth 6 = .ok (.istore_n 3, 1) := by decide +kernel
theorem dX11_worth_7 : decode cX11_worth 7 = .ok (.iload_n 3, 1) := by decide +kernel
theorem dX11_worth_8 : decode cX11_worth 8 = .ok (.ifCond .eq 9, 3) := by decide +kernel
theorem dX11_worth_11 : decode cX11_worth 11 = .ok (.ldc_w 291, 3) := by decide +kernel
theorem dX11_worth_14 : decode cX11_worth 14 = .ok (.iload_n 3, 1) := by decide +kernel
theorem dX11_worth_15 : decode cX11_worth 15 = .ok (.iadd, 1) := by decide +kernel
theorem dX11_worth_16 : decode cX11_worth 16 = .ok (.ireturn, 1) := by decide +kernel
theorem dX11_worth_17 : decode cX11_worth 17 = .ok (.aload_n 0, 1) := by decide +kernel
theorem dX11_worth_18 : decode cX11_worth 18 = .ok (.iload_n 2, 1) := by decide +kernel
theorem dX11_worth_19 : decode cX11_worth 19 = .ok (.iconst (-1), 1) := by decide +kernel
theorem dX11_worth_20 : decode cX11_worth 20 = .ok (.invokevirtual 292, 3) := by decide +kernel
theorem dX11_worth_23 : decode cX11_worth 23 = .ok (.ireturn, 1) := by decide +kernel
def x_worth (F : Nat) (T : Nat → Option (Nat × Nat)) (I : Nat → Nat → Int32) (J : Nat → Nat → Int64) (P : Nat → Nat → Option Nat) (x : Nat) (c : Nat) (v1 : Int32) (v2 : Int32) : Option (Int32 × (Nat → Nat → Int32)) := (x_readNight F I J x c v1 v2).bind (fun q1 => let u3 := q1.1; let I4 := q1.2; if u3 = 0 then ((x_worthOfSitting F T I4 P x c v2 (-1)).bind (fun q6 => let u8 := q6.1; let I9 := q6.2; some (u8, I9))) else (some (((-99000000) + u3), I4)))
theorem c_x_worth {l : Launch} {D : va_G} {E : Nat → ClassId} {B : Nat → Prop} {n F : Nat} {T : Nat → Option (Nat × Nat)} {I : Nat → Nat → Int32} {J : Nat → Nat → Int64} {P : Nat → Nat → Option Nat} {x : Nat} {c : Nat} {v1 : Int32} {v2 : Int32} {r : Int32 × (Nat → Nat → Int32)} (hx : isSR T P x) (hs_c : isCt T P c) (hc : P x 3 = some c) (hf : x_worth F T I J P x c v1 v2 = some r) : Ct l D E B yX11_worth cX11_worth 4 (some .int) 5 0 0 [.ref x, .int v1, .int v2] (n, T, I, J, P) (Ret (some (.int r.1)) (n, T, r.2, J, P)) := by
  unfold x_worth at hf
  refine Ct.ofV (by decide) (Nat.le_of_ble_eq_true rfl) ?_
  refine V.aload_n dX11_worth_0 rfl ?_
  refine V.iload_n dX11_worth_1 rfl ?_
  refine V.iload_n dX11_worth_2 rfl ?_
  obtain ⟨⟨u3, I4⟩, hk2, hf⟩ := bnd_some hf
  try dsimp only at hf
  refine V.inv cv_X11_281 (c_x_readNight hx hs_c hc hk2) dX11_worth_3 (hx.1 0 (11, 0) rfl) (by decide) rfl rfl rfl (Nat.le_of_ble_eq_true rfl) (by decide) (by decide) (Nat.le_refl _) (Nat.le_refl _) (fun _ _ hq => ?_)
  obtain ⟨rfl, rfl⟩ := hq
  try dsimp only
  refine V.istore_n dX11_worth_6 rfl (by decide) (by first | exact rfl | exact trivial) ?_
  refine V.iload_n dX11_worth_7 rfl ?_
  refine V.if_eq 17 dX11_worth_8 (by decide) (fun c5 => ?_) (fun c5 => ?_)
  · rw [if_pos c5] at hf
    refine V.aload_n dX11_worth_17 rfl ?_
    refine V.iload_n dX11_worth_18 rfl ?_
    refine V.iconst (v := -1) dX11_worth_19 (by decide) ?_
    obtain ⟨⟨u8, I9⟩, hk7, hf⟩ := bnd_some hf
    try dsimp only at hf
    refine V.inv cv_X11_292 (c_x_worthOfSitting hx hs_c hc hk7) dX11_worth_20 (hx.1 0 (11, 0) rfl) (by decide) rfl rfl rfl (Nat.le_of_ble_eq_true rfl) (by decide) (by decide) (Nat.le_refl _) (Nat.le_refl _) (fun _ _ hq => ?_)
    obtain ⟨rfl, rfl⟩ := hq
    try dsimp only
    obtain rfl := Option.some.inj hf
    exact V.iret dX11_worth_23 rfl (Nat.le_refl _) (Nat.le_refl _) ⟨rfl, rfl⟩
  · rw [if_neg c5] at hf
    refine V.ldcw dX11_worth_11 kc_X11_291 ?_
    refine V.iload_n dX11_worth_14 rfl ?_
    refine V.iadd dX11_worth_15 ?_
    obtain rfl := Option.some.inj hf
    exact V.iret dX11_worth_16 rfl (Nat.le_refl _) (Nat.le_refl _) ⟨rfl, rfl⟩
theorem dX11_bestSit_0 : decode cX11_bestSit 0 = .ok (.aload_n 0, 1) := by decide +kernel
theorem dX11_bestSit_1 : decode cX11_bestSit 1 = .ok (.iload_n 1, 1) := by decide +kernel
theorem dX11_bestSit_2 : decode cX11_bestSit 2 = .ok (.iload_n 2, 1) := by decide +kernel
theorem dX11_bestSit_3 : decode cX11_bestSit 3 = .ok (.invokevirtual 274, 3) := by decide +kernel
theorem dX11_bestSit_6 : decode cX11_bestSit 6 = .ok (.istore_n 3, 1) := by decide +kernel
theorem dX11_bestSit_7 : decode cX11_bestSit 7 = .ok (.iload_n 3, 1) := by decide +kernel
theorem dX11_bestSit_8 : decode cX11_bestSit 8 = .ok (.ifCond .eq 9, 3) := by decide +kernel
theorem dX11_bestSit_11 : decode cX11_bestSit 11 = .ok (.ldc_w 291, 3) := by decide +kernel
theorem dX11_bestSit_14 : decode cX11_bestSit 14 = .ok (.iload_n 3, 1) := by decide +kernel
theorem dX11_bestSit_15 : decode cX11_bestSit 15 = .ok (.iadd, 1) := by decide +kernel
theorem dX11_bestSit_16 : decode cX11_bestSit 16 = .ok (.ireturn, 1) := by decide +kernel
theorem dX11_bestSit_17 : decode cX11_bestSit 17 = .ok (.iconst 0, 1) := by decide +kernel
theorem dX11_bestSit_18 : decode cX11_bestSit 18 = .ok (.istore 4, 2) := by decide +kernel
theorem dX11_bestSit_20 : decode cX11_bestSit 20 = .ok (.aload_n 0, 1) := by decide +kernel
theorem dX11_bestSit_21 : decode cX11_bestSit 21 = .ok (.iload_n 2, 1) := by decide +kernel
theorem dX11_bestSit_22 : decode cX11_bestSit 22 = .ok (.iconst 0, 1) := by decide +kernel
theorem dX11_bestSit_23 : decode cX11_bestSit 23 = .ok (.invokevirtual 292, 3) := by decide +kernel
theorem dX11_bestSit_26 : decode cX11_bestSit 26 = .ok (.istore 5, 2) := by decide +kernel
theorem dX11_bestSit_28 : decode cX11_bestSit 28 = .ok (.iconst 1, 1) := by decide +kernel
theorem dX11_bestSit_29 : decode cX11_bestSit 29 = .ok (.istore 6, 2) := by decide +kernel
theorem dX11_bestSit_31 : decode cX11_bestSit 31 = .ok (.iload 6, 2) := by decide +kernel
theorem dX11_bestSit_33 : decode cX11_bestSit 33 = .ok (.aload_n 0, 1) := by decide +kernel
theorem dX11_bestSit_34 : decode cX11_bestSit 34 = .ok (.getfield 68, 3) := by decide +kernel
theorem dX11_bestSit_37 : decode cX11_bestSit 37 = .ok (.getfield 295, 3) := by decide +kernel
theorem dX11_bestSit_40 : decode cX11_bestSit 40 = .ok (.if_icmp .gt 33, 3) := by decide +kernel
theorem dX11_bestSit_43 : decode cX11_bestSit 43 = .ok (.aload_n 0, 1) := by decide +kernel
theorem dX11_bestSit_44 : decode cX11_bestSit 44 = .ok (.iload_n 2, 1) := by decide +kernel
theorem dX11_bestSit_45 : decode cX11_bestSit 45 = .ok (.iload 6, 2) := by decide +kernel
theorem dX11_bestSit_47 : decode cX11_bestSit 47 = .ok (.invokevirtual 292, 3) := by decide +kernel
theorem dX11_bestSit_50 : decode cX11_bestSit 50 = .ok (.istore 7, 2) := by decide +kernel
theorem dX11_bestSit_52 : decode cX11_bestSit 52 = .ok (.iload 7, 2) := by decide +kernel
theorem dX11_bestSit_54 : decode cX11_bestSit 54 = .ok (.iload 5, 2) := by decide +kernel
theorem dX11_bestSit_56 : decode cX11_bestSit 56 = .ok (.if_icmp .le 11, 3) := by decide +kernel
theorem dX11_bestSit_59 : decode cX11_bestSit 59 = .ok (.iload 7, 2) := by decide +kernel
theorem dX11_bestSit_61 : decode cX11_bestSit 61 = .ok (.istore 5, 2) := by decide +kernel
theorem dX11_bestSit_63 : decode cX11_bestSit 63 = .ok (.iload 6, 2) := by decide +kernel
theorem dX11_bestSit_65 : decode cX11_bestSit 65 = .ok (.istore 4, 2) := by decide +kernel
theorem dX11_bestSit_67 : decode cX11_bestSit 67 = .ok (.iinc 6 1, 3) := by decide +kernel
theorem dX11_bestSit_70 : decode cX11_bestSit 70 = .ok (.goto (-39), 3) := by decide +kernel
theorem dX11_bestSit_73 : decode cX11_bestSit 73 = .ok (.iload 4, 2) := by decide +kernel
theorem dX11_bestSit_75 : decode cX11_bestSit 75 = .ok (.ireturn, 1) := by decide +kernel
def x_bestSit_31 (F : Nat) (T : Nat → Option (Nat × Nat)) (P : Nat → Nat → Option Nat) (x : Nat) (c : Nat) (g1 : Int32) (g2 : Int32) (g3 : Int32) : Nat → Int32 → Int32 → Int32 → (Nat → Nat → Int32) → Option (Int32 × Int32 × Int32 × (Nat → Nat → Int32))
  | 0, _, _, _, _ => none
  | k + 1, l4, l5, l6, I => if (I (x + 108) 1) < l6 then (some (l4, l5, l6, I)) else ((x_worthOfSitting F T I P x c g2 l6).bind (fun q11 => let u13 := q11.1; let I14 := q11.2; if u13 ≤ l5 then (x_bestSit_31 F T P x c g1 g2 g3 k l4 l5 (l6 + 1) I14) else (x_bestSit_31 F T P x c g1 g2 g3 k l6 u13 (l6 + 1) I14)))
def x_bestSit (F : Nat) (T : Nat → Option (Nat × Nat)) (I : Nat → Nat → Int32) (J : Nat → Nat → Int64) (P : Nat → Nat → Option Nat) (x : Nat) (c : Nat) (v1 : Int32) (v2 : Int32) : Option (Int32 × (Nat → Nat → Int32)) := (x_readNightOfOneUp F I J x c v1 v2).bind (fun q1 => let u3 := q1.1; let I4 := q1.2; if u3 = 0 then ((x_worthOfSitting F T I4 P x c v2 0).bind (fun q6 => let u8 := q6.1; let I9 := q6.2; (x_bestSit_31 F T P x c v1 v2 u3 F 0 u8 1 I9).bind (fun q16 => let m18 := q16.1; let m19 := q16.2.1; let m20 := q16.2.2.1; let I21 := q16.2.2.2; some (m18, I21)))) else (some (((-99000000) + u3), I4)))
theorem l_x_bestSit_31 {l : Launch} {D : va_G} {E : Nat → ClassId} {B : Nat → Prop} {n F : Nat} {Q : Option Value → HT → Prop} {T : Nat → Option (Nat × Nat)} {J : Nat → Nat → Int64} {P : Nat → Nat → Option Nat} {x : Nat} {c : Nat} {g1 : Int32} {g2 : Int32} {g3 : Int32} (hx : isSR T P x) (hs_c : isCt T P c) (hc : P x 3 = some c)  (r : Int32 × Int32 × Int32 × (Nat → Nat → Int32)) : ∀ (k : Nat) (l4 : Int32) (l5 : Int32) (l6 : Int32) (I : (Nat → Nat → Int32)), x_bestSit_31 F T P x c g1 g2 g3 k l4 l5 l6 I = some r → V l D E B yX11_bestSit cX11_bestSit 8 (some .int) 5 0 0 Q 0 0 (n, T, r.2.2.2, J, P) 73 [(0, some (.ref x)), (1, some (.int g1)), (2, some (.int g2)), (3, some (.int g3)), (4, some (.int (r.1))), (5, some (.int (r.2.1))), (6, some (.int (r.2.2.1)))] [] → V l D E B yX11_bestSit cX11_bestSit 8 (some .int) 5 0 0 Q 0 0 (n, T, I, J, P) 31 [(0, some (.ref x)), (1, some (.int g1)), (2, some (.int g2)), (3, some (.int g3)), (4, some (.int l4)), (5, some (.int l5)), (6, some (.int l6))] [] := by
  intro k
  induction k with
  | zero =>
    intro l4 l5 l6 I hf hk
    cases hf
  | succ k ih =>
    intro l4 l5 l6 I hf hk
    unfold x_bestSit_31 at hf
    refine V.iload dX11_bestSit_31 rfl ?_
    refine V.aload_n dX11_bestSit_33 rfl ?_
    refine V.getr fl_X11_68 dX11_bestSit_34 (hx.1 0 (11, 0) rfl) (hx.2.1 0 13 108 rfl) (by decide) rfl ?_
    refine V.getf fl_X11_295 dX11_bestSit_37 (hx.1 108 (5, 0) rfl) (by decide) rfl ?_
    refine V.icmp_gt 73 dX11_bestSit_40 (by decide) (fun c10 => ?_) (fun c10 => ?_)
    · rw [if_pos c10] at hf
      obtain rfl := Option.some.inj hf
      exact V.lo [(0, some (.ref x)), (1, some (.int g1)), (2, some (.int g2)), (3, some (.int g3)), (4, some (.int l4)), (5, some (.int l5)), (6, some (.int l6))] (by simp only [Subs]; repeat' first | exact trivial | constructor | rfl) hk
    · rw [if_neg c10] at hf
      refine V.aload_n dX11_bestSit_43 rfl ?_
      refine V.iload_n dX11_bestSit_44 rfl ?_
      refine V.iload dX11_bestSit_45 rfl ?_
      obtain ⟨⟨u13, I14⟩, hk12, hf⟩ := bnd_some hf
      try dsimp only at hf
      refine V.inv cv_X11_292 (c_x_worthOfSitting hx hs_c hc hk12) dX11_bestSit_47 (hx.1 0 (11, 0) rfl) (by decide) rfl rfl rfl (Nat.le_of_ble_eq_true rfl) (by decide) (by decide) (Nat.le_refl _) (Nat.le_refl _) (fun _ _ hq => ?_)
      obtain ⟨rfl, rfl⟩ := hq
      try dsimp only
      refine V.istore dX11_bestSit_50 (by decide) (by first | exact rfl | exact trivial) ?_
      refine V.iload dX11_bestSit_52 rfl ?_
      refine V.iload dX11_bestSit_54 rfl ?_
      refine V.icmp_le 67 dX11_bestSit_56 (by decide) (fun c15 => ?_) (fun c15 => ?_)
      · rw [if_pos c15] at hf
        refine V.iinc (v := (l6 + 1)) dX11_bestSit_67 rfl rfl (by first | exact rfl | exact trivial) ?_
        refine V.goto 31 dX11_bestSit_70 (by decide) ?_
        exact V.lo [(0, some (.ref x)), (1, some (.int g1)), (2, some (.int g2)), (3, some (.int g3)), (4, some (.int l4)), (5, some (.int l5)), (6, some (.int (l6 + 1)))] (by simp only [Subs]; repeat' first | exact trivial | constructor | rfl) (ih _ _ _ _ hf hk)
      · rw [if_neg c15] at hf
        refine V.iload dX11_bestSit_59 rfl ?_
        refine V.istore dX11_bestSit_61 (by decide) (by first | exact rfl | exact trivial) ?_
        refine V.iload dX11_bestSit_63 rfl ?_
        refine V.istore dX11_bestSit_65 (by decide) (by first | exact rfl | exact trivial) ?_
        refine V.iinc (v := (l6 + 1)) dX11_bestSit_67 rfl rfl (by first | exact rfl | exact trivial) ?_
        refine V.goto 31 dX11_bestSit_70 (by decide) ?_
        exact V.lo [(0, some (.ref x)), (1, some (.int g1)), (2, some (.int g2)), (3, some (.int g3)), (4, some (.int l6)), (5, some (.int u13)), (6, some (.int (l6 + 1)))] (by simp only [Subs]; repeat' first | exact trivial | constructor | rfl) (ih _ _ _ _ hf hk)
theorem c_x_bestSit {l : Launch} {D : va_G} {E : Nat → ClassId} {B : Nat → Prop} {n F : Nat} {T : Nat → Option (Nat × Nat)} {I : Nat → Nat → Int32} {J : Nat → Nat → Int64} {P : Nat → Nat → Option Nat} {x : Nat} {c : Nat} {v1 : Int32} {v2 : Int32} {r : Int32 × (Nat → Nat → Int32)} (hx : isSR T P x) (hs_c : isCt T P c) (hc : P x 3 = some c) (hf : x_bestSit F T I J P x c v1 v2 = some r) : Ct l D E B yX11_bestSit cX11_bestSit 8 (some .int) 5 0 0 [.ref x, .int v1, .int v2] (n, T, I, J, P) (Ret (some (.int r.1)) (n, T, r.2, J, P)) := by
  unfold x_bestSit at hf
  refine Ct.ofV (by decide) (Nat.le_of_ble_eq_true rfl) ?_
  refine V.aload_n dX11_bestSit_0 rfl ?_
  refine V.iload_n dX11_bestSit_1 rfl ?_
  refine V.iload_n dX11_bestSit_2 rfl ?_
  obtain ⟨⟨u3, I4⟩, hk2, hf⟩ := bnd_some hf
  try dsimp only at hf
  refine V.inv cv_X11_274 (c_x_readNightOfOneUp hx hs_c hc hk2) dX11_bestSit_3 (hx.1 0 (11, 0) rfl) (by decide) rfl rfl rfl (Nat.le_of_ble_eq_true rfl) (by decide) (by decide) (Nat.le_refl _) (Nat.le_refl _) (fun _ _ hq => ?_)
  obtain ⟨rfl, rfl⟩ := hq
  try dsimp only
  refine V.istore_n dX11_bestSit_6 rfl (by decide) (by first | exact rfl | exact trivial) ?_
  refine V.iload_n dX11_bestSit_7 rfl ?_
  refine V.if_eq 17 dX11_bestSit_8 (by decide) (fun c5 => ?_) (fun c5 => ?_)
  · rw [if_pos c5] at hf
    refine V.iconst (v := 0) dX11_bestSit_17 (by decide) ?_
    refine V.istore dX11_bestSit_18 (by decide) (by first | exact rfl | exact trivial) ?_
    refine V.aload_n dX11_bestSit_20 rfl ?_
    refine V.iload_n dX11_bestSit_21 rfl ?_
    refine V.iconst (v := 0) dX11_bestSit_22 (by decide) ?_
    obtain ⟨⟨u8, I9⟩, hk7, hf⟩ := bnd_some hf
    try dsimp only at hf
    refine V.inv cv_X11_292 (c_x_worthOfSitting hx hs_c hc hk7) dX11_bestSit_23 (hx.1 0 (11, 0) rfl) (by decide) rfl rfl rfl (Nat.le_of_ble_eq_true rfl) (by decide) (by decide) (Nat.le_refl _) (Nat.le_refl _) (fun _ _ hq => ?_)
    obtain ⟨rfl, rfl⟩ := hq
    try dsimp only
    refine V.istore dX11_bestSit_26 (by decide) (by first | exact rfl | exact trivial) ?_
    refine V.iconst (v := 1) dX11_bestSit_28 (by decide) ?_
    refine V.istore dX11_bestSit_29 (by decide) (by first | exact rfl | exact trivial) ?_
    obtain ⟨⟨m18, m19, m20, I21⟩, hk17, hf⟩ := bnd_some hf
    try dsimp only at hf
    refine V.lo [(0, some (.ref x)), (1, some (.int v1)), (2, some (.int v2)), (3, some (.int u3)), (4, some (.int 0)), (5, some (.int u8)), (6, some (.int 1))] (by simp only [Subs]; repeat' first | exact trivial | constructor | rfl) (l_x_bestSit_31 hx hs_c hc _ F _ _ _ _ hk17 ?_)
    try dsimp only
    refine V.iload dX11_bestSit_73 rfl ?_
    obtain rfl := Option.some.inj hf
    exact V.iret dX11_bestSit_75 rfl (Nat.le_refl _) (Nat.le_refl _) ⟨rfl, rfl⟩
  · rw [if_neg c5] at hf
    refine V.ldcw dX11_bestSit_11 kc_X11_291 ?_
    refine V.iload_n dX11_bestSit_14 rfl ?_
    refine V.iadd dX11_bestSit_15 ?_
    obtain rfl := Option.some.inj hf
    exact V.iret dX11_bestSit_16 rfl (Nat.le_refl _) (Nat.le_refl _) ⟨rfl, rfl⟩
theorem dX11_codeOfOneUp_0 : decode cX11_codeOfOneUp 0 = .ok (.aload_n 0, 1) := by decide +kernel
theorem dX11_codeOfOneUp_1 : decode cX11_codeOfOneUp 1 = .ok (.iload_n 1, 1) := by decide +kernel
theorem dX11_codeOfOneUp_2 : decode cX11_codeOfOneUp 2 = .ok (.invokevirtual 127, 3) := by decide +kernel
theorem dX11_codeOfOneUp_5 : decode cX11_codeOfOneUp 5 = .ok (.ifCond .eq 6, 3) := by decide +kernel
theorem dX11_codeOfOneUp_8 : decode cX11_codeOfOneUp 8 = .ok (.bipush (-2), 2) := by decide +kernel
theorem dX11_codeOfOneUp_10 : decode cX11_codeOfOneUp 10 = .ok (.ireturn, 1) := by decide +kernel
theorem dX11_codeOfOneUp_11 : decode cX11_codeOfOneUp 11 = .ok (.aload_n 0, 1) := by decide +kernel
theorem dX11_codeOfOneUp_12 : decode cX11_codeOfOneUp 12 = .ok (.getfield 30, 3) := by decide +kernel
theorem dX11_codeOfOneUp_15 : decode cX11_codeOfOneUp 15 = .ok (.iload_n 1, 1) := by decide +kernel
theorem dX11_codeOfOneUp_16 : decode cX11_codeOfOneUp 16 = .ok (.invokevirtual 139, 3) := by decide +kernel
theorem dX11_codeOfOneUp_19 : decode cX11_codeOfOneUp 19 = .ok (.ifCond .eq 7, 3) := by decide +kernel
theorem dX11_codeOfOneUp_22 : decode cX11_codeOfOneUp 22 = .ok (.iconst 0, 1) := by decide +kernel
theorem dX11_codeOfOneUp_23 : decode cX11_codeOfOneUp 23 = .ok (.goto 5, 3) := by decide +kernel
theorem dX11_codeOfOneUp_26 : decode cX11_codeOfOneUp 26 = .ok (.bipush (-5), 2) := by decide +kernel
theorem dX11_codeOfOneUp_28 : decode cX11_codeOfOneUp 28 = .ok (.ireturn, 1) := by decide +kernel
def x_codeOfOneUp (I : Nat → Nat → Int32) (x : Nat) (c : Nat) (v1 : Int32) : Int32 := if (x_noPerson I x c v1) = 0 then (if (s_isUp I (x + 12) v1) = 0 then ((-5)) else (0)) else ((-2))
theorem c_x_codeOfOneUp {l : Launch} {D : va_G} {E : Nat → ClassId} {B : Nat → Prop} {n : Nat} {T : Nat → Option (Nat × Nat)} {I : Nat → Nat → Int32} {J : Nat → Nat → Int64} {P : Nat → Nat → Option Nat} {x : Nat} {c : Nat} {v1 : Int32} (hx : isSR T P x) (hs_c : isCt T P c) (hc : P x 3 = some c) : Ct l D E B yX11_codeOfOneUp cX11_codeOfOneUp 2 (some .int) 1 0 0 [.ref x, .int v1] (n, T, I, J, P) (Ret (some (.int (x_codeOfOneUp I x c v1))) (n, T, I, J, P)) := by
  obtain ⟨r, hf⟩ : ∃ r, x_codeOfOneUp I x c v1 = r := ⟨_, rfl⟩
  rw [hf]
  unfold x_codeOfOneUp at hf
  refine Ct.ofV (by decide) (Nat.le_of_ble_eq_true rfl) ?_
  refine V.aload_n dX11_codeOfOneUp_0 rfl ?_
  refine V.iload_n dX11_codeOfOneUp_1 rfl ?_
  refine V.inv cv_X11_127 (c_x_noPerson hx hs_c hc) dX11_codeOfOneUp_2 (hx.1 0 (11, 0) rfl) (by decide) rfl rfl rfl (Nat.le_of_ble_eq_true rfl) (by decide) (by decide) (Nat.le_refl _) (Nat.le_refl _) (fun _ _ hq => ?_)
  obtain ⟨rfl, rfl⟩ := hq
  refine V.if_eq 11 dX11_codeOfOneUp_5 (by decide) (fun c1 => ?_) (fun c1 => ?_)
  · rw [if_pos c1] at hf
    refine V.aload_n dX11_codeOfOneUp_11 rfl ?_
    refine V.getr fl_X11_30 dX11_codeOfOneUp_12 (hx.1 0 (11, 0) rfl) (hx.2.1 0 4 12 rfl) (by decide) rfl ?_
    refine V.iload_n dX11_codeOfOneUp_15 rfl ?_
    refine V.inv cv_X11_139 (c_s_isUp (hx.2.2.1 12 rfl)) dX11_codeOfOneUp_16 ((hx.2.2.1 12 rfl).1 0 (8, 0) rfl) (by decide) rfl rfl rfl (Nat.le_of_ble_eq_true rfl) (by decide) (by decide) (Nat.le_refl _) (Nat.le_refl _) (fun _ _ hq => ?_)
    obtain ⟨rfl, rfl⟩ := hq
    refine V.if_eq 26 dX11_codeOfOneUp_19 (by decide) (fun c2 => ?_) (fun c2 => ?_)
    · rw [if_pos c2] at hf
      refine V.bipush (v := -5) dX11_codeOfOneUp_26 (by decide) ?_
      subst hf
      exact V.iret dX11_codeOfOneUp_28 rfl (Nat.le_refl _) (Nat.le_refl _) ⟨rfl, rfl⟩
    · rw [if_neg c2] at hf
      refine V.iconst (v := 0) dX11_codeOfOneUp_22 (by decide) ?_
      refine V.goto 28 dX11_codeOfOneUp_23 (by decide) ?_
      subst hf
      exact V.iret dX11_codeOfOneUp_28 rfl (Nat.le_refl _) (Nat.le_refl _) ⟨rfl, rfl⟩
  · rw [if_neg c1] at hf
    refine V.bipush (v := -2) dX11_codeOfOneUp_8 (by decide) ?_
    subst hf
    exact V.iret dX11_codeOfOneUp_10 rfl (Nat.le_refl _) (Nat.le_refl _) ⟨rfl, rfl⟩
theorem dX11_codeOfOrder_0 : decode cX11_codeOfOrder 0 = .ok (.aload_n 0, 1) := by decide +kernel
theorem dX11_codeOfOrder_1 : decode cX11_codeOfOrder 1 = .ok (.iload_n 1, 1) := by decide +kernel
theorem dX11_codeOfOrder_2 : decode cX11_codeOfOrder 2 = .ok (.invokevirtual 211, 3) := by decide +kernel
theorem dX11_codeOfOrder_5 : decode cX11_codeOfOrder 5 = .ok (.ifCond .eq 6, 3) := by decide +kernel
theorem dX11_codeOfOrder_8 : decode cX11_codeOfOrder 8 = .ok (.bipush (-2), 2) := by decide +kernel
theorem dX11_codeOfOrder_10 : decode cX11_codeOfOrder 10 = .ok (.ireturn, 1) := by decide +kernel
theorem dX11_codeOfOrder_11 : decode cX11_codeOfOrder 11 = .ok (.aload_n 0, 1) := by decide +kernel
theorem dX11_codeOfOrder_12 : decode cX11_codeOfOrder 12 = .ok (.getfield 43, 3) := by decide +kernel
theorem dX11_codeOfOrder_15 : decode cX11_codeOfOrder 15 = .ok (.iload_n 1, 1) := by decide +kernel
theorem dX11_codeOfOrder_16 : decode cX11_codeOfOrder 16 = .ok (.aaload, 1) := by decide +kernel
theorem dX11_codeOfOrder_17 : decode cX11_codeOfOrder 17 = .ok (.astore_n 2, 1) := by decide +kernel
theorem dX11_codeOfOrder_18 : decode cX11_codeOfOrder 18 = .ok (.aload_n 2, 1) := by decide +kernel
theorem dX11_codeOfOrder_19 : decode cX11_codeOfOrder 19 = .ok (.invokevirtual 214, 3) := by decide +kernel
theorem dX11_codeOfOrder_22 : decode cX11_codeOfOrder 22 = .ok (.ifCond .eq 6, 3) := by decide +kernel
theorem dX11_codeOfOrder_25 : decode cX11_codeOfOrder 25 = .ok (.bipush (-6), 2) := by decide +kernel
theorem dX11_codeOfOrder_27 : decode cX11_codeOfOrder 27 = .ok (.ireturn, 1) := by decide +kernel
theorem dX11_codeOfOrder_28 : decode cX11_codeOfOrder 28 = .ok (.aload_n 2, 1) := by decide +kernel
theorem dX11_codeOfOrder_29 : decode cX11_codeOfOrder 29 = .ok (.getfield 222, 3) := by decide +kernel
theorem dX11_codeOfOrder_32 : decode cX11_codeOfOrder 32 = .ok (.iconst 1, 1) := by decide +kernel
theorem dX11_codeOfOrder_33 : decode cX11_codeOfOrder 33 = .ok (.if_icmp .lt 12, 3) := by decide +kernel
theorem dX11_codeOfOrder_36 : decode cX11_codeOfOrder 36 = .ok (.aload_n 2, 1) := by decide +kernel
theorem dX11_codeOfOrder_37 : decode cX11_codeOfOrder 37 = .ok (.getfield 222, 3) := by decide +kernel
theorem dX11_codeOfOrder_40 : decode cX11_codeOfOrder 40 = .ok (.bipush 6, 2) := by decide +kernel
theorem dX11_codeOfOrder_42 : decode cX11_codeOfOrder 42 = .ok (.if_icmp .le 6, 3) := by decide +kernel
theorem dX11_codeOfOrder_45 : decode cX11_codeOfOrder 45 = .ok (.bipush (-4), 2) := by decide +kernel
theorem dX11_codeOfOrder_47 : decode cX11_codeOfOrder 47 = .ok (.ireturn, 1) := by decide +kernel
theorem dX11_codeOfOrder_48 : decode cX11_codeOfOrder 48 = .ok (.iconst 0, 1) := by decide +kernel
theorem dX11_codeOfOrder_49 : decode cX11_codeOfOrder 49 = .ok (.istore_n 3, 1) := by decide +kernel
theorem dX11_codeOfOrder_50 : decode cX11_codeOfOrder 50 = .ok (.iconst 0, 1) := by decide +kernel
theorem dX11_codeOfOrder_51 : decode cX11_codeOfOrder 51 = .ok (.istore 4, 2) := by decide +kernel
theorem dX11_codeOfOrder_53 : decode cX11_codeOfOrder 53 = .ok (.iload 4, 2) := by decide +kernel
theorem dX11_codeOfOrder_55 : decode cX11_codeOfOrder 55 = .ok (.aload_n 2, 1) := by decide +kernel
theorem dX11_codeOfOrder_56 : decode cX11_codeOfOrder 56 = .ok (.getfield 222, 3) := by decide +kernel
theorem dX11_codeOfOrder_59 : decode cX11_codeOfOrder 59 = .ok (.if_icmp .ge 60, 3) := by decide +kernel
theorem dX11_codeOfOrder_62 : decode cX11_codeOfOrder 62 = .ok (.aload_n 2, 1) := by decide +kernel
theorem dX11_codeOfOrder_63 : decode cX11_codeOfOrder 63 = .ok (.getfield 225, 3) := by decide +kernel
theorem dX11_codeOfOrder_66 : decode cX11_codeOfOrder 66 = .ok (.iload 4, 2) := by decide +kernel
theorem dX11_codeOfOrder_68 : decode cX11_codeOfOrder 68 = .ok (.laload, 1) := by decide +kernel
theorem dX11_codeOfOrder_69 : decode cX11_codeOfOrder 69 = .ok (.lstore 5, 2) := by decide +kernel
theorem dX11_codeOfOrder_71 : decode cX11_codeOfOrder 71 = .ok (.lload 5, 2) := by decide +kernel
theorem dX11_codeOfOrder_73 : decode cX11_codeOfOrder 73 = .ok (.lconst 0, 1) := by decide +kernel
theorem dX11_codeOfOrder_74 : decode cX11_codeOfOrder 74 = .ok (.lcmp, 1) := by decide +kernel
theorem dX11_codeOfOrder_75 : decode cX11_codeOfOrder 75 = .ok (.ifCond .lt 27, 3) := by decide +kernel
theorem dX11_codeOfOrder_78 : decode cX11_codeOfOrder 78 = .ok (.lload 5, 2) := by decide +kernel
theorem dX11_codeOfOrder_80 : decode cX11_codeOfOrder 80 = .ok (.aload_n 0, 1) := by decide +kernel
theorem dX11_codeOfOrder_81 : decode cX11_codeOfOrder 81 = .ok (.getfield 23, 3) := by decide +kernel
theorem dX11_codeOfOrder_84 : decode cX11_codeOfOrder 84 = .ok (.getfield 168, 3) := by decide +kernel
theorem dX11_codeOfOrder_87 : decode cX11_codeOfOrder 87 = .ok (.i2l, 1) := by decide +kernel
theorem dX11_codeOfOrder_88 : decode cX11_codeOfOrder 88 = .ok (.lcmp, 1) := by decide +kernel
theorem dX11_codeOfOrder_89 : decode cX11_codeOfOrder 89 = .ok (.ifCond .ge 13, 3) := by decide +kernel
theorem dX11_codeOfOrder_92 : decode cX11_codeOfOrder 92 = .ok (.iload_n 3, 1) := by decide +kernel
theorem dX11_codeOfOrder_93 : decode cX11_codeOfOrder 93 = .ok (.lload 5, 2) := by decide +kernel
theorem dX11_codeOfOrder_95 : decode cX11_codeOfOrder 95 = .ok (.l2i, 1) := by decide +kernel
theorem dX11_codeOfOrder_96 : decode cX11_codeOfOrder 96 = .ok (.ishr, 1) := by decide +kernel
theorem dX11_codeOfOrder_97 : decode cX11_codeOfOrder 97 = .ok (.iconst 1, 1) := by decide +kernel
theorem dX11_codeOfOrder_98 : decode cX11_codeOfOrder 98 = .ok (.iand, 1) := by decide +kernel
theorem dX11_codeOfOrder_99 : decode cX11_codeOfOrder 99 = .ok (.ifCond .eq 6, 3) := by decide +kernel
theorem dX11_codeOfOrder_102 : decode cX11_codeOfOrder 102 = .ok (.bipush (-3), 2) := by decide +kernel
theorem dX11_codeOfOrder_104 : decode cX11_codeOfOrder 104 = .ok (.ireturn, 1) := by decide +kernel
theorem dX11_codeOfOrder_105 : decode cX11_codeOfOrder 105 = .ok (.iload_n 3, 1) := by decide +kernel
theorem dX11_codeOfOrder_106 : decode cX11_codeOfOrder 106 = .ok (.iconst 1, 1) := by decide +kernel
theorem dX11_codeOfOrder_107 : decode cX11_codeOfOrder 107 = .ok (.lload 5, 2) := by decide +kernel
theorem dX11_codeOfOrder_109 : decode cX11_codeOfOrder 109 = .ok (.l2i, 1) := by decide +kernel
theorem dX11_codeOfOrder_110 : decode cX11_codeOfOrder 110 = .ok (.ishl, 1) := by decide +kernel
theorem dX11_codeOfOrder_111 : decode cX11_codeOfOrder 111 = .ok (.ior, 1) := by decide +kernel
theorem dX11_codeOfOrder_112 : decode cX11_codeOfOrder 112 = .ok (.istore_n 3, 1) := by decide +kernel
theorem dX11_codeOfOrder_113 : decode cX11_codeOfOrder 113 = .ok (.iinc 4 1, 3) := by decide +kernel
theorem dX11_codeOfOrder_116 : decode cX11_codeOfOrder 116 = .ok (.goto (-63), 3) := by decide +kernel
theorem dX11_codeOfOrder_119 : decode cX11_codeOfOrder 119 = .ok (.iconst 0, 1) := by decide +kernel
theorem dX11_codeOfOrder_120 : decode cX11_codeOfOrder 120 = .ok (.ireturn, 1) := by decide +kernel
def x_codeOfOrder_53 (F : Nat) (I : Nat → Nat → Int32) (J : Nat → Nat → Int64) (x : Nat) (c : Nat) (tb2 : Nat) (g1 : Int32) : Nat → Int32 → Int32 → Option ((Int32) ⊕ (Int32 × Int32))
  | 0, _, _ => none
  | k + 1, l3, l4 => if (I tb2 1) ≤ l4 then (some (.inr (l3, l4))) else (chk l4 40 (let x8 := (J (tb2 + 1) (Int32.toNatClampNeg l4)); if (lg_cmp x8 0) < 0 then (some (.inl (-3))) else (if 0 ≤ (lg_cmp x8 (Int32.toInt64 (I c 0))) then (some (.inl (-3))) else (if ((l3 >>> ((Int64.toInt32 x8) &&& 31)) &&& 1) = 0 then (let x13 := (l3 ||| (1 <<< ((Int64.toInt32 x8) &&& 31))); x_codeOfOrder_53 F I J x c tb2 g1 k x13 (l4 + 1)) else (some (.inl (-3)))))))
def x_codeOfOrder (F : Nat) (I : Nat → Nat → Int32) (J : Nat → Nat → Int64) (x : Nat) (c : Nat) (v1 : Int32) : Option (Int32) := if (x_noTray x v1) = 0 then (chk v1 4 (if (ty_isMissing I (x + (135 + 2 * (Int32.toNatClampNeg v1)))) = 0 then (if (I (x + (135 + 2 * (Int32.toNatClampNeg v1))) 1) < 1 then (some (-4)) else (if (I (x + (135 + 2 * (Int32.toNatClampNeg v1))) 1) ≤ 6 then ((x_codeOfOrder_53 F I J x c (x + (135 + 2 * (Int32.toNatClampNeg v1))) v1 F 0 0).bind (fun q15 => match q15 with | .inl r0 => some r0 | .inr q0 => let m17 := q0.1; let m18 := q0.2; some 0)) else (some (-4)))) else (some (-6)))) else (some (-2))
theorem l_x_codeOfOrder_53 {l : Launch} {D : va_G} {E : Nat → ClassId} {B : Nat → Prop} {n F : Nat} {Q : Option Value → HT → Prop} {T : Nat → Option (Nat × Nat)} {I : Nat → Nat → Int32} {J : Nat → Nat → Int64} {P : Nat → Nat → Option Nat} {x : Nat} {c : Nat} {tb2 : Nat} {g1 : Int32} (hx : isSR T P x) (hs_c : isCt T P c) (hc : P x 3 = some c) (hs_tb2 : isTy T P tb2)  (r : (Int32) ⊕ (Int32 × Int32)) : ∀ (k : Nat) (l3 : Int32) (l4 : Int32), x_codeOfOrder_53 F I J x c tb2 g1 k l3 l4 = some r → (match r with | .inl r => Q (some (.int r)) (n, T, I, J, P) | .inr r => V l D E B yX11_codeOfOrder cX11_codeOfOrder 7 (some .int) 1 0 0 Q 0 0 (n, T, I, J, P) 119 [(0, some (.ref x)), (1, some (.int g1)), (2, some (.ref tb2)), (3, some (.int (r.1))), (4, some (.int (r.2)))] []) → V l D E B yX11_codeOfOrder cX11_codeOfOrder 7 (some .int) 1 0 0 Q 0 0 (n, T, I, J, P) 53 [(0, some (.ref x)), (1, some (.int g1)), (2, some (.ref tb2)), (3, some (.int l3)), (4, some (.int l4))] [] := by
  intro k
  induction k with
  | zero =>
    intro l3 l4 hf hk
    cases hf
  | succ k ih =>
    intro l3 l4 hf hk
    unfold x_codeOfOrder_53 at hf
    refine V.iload dX11_codeOfOrder_53 rfl ?_
    refine V.aload_n dX11_codeOfOrder_55 rfl ?_
    refine V.getf fl_X11_222 dX11_codeOfOrder_56 (hs_tb2.1 0 (9, 0) rfl) (by decide) rfl ?_
    refine V.icmp_ge 119 dX11_codeOfOrder_59 (by decide) (fun c6 => ?_) (fun c6 => ?_)
    · rw [if_pos c6] at hf
      obtain rfl := Option.some.inj hf
      exact V.lo [(0, some (.ref x)), (1, some (.int g1)), (2, some (.ref tb2)), (3, some (.int l3)), (4, some (.int l4))] (by simp only [Subs]; repeat' first | exact trivial | constructor | rfl) hk
    · rw [if_neg c6] at hf
      refine V.aload_n dX11_codeOfOrder_62 rfl ?_
      refine V.getr fl_X11_225 dX11_codeOfOrder_63 (hs_tb2.1 0 (9, 0) rfl) (hs_tb2.2 0 0 1 rfl) (by decide) rfl ?_
      refine V.iload dX11_codeOfOrder_66 rfl ?_
      obtain ⟨hb7, hf⟩ := chk_some hf
      refine V.lald dX11_codeOfOrder_68 (hs_tb2.1 1 (22, 40) rfl) hb7 ?_
      refine V.lstore dX11_codeOfOrder_69 (by decide) (by first | exact rfl | exact trivial) ?_
      obtain ⟨x8, e9⟩ : ∃ zz_, zz_ = (J (tb2 + 1) (Int32.toNatClampNeg l4)) := ⟨_, rfl⟩
      rw [← e9] at hf ⊢
      try dsimp only at hf
      refine V.lload dX11_codeOfOrder_71 rfl ?_
      refine V.lconst (v := 0) dX11_codeOfOrder_73 (by decide) ?_
      refine V.lcmp dX11_codeOfOrder_74 ?_
      refine V.if_lt 102 dX11_codeOfOrder_75 (by decide) (fun c10 => ?_) (fun c10 => ?_)
      · rw [if_pos c10] at hf
        refine V.bipush (v := -3) dX11_codeOfOrder_102 (by decide) ?_
        obtain rfl := Option.some.inj hf
        exact V.iret dX11_codeOfOrder_104 rfl (Nat.le_refl _) (Nat.le_refl _) hk
      · rw [if_neg c10] at hf
        refine V.lload dX11_codeOfOrder_78 rfl ?_
        refine V.aload_n dX11_codeOfOrder_80 rfl ?_
        refine V.getr fl_X11_23 dX11_codeOfOrder_81 (hx.1 0 (11, 0) rfl) hc (by decide) rfl ?_
        refine V.getf fl_X11_168 dX11_codeOfOrder_84 (hs_c.1.1 0 (1, 0) rfl) (by decide) rfl ?_
        refine V.i2l dX11_codeOfOrder_87 ?_
        refine V.lcmp dX11_codeOfOrder_88 ?_
        refine V.if_ge 102 dX11_codeOfOrder_89 (by decide) (fun c11 => ?_) (fun c11 => ?_)
        · rw [if_pos c11] at hf
          refine V.bipush (v := -3) dX11_codeOfOrder_102 (by decide) ?_
          obtain rfl := Option.some.inj hf
          exact V.iret dX11_codeOfOrder_104 rfl (Nat.le_refl _) (Nat.le_refl _) hk
        · rw [if_neg c11] at hf
          refine V.iload_n dX11_codeOfOrder_92 rfl ?_
          refine V.lload dX11_codeOfOrder_93 rfl ?_
          refine V.l2i dX11_codeOfOrder_95 ?_
          refine V.ishr dX11_codeOfOrder_96 ?_
          refine V.iconst (v := 1) dX11_codeOfOrder_97 (by decide) ?_
          refine V.iand dX11_codeOfOrder_98 ?_
          refine V.if_eq 105 dX11_codeOfOrder_99 (by decide) (fun c12 => ?_) (fun c12 => ?_)
          · rw [if_pos c12] at hf
            refine V.iload_n dX11_codeOfOrder_105 rfl ?_
            refine V.iconst (v := 1) dX11_codeOfOrder_106 (by decide) ?_
            refine V.lload dX11_codeOfOrder_107 rfl ?_
            refine V.l2i dX11_codeOfOrder_109 ?_
            refine V.ishl dX11_codeOfOrder_110 ?_
            refine V.ior dX11_codeOfOrder_111 ?_
            refine V.istore_n dX11_codeOfOrder_112 rfl (by decide) (by first | exact rfl | exact trivial) ?_
            obtain ⟨x13, e14⟩ : ∃ zz_, zz_ = (l3 ||| (1 <<< ((Int64.toInt32 x8) &&& 31))) := ⟨_, rfl⟩
            rw [← e14] at hf ⊢
            try dsimp only at hf
            refine V.iinc (v := (l4 + 1)) dX11_codeOfOrder_113 rfl rfl (by first | exact rfl | exact trivial) ?_
            refine V.goto 53 dX11_codeOfOrder_116 (by decide) ?_
            exact V.lo [(0, some (.ref x)), (1, some (.int g1)), (2, some (.ref tb2)), (3, some (.int x13)), (4, some (.int (l4 + 1)))] (by simp only [Subs]; repeat' first | exact trivial | constructor | rfl) (ih _ _ hf hk)
          · rw [if_neg c12] at hf
            refine V.bipush (v := -3) dX11_codeOfOrder_102 (by decide) ?_
            obtain rfl := Option.some.inj hf
            exact V.iret dX11_codeOfOrder_104 rfl (Nat.le_refl _) (Nat.le_refl _) hk
theorem c_x_codeOfOrder {l : Launch} {D : va_G} {E : Nat → ClassId} {B : Nat → Prop} {n F : Nat} {T : Nat → Option (Nat × Nat)} {I : Nat → Nat → Int32} {J : Nat → Nat → Int64} {P : Nat → Nat → Option Nat} {x : Nat} {c : Nat} {v1 : Int32} {r : Int32} (hx : isSR T P x) (hs_c : isCt T P c) (hc : P x 3 = some c) (hf : x_codeOfOrder F I J x c v1 = some r) : Ct l D E B yX11_codeOfOrder cX11_codeOfOrder 7 (some .int) 1 0 0 [.ref x, .int v1] (n, T, I, J, P) (Ret (some (.int r)) (n, T, I, J, P)) := by
  unfold x_codeOfOrder at hf
  refine Ct.ofV (by decide) (Nat.le_of_ble_eq_true rfl) ?_
  refine V.aload_n dX11_codeOfOrder_0 rfl ?_
  refine V.iload_n dX11_codeOfOrder_1 rfl ?_
  refine V.inv cv_X11_211 (c_x_noTray hx) dX11_codeOfOrder_2 (hx.1 0 (11, 0) rfl) (by decide) rfl rfl rfl (Nat.le_of_ble_eq_true rfl) (by decide) (by decide) (Nat.le_refl _) (Nat.le_refl _) (fun _ _ hq => ?_)
  obtain ⟨rfl, rfl⟩ := hq
  refine V.if_eq 11 dX11_codeOfOrder_5 (by decide) (fun c1 => ?_) (fun c1 => ?_)
  · rw [if_pos c1] at hf
    refine V.aload_n dX11_codeOfOrder_11 rfl ?_
    refine V.getr fl_X11_43 dX11_codeOfOrder_12 (hx.1 0 (11, 0) rfl) (hx.2.1 0 6 91 rfl) (by decide) rfl ?_
    refine V.iload_n dX11_codeOfOrder_15 rfl ?_
    obtain ⟨hb2, hf⟩ := chk_some hf
    refine V.aald dX11_codeOfOrder_16 (hx.1 91 (26, 4) rfl) (by decide) hb2 (hx.arr91 (i := v1) hb2) ?_
    refine V.astore_n dX11_codeOfOrder_17 rfl (by decide) (by first | exact rfl | exact trivial) ?_
    refine V.aload_n dX11_codeOfOrder_18 rfl ?_
    refine V.inv cv_X11_214 (c_ty_isMissing (hx.ob91 (i := v1) hb2)) dX11_codeOfOrder_19 ((hx.ob91 (i := v1) hb2).1 0 (9, 0) rfl) (by decide) rfl rfl rfl (Nat.le_of_ble_eq_true rfl) (by decide) (by decide) (Nat.le_refl _) (Nat.le_refl _) (fun _ _ hq => ?_)
    obtain ⟨rfl, rfl⟩ := hq
    refine V.if_eq 28 dX11_codeOfOrder_22 (by decide) (fun c3 => ?_) (fun c3 => ?_)
    · rw [if_pos c3] at hf
      refine V.aload_n dX11_codeOfOrder_28 rfl ?_
      refine V.getf fl_X11_222 dX11_codeOfOrder_29 ((hx.ob91 (i := v1) hb2).1 0 (9, 0) rfl) (by decide) rfl ?_
      refine V.iconst (v := 1) dX11_codeOfOrder_32 (by decide) ?_
      refine V.icmp_lt 45 dX11_codeOfOrder_33 (by decide) (fun c4 => ?_) (fun c4 => ?_)
      · rw [if_pos c4] at hf
        refine V.bipush (v := -4) dX11_codeOfOrder_45 (by decide) ?_
        obtain rfl := Option.some.inj hf
        exact V.iret dX11_codeOfOrder_47 rfl (Nat.le_refl _) (Nat.le_refl _) ⟨rfl, rfl⟩
      · rw [if_neg c4] at hf
        refine V.aload_n dX11_codeOfOrder_36 rfl ?_
        refine V.getf fl_X11_222 dX11_codeOfOrder_37 ((hx.ob91 (i := v1) hb2).1 0 (9, 0) rfl) (by decide) rfl ?_
        refine V.bipush (v := 6) dX11_codeOfOrder_40 (by decide) ?_
        refine V.icmp_le 48 dX11_codeOfOrder_42 (by decide) (fun c5 => ?_) (fun c5 => ?_)
        · rw [if_pos c5] at hf
          refine V.iconst (v := 0) dX11_codeOfOrder_48 (by decide) ?_
          refine V.istore_n dX11_codeOfOrder_49 rfl (by decide) (by first | exact rfl | exact trivial) ?_
          refine V.iconst (v := 0) dX11_codeOfOrder_50 (by decide) ?_
          refine V.istore dX11_codeOfOrder_51 (by decide) (by first | exact rfl | exact trivial) ?_
          obtain ⟨q15, hk16, hf⟩ := bnd_some hf
          refine V.lo [(0, some (.ref x)), (1, some (.int v1)), (2, some (.ref (x + (135 + 2 * (Int32.toNatClampNeg v1))))), (3, some (.int 0)), (4, some (.int 0))] (by simp only [Subs]; repeat' first | exact trivial | constructor | rfl) (l_x_codeOfOrder_53 hx hs_c hc (hx.ob91 (i := v1) hb2) q15 F _ _ hk16 ?_)
          rcases q15 with r0 | ⟨m17, m18⟩
          · try dsimp only at hf ⊢
            obtain rfl := Option.some.inj hf
            exact ⟨rfl, rfl⟩
          · try dsimp only at hf ⊢
            refine V.iconst (v := 0) dX11_codeOfOrder_119 (by decide) ?_
            obtain rfl := Option.some.inj hf
            exact V.iret dX11_codeOfOrder_120 rfl (Nat.le_refl _) (Nat.le_refl _) ⟨rfl, rfl⟩
        · rw [if_neg c5] at hf
          refine V.bipush (v := -4) dX11_codeOfOrder_45 (by decide) ?_
          obtain rfl := Option.some.inj hf
          exact V.iret dX11_codeOfOrder_47 rfl (Nat.le_refl _) (Nat.le_refl _) ⟨rfl, rfl⟩
    · rw [if_neg c3] at hf
      refine V.bipush (v := -6) dX11_codeOfOrder_25 (by decide) ?_
      obtain rfl := Option.some.inj hf
      exact V.iret dX11_codeOfOrder_27 rfl (Nat.le_refl _) (Nat.le_refl _) ⟨rfl, rfl⟩
  · rw [if_neg c1] at hf
    refine V.bipush (v := -2) dX11_codeOfOrder_8 (by decide) ?_
    obtain rfl := Option.some.inj hf
    exact V.iret dX11_codeOfOrder_10 rfl (Nat.le_refl _) (Nat.le_refl _) ⟨rfl, rfl⟩
theorem dX11_findRow_0 : decode cX11_findRow 0 = .ok (.aload_n 0, 1) := by decide +kernel
theorem dX11_findRow_1 : decode cX11_findRow 1 = .ok (.getfield 68, 3) := by decide +kernel
theorem dX11_findRow_4 : decode cX11_findRow 4 = .ok (.getfield 336, 3) := by decide +kernel
theorem dX11_findRow_7 : decode cX11_findRow 7 = .ok (.aload_n 0, 1) := by decide +kernel
theorem dX11_findRow_8 : decode cX11_findRow 8 = .ok (.getfield 55, 3) := by decide +kernel
theorem dX11_findRow_11 : decode cX11_findRow 11 = .ok (.iload_n 1, 1) := by decide +kernel
theorem dX11_findRow_12 : decode cX11_findRow 12 = .ok (.iload_n 2, 1) := by decide +kernel
theorem dX11_findRow_13 : decode cX11_findRow 13 = .ok (.iconst 0, 1) := by decide +kernel
theorem dX11_findRow_14 : decode cX11_findRow 14 = .ok (.iconst 0, 1) := by decide +kernel
theorem dX11_findRow_15 : decode cX11_findRow 15 = .ok (.invokevirtual 340, 3) := by decide +kernel
theorem dX11_findRow_18 : decode cX11_findRow 18 = .ok (.ifCond .ne 23, 3) := by decide +kernel
theorem dX11_findRow_21 : decode cX11_findRow 21 = .ok (.aload_n 0, 1) := by decide +kernel
theorem dX11_findRow_22 : decode cX11_findRow 22 = .ok (.getfield 68, 3) := by decide +kernel
theorem dX11_findRow_25 : decode cX11_findRow 25 = .ok (.aload_n 0, 1) := by decide +kernel
theorem dX11_findRow_26 : decode cX11_findRow 26 = .ok (.getfield 23, 3) := by decide +kernel
theorem dX11_findRow_29 : decode cX11_findRow 29 = .ok (.aload_n 0, 1) := by decide +kernel
theorem dX11_findRow_30 : decode cX11_findRow 30 = .ok (.getfield 30, 3) := by decide +kernel
theorem dX11_findRow_33 : decode cX11_findRow 33 = .ok (.aload_n 0, 1) := by decide +kernel
theorem dX11_findRow_34 : decode cX11_findRow 34 = .ok (.getfield 62, 3) := by decide +kernel
theorem dX11_findRow_37 : decode cX11_findRow 37 = .ok (.iload_n 2, 1) := by decide +kernel
theorem dX11_findRow_38 : decode cX11_findRow 38 = .ok (.invokevirtual 346, 3) := by decide +kernel
theorem dX11_findRow_41 : decode cX11_findRow 41 = .ok (.return_, 1) := by decide +kernel
def x_findRow (F : Nat) (T : Nat → Option (Nat × Nat)) (I : Nat → Nat → Int32) (P : Nat → Nat → Option Nat) (x : Nat) (c : Nat) (v1 : Int32) (v2 : Int32) : Option ((Nat → Nat → Int32)) := (mm_knows I (x + 110) (I x 9) v1 v2 0 0).bind (fun q1 => let u3 := q1.1; let I4 := q1.2; if u3 = 0 then ((ni_findRow F T I4 P x c (x + 12) (x + 101) v2).bind (fun q6 => let I8 := q6; some I8)) else (some I4))
theorem c_x_findRow {l : Launch} {D : va_G} {E : Nat → ClassId} {B : Nat → Prop} {n F : Nat} {T : Nat → Option (Nat × Nat)} {I : Nat → Nat → Int32} {J : Nat → Nat → Int64} {P : Nat → Nat → Option Nat} {x : Nat} {c : Nat} {v1 : Int32} {v2 : Int32} {r : (Nat → Nat → Int32)} (hx : isSR T P x) (hs_c : isCt T P c) (hc : P x 3 = some c) (hf : x_findRow F T I P x c v1 v2 = some r) : Ct l D E B yX11_findRow cX11_findRow 3 none 6 0 0 [.ref x, .int v1, .int v2] (n, T, I, J, P) (Ret (none) (n, T, r, J, P)) := by
  unfold x_findRow at hf
  refine Ct.ofV (by decide) (Nat.le_of_ble_eq_true rfl) ?_
  refine V.aload_n dX11_findRow_0 rfl ?_
  refine V.getr fl_X11_68 dX11_findRow_1 (hx.1 0 (11, 0) rfl) (hx.2.1 0 13 108 rfl) (by decide) rfl ?_
  refine V.getr fl_X11_336 dX11_findRow_4 (hx.1 108 (5, 0) rfl) (hx.2.1 108 2 110 rfl) (by decide) rfl ?_
  refine V.aload_n dX11_findRow_7 rfl ?_
  refine V.getf fl_X11_55 dX11_findRow_8 (hx.1 0 (11, 0) rfl) (by decide) rfl ?_
  refine V.iload_n dX11_findRow_11 rfl ?_
  refine V.iload_n dX11_findRow_12 rfl ?_
  refine V.iconst (v := 0) dX11_findRow_13 (by decide) ?_
  refine V.iconst (v := 0) dX11_findRow_14 (by decide) ?_
  obtain ⟨⟨u3, I4⟩, hk2, hf⟩ := bnd_some hf
  try dsimp only at hf
  refine V.inv cv_X11_340 (c_mm_knows (hx.2.2.2.1 110 rfl) hk2) dX11_findRow_15 ((hx.2.2.2.1 110 rfl).1 0 (3, 0) rfl) (by decide) rfl rfl rfl (Nat.le_of_ble_eq_true rfl) (by decide) (by decide) (Nat.le_refl _) (Nat.le_refl _) (fun _ _ hq => ?_)
  obtain ⟨rfl, rfl⟩ := hq
  try dsimp only
  refine V.if_ne 41 dX11_findRow_18 (by decide) (fun c5 => ?_) (fun c5 => ?_)
  · rw [if_neg c5] at hf
    obtain rfl := Option.some.inj hf
    exact V.vret dX11_findRow_41 rfl (Nat.le_refl _) (Nat.le_refl _) ⟨rfl, rfl⟩
  · rw [if_pos c5] at hf
    refine V.aload_n dX11_findRow_21 rfl ?_
    refine V.getr fl_X11_68 dX11_findRow_22 (hx.1 0 (11, 0) rfl) (hx.2.1 0 13 108 rfl) (by decide) rfl ?_
    refine V.aload_n dX11_findRow_25 rfl ?_
    refine V.getr fl_X11_23 dX11_findRow_26 (hx.1 0 (11, 0) rfl) hc (by decide) rfl ?_
    refine V.aload_n dX11_findRow_29 rfl ?_
    refine V.getr fl_X11_30 dX11_findRow_30 (hx.1 0 (11, 0) rfl) (hx.2.1 0 4 12 rfl) (by decide) rfl ?_
    refine V.aload_n dX11_findRow_33 rfl ?_
    refine V.getr fl_X11_62 dX11_findRow_34 (hx.1 0 (11, 0) rfl) (hx.2.1 0 12 101 rfl) (by decide) rfl ?_
    refine V.iload_n dX11_findRow_37 rfl ?_
    obtain ⟨I8, hk7, hf⟩ := bnd_some hf
    try dsimp only at hf
    refine V.inv cv_X11_346 (c_ni_findRow hx hs_c (hx.2.2.1 12 rfl) (hx.2.2.1 101 rfl) hk7) dX11_findRow_38 (hx.1 108 (5, 0) rfl) (by decide) rfl rfl rfl (Nat.le_of_ble_eq_true rfl) (by decide) (by decide) (Nat.le_refl _) (Nat.le_refl _) (fun _ _ hq => ?_)
    obtain ⟨rfl, rfl⟩ := hq
    obtain rfl := Option.some.inj hf
    exact V.vret dX11_findRow_41 rfl (Nat.le_refl _) (Nat.le_refl _) ⟨rfl, rfl⟩
theorem dX11_row_0 : decode cX11_row 0 = .ok (.aload_n 0, 1) := by decide +kernel
theorem dX11_row_1 : decode cX11_row 1 = .ok (.iload_n 1, 1) := by decide +kernel
theorem dX11_row_2 : decode cX11_row 2 = .ok (.iload_n 2, 1) := by decide +kernel
theorem dX11_row_3 : decode cX11_row 3 = .ok (.invokevirtual 274, 3) := by decide +kernel
theorem dX11_row_6 : decode cX11_row 6 = .ok (.istore_n 3, 1) := by decide +kernel
theorem dX11_row_7 : decode cX11_row 7 = .ok (.iload_n 3, 1) := by decide +kernel
theorem dX11_row_8 : decode cX11_row 8 = .ok (.ifCond .eq 5, 3) := by decide +kernel
theorem dX11_row_11 : decode cX11_row 11 = .ok (.iload_n 3, 1) := by decide +kernel
theorem dX11_row_12 : decode cX11_row 12 = .ok (.ireturn, 1) := by decide +kernel
theorem dX11_row_13 : decode cX11_row 13 = .ok (.aload_n 0, 1) := by decide +kernel
theorem dX11_row_14 : decode cX11_row 14 = .ok (.iload_n 1, 1) := by decide +kernel
theorem dX11_row_15 : decode cX11_row 15 = .ok (.iload_n 2, 1) := by decide +kernel
theorem dX11_row_16 : decode cX11_row 16 = .ok (.invokevirtual 327, 3) := by decide +kernel
theorem dX11_row_19 : decode cX11_row 19 = .ok (.aload_n 0, 1) := by decide +kernel
theorem dX11_row_20 : decode cX11_row 20 = .ok (.getfield 68, 3) := by decide +kernel
theorem dX11_row_23 : decode cX11_row 23 = .ok (.getfield 330, 3) := by decide +kernel
theorem dX11_row_26 : decode cX11_row 26 = .ok (.ireturn, 1) := by decide +kernel
def x_row (F : Nat) (T : Nat → Option (Nat × Nat)) (I : Nat → Nat → Int32) (J : Nat → Nat → Int64) (P : Nat → Nat → Option Nat) (x : Nat) (c : Nat) (v1 : Int32) (v2 : Int32) : Option (Int32 × (Nat → Nat → Int32)) := (x_readNightOfOneUp F I J x c v1 v2).bind (fun q1 => let u3 := q1.1; let I4 := q1.2; if u3 = 0 then ((x_findRow F T I4 P x c v1 v2).bind (fun q6 => let I8 := q6; some ((I8 (x + 108) 4), I8))) else (some (u3, I4)))
theorem c_x_row {l : Launch} {D : va_G} {E : Nat → ClassId} {B : Nat → Prop} {n F : Nat} {T : Nat → Option (Nat × Nat)} {I : Nat → Nat → Int32} {J : Nat → Nat → Int64} {P : Nat → Nat → Option Nat} {x : Nat} {c : Nat} {v1 : Int32} {v2 : Int32} {r : Int32 × (Nat → Nat → Int32)} (hx : isSR T P x) (hs_c : isCt T P c) (hc : P x 3 = some c) (hf : x_row F T I J P x c v1 v2 = some r) : Ct l D E B yX11_row cX11_row 4 (some .int) 7 0 0 [.ref x, .int v1, .int v2] (n, T, I, J, P) (Ret (some (.int r.1)) (n, T, r.2, J, P)) := by
  unfold x_row at hf
  refine Ct.ofV (by decide) (Nat.le_of_ble_eq_true rfl) ?_
  refine V.aload_n dX11_row_0 rfl ?_
  refine V.iload_n dX11_row_1 rfl ?_
  refine V.iload_n dX11_row_2 rfl ?_
  obtain ⟨⟨u3, I4⟩, hk2, hf⟩ := bnd_some hf
  try dsimp only at hf
  refine V.inv cv_X11_274 (c_x_readNightOfOneUp hx hs_c hc hk2) dX11_row_3 (hx.1 0 (11, 0) rfl) (by decide) rfl rfl rfl (Nat.le_of_ble_eq_true rfl) (by decide) (by decide) (Nat.le_refl _) (Nat.le_refl _) (fun _ _ hq => ?_)
  obtain ⟨rfl, rfl⟩ := hq
  try dsimp only
  refine V.istore_n dX11_row_6 rfl (by decide) (by first | exact rfl | exact trivial) ?_
  refine V.iload_n dX11_row_7 rfl ?_
  refine V.if_eq 13 dX11_row_8 (by decide) (fun c5 => ?_) (fun c5 => ?_)
  · rw [if_pos c5] at hf
    refine V.aload_n dX11_row_13 rfl ?_
    refine V.iload_n dX11_row_14 rfl ?_
    refine V.iload_n dX11_row_15 rfl ?_
    obtain ⟨I8, hk7, hf⟩ := bnd_some hf
    try dsimp only at hf
    refine V.inv cv_X11_327 (c_x_findRow hx hs_c hc hk7) dX11_row_16 (hx.1 0 (11, 0) rfl) (by decide) rfl rfl rfl (Nat.le_of_ble_eq_true rfl) (by decide) (by decide) (Nat.le_refl _) (Nat.le_refl _) (fun _ _ hq => ?_)
    obtain ⟨rfl, rfl⟩ := hq
    refine V.aload_n dX11_row_19 rfl ?_
    refine V.getr fl_X11_68 dX11_row_20 (hx.1 0 (11, 0) rfl) (hx.2.1 0 13 108 rfl) (by decide) rfl ?_
    refine V.getf fl_X11_330 dX11_row_23 (hx.1 108 (5, 0) rfl) (by decide) rfl ?_
    obtain rfl := Option.some.inj hf
    exact V.iret dX11_row_26 rfl (Nat.le_refl _) (Nat.le_refl _) ⟨rfl, rfl⟩
  · rw [if_neg c5] at hf
    refine V.iload_n dX11_row_11 rfl ?_
    obtain rfl := Option.some.inj hf
    exact V.iret dX11_row_12 rfl (Nat.le_refl _) (Nat.le_refl _) ⟨rfl, rfl⟩
theorem dX11_rowSpot_0 : decode cX11_rowSpot 0 = .ok (.aload_n 0, 1) := by decide +kernel
theorem dX11_rowSpot_1 : decode cX11_rowSpot 1 = .ok (.iload_n 1, 1) := by decide +kernel
theorem dX11_rowSpot_2 : decode cX11_rowSpot 2 = .ok (.iload_n 2, 1) := by decide +kernel
theorem dX11_rowSpot_3 : decode cX11_rowSpot 3 = .ok (.invokevirtual 274, 3) := by decide +kernel
theorem dX11_rowSpot_6 : decode cX11_rowSpot 6 = .ok (.istore 4, 2) := by decide +kernel
theorem dX11_rowSpot_8 : decode cX11_rowSpot 8 = .ok (.iload 4, 2) := by decide +kernel
theorem dX11_rowSpot_10 : decode cX11_rowSpot 10 = .ok (.ifCond .eq 6, 3) := by decide +kernel
theorem dX11_rowSpot_13 : decode cX11_rowSpot 13 = .ok (.iload 4, 2) := by decide +kernel
theorem dX11_rowSpot_15 : decode cX11_rowSpot 15 = .ok (.ireturn, 1) := by decide +kernel
theorem dX11_rowSpot_16 : decode cX11_rowSpot 16 = .ok (.aload_n 0, 1) := by decide +kernel
theorem dX11_rowSpot_17 : decode cX11_rowSpot 17 = .ok (.iload_n 3, 1) := by decide +kernel
theorem dX11_rowSpot_18 : decode cX11_rowSpot 18 = .ok (.invokevirtual 127, 3) := by decide +kernel
theorem dX11_rowSpot_21 : decode cX11_rowSpot 21 = .ok (.ifCond .eq 6, 3) := by decide +kernel
theorem dX11_rowSpot_24 : decode cX11_rowSpot 24 = .ok (.bipush (-7), 2) := by decide +kernel
theorem dX11_rowSpot_26 : decode cX11_rowSpot 26 = .ok (.ireturn, 1) := by decide +kernel
theorem dX11_rowSpot_27 : decode cX11_rowSpot 27 = .ok (.aload_n 0, 1) := by decide +kernel
theorem dX11_rowSpot_28 : decode cX11_rowSpot 28 = .ok (.iload_n 1, 1) := by decide +kernel
theorem dX11_rowSpot_29 : decode cX11_rowSpot 29 = .ok (.iload_n 2, 1) := by decide +kernel
theorem dX11_rowSpot_30 : decode cX11_rowSpot 30 = .ok (.invokevirtual 327, 3) := by decide +kernel
theorem dX11_rowSpot_33 : decode cX11_rowSpot 33 = .ok (.aload_n 0, 1) := by decide +kernel
theorem dX11_rowSpot_34 : decode cX11_rowSpot 34 = .ok (.getfield 68, 3) := by decide +kernel
theorem dX11_rowSpot_37 : decode cX11_rowSpot 37 = .ok (.getfield 333, 3) := by decide +kernel
theorem dX11_rowSpot_40 : decode cX11_rowSpot 40 = .ok (.iload_n 3, 1) := by decide +kernel
theorem dX11_rowSpot_41 : decode cX11_rowSpot 41 = .ok (.iaload, 1) := by decide +kernel
theorem dX11_rowSpot_42 : decode cX11_rowSpot 42 = .ok (.ireturn, 1) := by decide +kernel
def x_rowSpot (F : Nat) (T : Nat → Option (Nat × Nat)) (I : Nat → Nat → Int32) (J : Nat → Nat → Int64) (P : Nat → Nat → Option Nat) (x : Nat) (c : Nat) (v1 : Int32) (v2 : Int32) (v3 : Int32) : Option (Int32 × (Nat → Nat → Int32)) := (x_readNightOfOneUp F I J x c v1 v2).bind (fun q1 => let u3 := q1.1; let I4 := q1.2; if u3 = 0 then (if (x_noPerson I4 x c v3) = 0 then ((x_findRow F T I4 P x c v1 v2).bind (fun q7 => let I9 := q7; chk v3 6 (some ((I9 (x + 112) (Int32.toNatClampNeg v3)), I9)))) else (some ((-7), I4))) else (some (u3, I4)))
theorem c_x_rowSpot {l : Launch} {D : va_G} {E : Nat → ClassId} {B : Nat → Prop} {n F : Nat} {T : Nat → Option (Nat × Nat)} {I : Nat → Nat → Int32} {J : Nat → Nat → Int64} {P : Nat → Nat → Option Nat} {x : Nat} {c : Nat} {v1 : Int32} {v2 : Int32} {v3 : Int32} {r : Int32 × (Nat → Nat → Int32)} (hx : isSR T P x) (hs_c : isCt T P c) (hc : P x 3 = some c) (hf : x_rowSpot F T I J P x c v1 v2 v3 = some r) : Ct l D E B yX11_rowSpot cX11_rowSpot 5 (some .int) 7 0 0 [.ref x, .int v1, .int v2, .int v3] (n, T, I, J, P) (Ret (some (.int r.1)) (n, T, r.2, J, P)) := by
  unfold x_rowSpot at hf
  refine Ct.ofV (by decide) (Nat.le_of_ble_eq_true rfl) ?_
  refine V.aload_n dX11_rowSpot_0 rfl ?_
  refine V.iload_n dX11_rowSpot_1 rfl ?_
  refine V.iload_n dX11_rowSpot_2 rfl ?_
  obtain ⟨⟨u3, I4⟩, hk2, hf⟩ := bnd_some hf
  try dsimp only at hf
  refine V.inv cv_X11_274 (c_x_readNightOfOneUp hx hs_c hc hk2) dX11_rowSpot_3 (hx.1 0 (11, 0) rfl) (by decide) rfl rfl rfl (Nat.le_of_ble_eq_true rfl) (by decide) (by decide) (Nat.le_refl _) (Nat.le_refl _) (fun _ _ hq => ?_)
  obtain ⟨rfl, rfl⟩ := hq
  try dsimp only
  refine V.istore dX11_rowSpot_6 (by decide) (by first | exact rfl | exact trivial) ?_
  refine V.iload dX11_rowSpot_8 rfl ?_
  refine V.if_eq 16 dX11_rowSpot_10 (by decide) (fun c5 => ?_) (fun c5 => ?_)
  · rw [if_pos c5] at hf
    refine V.aload_n dX11_rowSpot_16 rfl ?_
    refine V.iload_n dX11_rowSpot_17 rfl ?_
    refine V.inv cv_X11_127 (c_x_noPerson hx hs_c hc) dX11_rowSpot_18 (hx.1 0 (11, 0) rfl) (by decide) rfl rfl rfl (Nat.le_of_ble_eq_true rfl) (by decide) (by decide) (Nat.le_refl _) (Nat.le_refl _) (fun _ _ hq => ?_)
    obtain ⟨rfl, rfl⟩ := hq
    refine V.if_eq 27 dX11_rowSpot_21 (by decide) (fun c6 => ?_) (fun c6 => ?_)
    · rw [if_pos c6] at hf
      refine V.aload_n dX11_rowSpot_27 rfl ?_
      refine V.iload_n dX11_rowSpot_28 rfl ?_
      refine V.iload_n dX11_rowSpot_29 rfl ?_
      obtain ⟨I9, hk8, hf⟩ := bnd_some hf
      try dsimp only at hf
      refine V.inv cv_X11_327 (c_x_findRow hx hs_c hc hk8) dX11_rowSpot_30 (hx.1 0 (11, 0) rfl) (by decide) rfl rfl rfl (Nat.le_of_ble_eq_true rfl) (by decide) (by decide) (Nat.le_refl _) (Nat.le_refl _) (fun _ _ hq => ?_)
      obtain ⟨rfl, rfl⟩ := hq
      refine V.aload_n dX11_rowSpot_33 rfl ?_
      refine V.getr fl_X11_68 dX11_rowSpot_34 (hx.1 0 (11, 0) rfl) (hx.2.1 0 13 108 rfl) (by decide) rfl ?_
      refine V.getr fl_X11_333 dX11_rowSpot_37 (hx.1 108 (5, 0) rfl) (hx.2.1 108 3 112 rfl) (by decide) rfl ?_
      refine V.iload_n dX11_rowSpot_40 rfl ?_
      obtain ⟨hb10, hf⟩ := chk_some hf
      refine V.iald dX11_rowSpot_41 (hx.1 112 (20, 6) rfl) hb10 ?_
      obtain rfl := Option.some.inj hf
      exact V.iret dX11_rowSpot_42 rfl (Nat.le_refl _) (Nat.le_refl _) ⟨rfl, rfl⟩
    · rw [if_neg c6] at hf
      refine V.bipush (v := -7) dX11_rowSpot_24 (by decide) ?_
      obtain rfl := Option.some.inj hf
      exact V.iret dX11_rowSpot_26 rfl (Nat.le_refl _) (Nat.le_refl _) ⟨rfl, rfl⟩
  · rw [if_neg c5] at hf
    refine V.iload dX11_rowSpot_13 rfl ?_
    obtain rfl := Option.some.inj hf
    exact V.iret dX11_rowSpot_15 rfl (Nat.le_refl _) (Nat.le_refl _) ⟨rfl, rfl⟩
theorem dX11_leans_0 : decode cX11_leans 0 = .ok (.aload_n 0, 1) := by decide +kernel
theorem dX11_leans_1 : decode cX11_leans 1 = .ok (.iload_n 1, 1) := by decide +kernel
theorem dX11_leans_2 : decode cX11_leans 2 = .ok (.iload_n 2, 1) := by decide +kernel
theorem dX11_leans_3 : decode cX11_leans 3 = .ok (.invokevirtual 274, 3) := by decide +kernel
theorem dX11_leans_6 : decode cX11_leans 6 = .ok (.istore_n 3, 1) := by decide +kernel
theorem dX11_leans_7 : decode cX11_leans 7 = .ok (.iload_n 3, 1) := by decide +kernel
theorem dX11_leans_8 : decode cX11_leans 8 = .ok (.ifCond .eq 5, 3) := by decide +kernel
theorem dX11_leans_11 : decode cX11_leans 11 = .ok (.iload_n 3, 1) := by decide +kernel
theorem dX11_leans_12 : decode cX11_leans 12 = .ok (.ireturn, 1) := by decide +kernel
theorem dX11_leans_13 : decode cX11_leans 13 = .ok (.aload_n 0, 1) := by decide +kernel
theorem dX11_leans_14 : decode cX11_leans 14 = .ok (.getfield 62, 3) := by decide +kernel
theorem dX11_leans_17 : decode cX11_leans 17 = .ok (.aload_n 0, 1) := by decide +kernel
theorem dX11_leans_18 : decode cX11_leans 18 = .ok (.getfield 30, 3) := by decide +kernel
theorem dX11_leans_21 : decode cX11_leans 21 = .ok (.invokevirtual 174, 3) := by decide +kernel
theorem dX11_leans_24 : decode cX11_leans 24 = .ok (.aload_n 0, 1) := by decide +kernel
theorem dX11_leans_25 : decode cX11_leans 25 = .ok (.getfield 68, 3) := by decide +kernel
theorem dX11_leans_28 : decode cX11_leans 28 = .ok (.aload_n 0, 1) := by decide +kernel
theorem dX11_leans_29 : decode cX11_leans 29 = .ok (.getfield 23, 3) := by decide +kernel
theorem dX11_leans_32 : decode cX11_leans 32 = .ok (.aload_n 0, 1) := by decide +kernel
theorem dX11_leans_33 : decode cX11_leans 33 = .ok (.getfield 62, 3) := by decide +kernel
theorem dX11_leans_36 : decode cX11_leans 36 = .ok (.iload_n 2, 1) := by decide +kernel
theorem dX11_leans_37 : decode cX11_leans 37 = .ok (.invokevirtual 277, 3) := by decide +kernel
theorem dX11_leans_40 : decode cX11_leans 40 = .ok (.istore 4, 2) := by decide +kernel
theorem dX11_leans_42 : decode cX11_leans 42 = .ok (.iconst 0, 1) := by decide +kernel
theorem dX11_leans_43 : decode cX11_leans 43 = .ok (.istore 5, 2) := by decide +kernel
theorem dX11_leans_45 : decode cX11_leans 45 = .ok (.iconst 0, 1) := by decide +kernel
theorem dX11_leans_46 : decode cX11_leans 46 = .ok (.istore 6, 2) := by decide +kernel
theorem dX11_leans_48 : decode cX11_leans 48 = .ok (.iload 6, 2) := by decide +kernel
theorem dX11_leans_50 : decode cX11_leans 50 = .ok (.aload_n 0, 1) := by decide +kernel
theorem dX11_leans_51 : decode cX11_leans 51 = .ok (.getfield 23, 3) := by decide +kernel
theorem dX11_leans_54 : decode cX11_leans 54 = .ok (.getfield 168, 3) := by decide +kernel
theorem dX11_leans_57 : decode cX11_leans 57 = .ok (.if_icmp .ge 77, 3) := by decide +kernel
theorem dX11_leans_60 : decode cX11_leans 60 = .ok (.iload 6, 2) := by decide +kernel
theorem dX11_leans_62 : decode cX11_leans 62 = .ok (.iload_n 2, 1) := by decide +kernel
theorem dX11_leans_63 : decode cX11_leans 63 = .ok (.if_icmp .eq 65, 3) := by decide +kernel
theorem dX11_leans_66 : decode cX11_leans 66 = .ok (.aload_n 0, 1) := by decide +kernel
theorem dX11_leans_67 : decode cX11_leans 67 = .ok (.getfield 30, 3) := by decide +kernel
theorem dX11_leans_70 : decode cX11_leans 70 = .ok (.iload 6, 2) := by decide +kernel
theorem dX11_leans_72 : decode cX11_leans 72 = .ok (.invokevirtual 139, 3) := by decide +kernel
theorem dX11_leans_75 : decode cX11_leans 75 = .ok (.ifCond .eq 53, 3) := by decide +kernel
theorem dX11_leans_78 : decode cX11_leans 78 = .ok (.aload_n 0, 1) := by decide +kernel
theorem dX11_leans_79 : decode cX11_leans 79 = .ok (.getfield 62, 3) := by decide +kernel
theorem dX11_leans_82 : decode cX11_leans 82 = .ok (.aload_n 0, 1) := by decide +kernel
theorem dX11_leans_83 : decode cX11_leans 83 = .ok (.getfield 30, 3) := by decide +kernel
theorem dX11_leans_86 : decode cX11_leans 86 = .ok (.invokevirtual 174, 3) := by decide +kernel
theorem dX11_leans_89 : decode cX11_leans 89 = .ok (.aload_n 0, 1) := by decide +kernel
theorem dX11_leans_90 : decode cX11_leans 90 = .ok (.getfield 62, 3) := by decide +kernel
theorem dX11_leans_93 : decode cX11_leans 93 = .ok (.iload 6, 2) := by decide +kernel
theorem dX11_leans_95 : decode cX11_leans 95 = .ok (.invokevirtual 261, 3) := by decide +kernel
theorem dX11_leans_98 : decode cX11_leans 98 = .ok (.aload_n 0, 1) := by decide +kernel
theorem dX11_leans_99 : decode cX11_leans 99 = .ok (.getfield 68, 3) := by decide +kernel
theorem dX11_leans_102 : decode cX11_leans 102 = .ok (.aload_n 0, 1) := by decide +kernel
theorem dX11_leans_103 : decode cX11_leans 103 = .ok (.getfield 23, 3) := by decide +kernel
theorem dX11_leans_106 : decode cX11_leans 106 = .ok (.aload_n 0, 1) := by decide +kernel
theorem dX11_leans_107 : decode cX11_leans 107 = .ok (.getfield 62, 3) := by decide +kernel
theorem dX11_leans_110 : decode cX11_leans 110 = .ok (.iload_n 2, 1) := by decide +kernel
theorem dX11_leans_111 : decode cX11_leans 111 = .ok (.invokevirtual 277, 3) := by decide +kernel
theorem dX11_leans_114 : decode cX11_leans 114 = .ok (.iload 4, 2) := by decide +kernel
theorem dX11_leans_116 : decode cX11_leans 116 = .ok (.if_icmp .ge 12, 3) := by decide +kernel
theorem dX11_leans_119 : decode cX11_leans 119 = .ok (.iload 5, 2) := by decide +kernel
theorem dX11_leans_121 : decode cX11_leans 121 = .ok (.iconst 1, 1) := by decide +kernel
theorem dX11_leans_122 : decode cX11_leans 122 = .ok (.iload 6, 2) := by decide +kernel
theorem dX11_leans_124 : decode cX11_leans 124 = .ok (.ishl, 1) := by decide +kernel
theorem dX11_leans_125 : decode cX11_leans 125 = .ok (.ior, 1) := by decide +kernel
theorem dX11_leans_126 : decode cX11_leans 126 = .ok (.istore 5, 2) := by decide +kernel
theorem dX11_leans_128 : decode cX11_leans 128 = .ok (.iinc 6 1, 3) := by decide +kernel
theorem dX11_leans_131 : decode cX11_leans 131 = .ok (.goto (-83), 3) := by decide +kernel
theorem dX11_leans_134 : decode cX11_leans 134 = .ok (.iload 5, 2) := by decide +kernel
theorem dX11_leans_136 : decode cX11_leans 136 = .ok (.ireturn, 1) := by decide +kernel
def x_leans_48 (F : Nat) (T : Nat → Option (Nat × Nat)) (P : Nat → Nat → Option Nat) (x : Nat) (c : Nat) (g1 : Int32) (g2 : Int32) (g3 : Int32) (g4 : Int32) : Nat → Int32 → Int32 → (Nat → Nat → Int32) → Option (Int32 × Int32 × (Nat → Nat → Int32))
  | 0, _, _, _ => none
  | k + 1, l5, l6, I => if (I c 0) ≤ l6 then (some (l5, l6, I)) else (if l6 = g2 then (x_leans_48 F T P x c g1 g2 g3 g4 k l5 (l6 + 1) I) else (if (s_isUp I (x + 12) l6) = 0 then (x_leans_48 F T P x c g1 g2 g3 g4 k l5 (l6 + 1) I) else ((s_copyFrom I (x + 101) (x + 12)).bind (fun q16 => let I18 := q16; (s_seat I18 (x + 101) l6).bind (fun q19 => let I21 := q19; (ni_minutesUp F T I21 P x c (x + 101) g2).bind (fun q22 => let u24 := q22.1; let I25 := q22.2; if g4 ≤ u24 then (x_leans_48 F T P x c g1 g2 g3 g4 k l5 (l6 + 1) I25) else (let x27 := (l5 ||| (1 <<< (l6 &&& 31))); x_leans_48 F T P x c g1 g2 g3 g4 k x27 (l6 + 1) I25)))))))
def x_leans (F : Nat) (T : Nat → Option (Nat × Nat)) (I : Nat → Nat → Int32) (J : Nat → Nat → Int64) (P : Nat → Nat → Option Nat) (x : Nat) (c : Nat) (v1 : Int32) (v2 : Int32) : Option (Int32 × (Nat → Nat → Int32)) := (x_readNightOfOneUp F I J x c v1 v2).bind (fun q1 => let u3 := q1.1; let I4 := q1.2; if u3 = 0 then ((s_copyFrom I4 (x + 101) (x + 12)).bind (fun q6 => let I8 := q6; (ni_minutesUp F T I8 P x c (x + 101) v2).bind (fun q9 => let u11 := q9.1; let I12 := q9.2; (x_leans_48 F T P x c v1 v2 u3 u11 F 0 0 I12).bind (fun q29 => let m31 := q29.1; let m32 := q29.2.1; let I33 := q29.2.2; some (m31, I33))))) else (some (u3, I4)))
theorem l_x_leans_48 {l : Launch} {D : va_G} {E : Nat → ClassId} {B : Nat → Prop} {n F : Nat} {Q : Option Value → HT → Prop} {T : Nat → Option (Nat × Nat)} {J : Nat → Nat → Int64} {P : Nat → Nat → Option Nat} {x : Nat} {c : Nat} {g1 : Int32} {g2 : Int32} {g3 : Int32} {g4 : Int32} (hx : isSR T P x) (hs_c : isCt T P c) (hc : P x 3 = some c)  (r : Int32 × Int32 × (Nat → Nat → Int32)) : ∀ (k : Nat) (l5 : Int32) (l6 : Int32) (I : (Nat → Nat → Int32)), x_leans_48 F T P x c g1 g2 g3 g4 k l5 l6 I = some r → V l D E B yX11_leans cX11_leans 7 (some .int) 5 0 0 Q 0 0 (n, T, r.2.2, J, P) 134 [(0, some (.ref x)), (1, some (.int g1)), (2, some (.int g2)), (3, some (.int g3)), (4, some (.int g4)), (5, some (.int (r.1))), (6, some (.int (r.2.1)))] [] → V l D E B yX11_leans cX11_leans 7 (some .int) 5 0 0 Q 0 0 (n, T, I, J, P) 48 [(0, some (.ref x)), (1, some (.int g1)), (2, some (.int g2)), (3, some (.int g3)), (4, some (.int g4)), (5, some (.int l5)), (6, some (.int l6))] [] := by
  intro k
  induction k with
  | zero =>
    intro l5 l6 I hf hk
    cases hf
  | succ k ih =>
    intro l5 l6 I hf hk
    unfold x_leans_48 at hf
    refine V.iload dX11_leans_48 rfl ?_
    refine V.aload_n dX11_leans_50 rfl ?_
    refine V.getr fl_X11_23 dX11_leans_51 (hx.1 0 (11, 0) rfl) hc (by decide) rfl ?_
    refine V.getf fl_X11_168 dX11_leans_54 (hs_c.1.1 0 (1, 0) rfl) (by decide) rfl ?_
    refine V.icmp_ge 134 dX11_leans_57 (by decide) (fun c13 => ?_) (fun c13 => ?_)
    · rw [if_pos c13] at hf
      obtain rfl := Option.some.inj hf
      exact V.lo [(0, some (.ref x)), (1, some (.int g1)), (2, some (.int g2)), (3, some (.int g3)), (4, some (.int g4)), (5, some (.int l5)), (6, some (.int l6))] (by simp only [Subs]; repeat' first | exact trivial | constructor | rfl) hk
    · rw [if_neg c13] at hf
      refine V.iload dX11_leans_60 rfl ?_
      refine V.iload_n dX11_leans_62 rfl ?_
      refine V.icmp_eq 128 dX11_leans_63 (by decide) (fun c14 => ?_) (fun c14 => ?_)
      · rw [if_pos c14] at hf
        refine V.iinc (v := (l6 + 1)) dX11_leans_128 rfl rfl (by first | exact rfl | exact trivial) ?_
        refine V.goto 48 dX11_leans_131 (by decide) ?_
        exact V.lo [(0, some (.ref x)), (1, some (.int g1)), (2, some (.int g2)), (3, some (.int g3)), (4, some (.int g4)), (5, some (.int l5)), (6, some (.int (l6 + 1)))] (by simp only [Subs]; repeat' first | exact trivial | constructor | rfl) (ih _ _ _ hf hk)
      · rw [if_neg c14] at hf
        refine V.aload_n dX11_leans_66 rfl ?_
        refine V.getr fl_X11_30 dX11_leans_67 (hx.1 0 (11, 0) rfl) (hx.2.1 0 4 12 rfl) (by decide) rfl ?_
        refine V.iload dX11_leans_70 rfl ?_
        refine V.inv cv_X11_139 (c_s_isUp (hx.2.2.1 12 rfl)) dX11_leans_72 ((hx.2.2.1 12 rfl).1 0 (8, 0) rfl) (by decide) rfl rfl rfl (Nat.le_of_ble_eq_true rfl) (by decide) (by decide) (Nat.le_refl _) (Nat.le_refl _) (fun _ _ hq => ?_)
        obtain ⟨rfl, rfl⟩ := hq
        refine V.if_eq 128 dX11_leans_75 (by decide) (fun c15 => ?_) (fun c15 => ?_)
        · rw [if_pos c15] at hf
          refine V.iinc (v := (l6 + 1)) dX11_leans_128 rfl rfl (by first | exact rfl | exact trivial) ?_
          refine V.goto 48 dX11_leans_131 (by decide) ?_
          exact V.lo [(0, some (.ref x)), (1, some (.int g1)), (2, some (.int g2)), (3, some (.int g3)), (4, some (.int g4)), (5, some (.int l5)), (6, some (.int (l6 + 1)))] (by simp only [Subs]; repeat' first | exact trivial | constructor | rfl) (ih _ _ _ hf hk)
        · rw [if_neg c15] at hf
          refine V.aload_n dX11_leans_78 rfl ?_
          refine V.getr fl_X11_62 dX11_leans_79 (hx.1 0 (11, 0) rfl) (hx.2.1 0 12 101 rfl) (by decide) rfl ?_
          refine V.aload_n dX11_leans_82 rfl ?_
          refine V.getr fl_X11_30 dX11_leans_83 (hx.1 0 (11, 0) rfl) (hx.2.1 0 4 12 rfl) (by decide) rfl ?_
          obtain ⟨I18, hk17, hf⟩ := bnd_some hf
          try dsimp only at hf
          refine V.inv cv_X11_174 (c_s_copyFrom (hx.2.2.1 101 rfl) (hx.2.2.1 12 rfl) hk17) dX11_leans_86 ((hx.2.2.1 101 rfl).1 0 (8, 0) rfl) (by decide) rfl rfl rfl (Nat.le_of_ble_eq_true rfl) (by decide) (by decide) (Nat.le_refl _) (Nat.le_refl _) (fun _ _ hq => ?_)
          obtain ⟨rfl, rfl⟩ := hq
          refine V.aload_n dX11_leans_89 rfl ?_
          refine V.getr fl_X11_62 dX11_leans_90 (hx.1 0 (11, 0) rfl) (hx.2.1 0 12 101 rfl) (by decide) rfl ?_
          refine V.iload dX11_leans_93 rfl ?_
          obtain ⟨I21, hk20, hf⟩ := bnd_some hf
          try dsimp only at hf
          refine V.inv cv_X11_261 (c_s_seat (hx.2.2.1 101 rfl) hk20) dX11_leans_95 ((hx.2.2.1 101 rfl).1 0 (8, 0) rfl) (by decide) rfl rfl rfl (Nat.le_of_ble_eq_true rfl) (by decide) (by decide) (Nat.le_refl _) (Nat.le_refl _) (fun _ _ hq => ?_)
          obtain ⟨rfl, rfl⟩ := hq
          refine V.aload_n dX11_leans_98 rfl ?_
          refine V.getr fl_X11_68 dX11_leans_99 (hx.1 0 (11, 0) rfl) (hx.2.1 0 13 108 rfl) (by decide) rfl ?_
          refine V.aload_n dX11_leans_102 rfl ?_
          refine V.getr fl_X11_23 dX11_leans_103 (hx.1 0 (11, 0) rfl) hc (by decide) rfl ?_
          refine V.aload_n dX11_leans_106 rfl ?_
          refine V.getr fl_X11_62 dX11_leans_107 (hx.1 0 (11, 0) rfl) (hx.2.1 0 12 101 rfl) (by decide) rfl ?_
          refine V.iload_n dX11_leans_110 rfl ?_
          obtain ⟨⟨u24, I25⟩, hk23, hf⟩ := bnd_some hf
          try dsimp only at hf
          refine V.inv cv_X11_277 (c_ni_minutesUp hx hs_c (hx.2.2.1 101 rfl) hk23) dX11_leans_111 (hx.1 108 (5, 0) rfl) (by decide) rfl rfl rfl (Nat.le_of_ble_eq_true rfl) (by decide) (by decide) (Nat.le_refl _) (Nat.le_refl _) (fun _ _ hq => ?_)
          obtain ⟨rfl, rfl⟩ := hq
          try dsimp only
          refine V.iload dX11_leans_114 rfl ?_
          refine V.icmp_ge 128 dX11_leans_116 (by decide) (fun c26 => ?_) (fun c26 => ?_)
          · rw [if_pos c26] at hf
            refine V.iinc (v := (l6 + 1)) dX11_leans_128 rfl rfl (by first | exact rfl | exact trivial) ?_
            refine V.goto 48 dX11_leans_131 (by decide) ?_
            exact V.lo [(0, some (.ref x)), (1, some (.int g1)), (2, some (.int g2)), (3, some (.int g3)), (4, some (.int g4)), (5, some (.int l5)), (6, some (.int (l6 + 1)))] (by simp only [Subs]; repeat' first | exact trivial | constructor | rfl) (ih _ _ _ hf hk)
          · rw [if_neg c26] at hf
            refine V.iload dX11_leans_119 rfl ?_
            refine V.iconst (v := 1) dX11_leans_121 (by decide) ?_
            refine V.iload dX11_leans_122 rfl ?_
            refine V.ishl dX11_leans_124 ?_
            refine V.ior dX11_leans_125 ?_
            refine V.istore dX11_leans_126 (by decide) (by first | exact rfl | exact trivial) ?_
            obtain ⟨x27, e28⟩ : ∃ zz_, zz_ = (l5 ||| (1 <<< (l6 &&& 31))) := ⟨_, rfl⟩
            rw [← e28] at hf ⊢
            try dsimp only at hf
            refine V.iinc (v := (l6 + 1)) dX11_leans_128 rfl rfl (by first | exact rfl | exact trivial) ?_
            refine V.goto 48 dX11_leans_131 (by decide) ?_
            exact V.lo [(0, some (.ref x)), (1, some (.int g1)), (2, some (.int g2)), (3, some (.int g3)), (4, some (.int g4)), (5, some (.int x27)), (6, some (.int (l6 + 1)))] (by simp only [Subs]; repeat' first | exact trivial | constructor | rfl) (ih _ _ _ hf hk)
theorem c_x_leans {l : Launch} {D : va_G} {E : Nat → ClassId} {B : Nat → Prop} {n F : Nat} {T : Nat → Option (Nat × Nat)} {I : Nat → Nat → Int32} {J : Nat → Nat → Int64} {P : Nat → Nat → Option Nat} {x : Nat} {c : Nat} {v1 : Int32} {v2 : Int32} {r : Int32 × (Nat → Nat → Int32)} (hx : isSR T P x) (hs_c : isCt T P c) (hc : P x 3 = some c) (hf : x_leans F T I J P x c v1 v2 = some r) : Ct l D E B yX11_leans cX11_leans 7 (some .int) 5 0 0 [.ref x, .int v1, .int v2] (n, T, I, J, P) (Ret (some (.int r.1)) (n, T, r.2, J, P)) := by
  unfold x_leans at hf
  refine Ct.ofV (by decide) (Nat.le_of_ble_eq_true rfl) ?_
  refine V.aload_n dX11_leans_0 rfl ?_
  refine V.iload_n dX11_leans_1 rfl ?_
  refine V.iload_n dX11_leans_2 rfl ?_
  obtain ⟨⟨u3, I4⟩, hk2, hf⟩ := bnd_some hf
  try dsimp only at hf
  refine V.inv cv_X11_274 (c_x_readNightOfOneUp hx hs_c hc hk2) dX11_leans_3 (hx.1 0 (11, 0) rfl) (by decide) rfl rfl rfl (Nat.le_of_ble_eq_true rfl) (by decide) (by decide) (Nat.le_refl _) (Nat.le_refl _) (fun _ _ hq => ?_)
  obtain ⟨rfl, rfl⟩ := hq
  try dsimp only
  refine V.istore_n dX11_leans_6 rfl (by decide) (by first | exact rfl | exact trivial) ?_
  refine V.iload_n dX11_leans_7 rfl ?_
  refine V.if_eq 13 dX11_leans_8 (by decide) (fun c5 => ?_) (fun c5 => ?_)
  · rw [if_pos c5] at hf
    refine V.aload_n dX11_leans_13 rfl ?_
    refine V.getr fl_X11_62 dX11_leans_14 (hx.1 0 (11, 0) rfl) (hx.2.1 0 12 101 rfl) (by decide) rfl ?_
    refine V.aload_n dX11_leans_17 rfl ?_
    refine V.getr fl_X11_30 dX11_leans_18 (hx.1 0 (11, 0) rfl) (hx.2.1 0 4 12 rfl) (by decide) rfl ?_
    obtain ⟨I8, hk7, hf⟩ := bnd_some hf
    try dsimp only at hf
    refine V.inv cv_X11_174 (c_s_copyFrom (hx.2.2.1 101 rfl) (hx.2.2.1 12 rfl) hk7) dX11_leans_21 ((hx.2.2.1 101 rfl).1 0 (8, 0) rfl) (by decide) rfl rfl rfl (Nat.le_of_ble_eq_true rfl) (by decide) (by decide) (Nat.le_refl _) (Nat.le_refl _) (fun _ _ hq => ?_)
    obtain ⟨rfl, rfl⟩ := hq
    refine V.aload_n dX11_leans_24 rfl ?_
    refine V.getr fl_X11_68 dX11_leans_25 (hx.1 0 (11, 0) rfl) (hx.2.1 0 13 108 rfl) (by decide) rfl ?_
    refine V.aload_n dX11_leans_28 rfl ?_
    refine V.getr fl_X11_23 dX11_leans_29 (hx.1 0 (11, 0) rfl) hc (by decide) rfl ?_
    refine V.aload_n dX11_leans_32 rfl ?_
    refine V.getr fl_X11_62 dX11_leans_33 (hx.1 0 (11, 0) rfl) (hx.2.1 0 12 101 rfl) (by decide) rfl ?_
    refine V.iload_n dX11_leans_36 rfl ?_
    obtain ⟨⟨u11, I12⟩, hk10, hf⟩ := bnd_some hf
    try dsimp only at hf
    refine V.inv cv_X11_277 (c_ni_minutesUp hx hs_c (hx.2.2.1 101 rfl) hk10) dX11_leans_37 (hx.1 108 (5, 0) rfl) (by decide) rfl rfl rfl (Nat.le_of_ble_eq_true rfl) (by decide) (by decide) (Nat.le_refl _) (Nat.le_refl _) (fun _ _ hq => ?_)
    obtain ⟨rfl, rfl⟩ := hq
    try dsimp only
    refine V.istore dX11_leans_40 (by decide) (by first | exact rfl | exact trivial) ?_
    refine V.iconst (v := 0) dX11_leans_42 (by decide) ?_
    refine V.istore dX11_leans_43 (by decide) (by first | exact rfl | exact trivial) ?_
    refine V.iconst (v := 0) dX11_leans_45 (by decide) ?_
    refine V.istore dX11_leans_46 (by decide) (by first | exact rfl | exact trivial) ?_
    obtain ⟨⟨m31, m32, I33⟩, hk30, hf⟩ := bnd_some hf
    try dsimp only at hf
    refine V.lo [(0, some (.ref x)), (1, some (.int v1)), (2, some (.int v2)), (3, some (.int u3)), (4, some (.int u11)), (5, some (.int 0)), (6, some (.int 0))] (by simp only [Subs]; repeat' first | exact trivial | constructor | rfl) (l_x_leans_48 hx hs_c hc _ F _ _ _ hk30 ?_)
    try dsimp only
    refine V.iload dX11_leans_134 rfl ?_
    obtain rfl := Option.some.inj hf
    exact V.iret dX11_leans_136 rfl (Nat.le_refl _) (Nat.le_refl _) ⟨rfl, rfl⟩
  · rw [if_neg c5] at hf
    refine V.iload_n dX11_leans_11 rfl ?_
    obtain rfl := Option.some.inj hf
    exact V.iret dX11_leans_12 rfl (Nat.le_refl _) (Nat.le_refl _) ⟨rfl, rfl⟩
theorem dX11_lastBySeating_0 : decode cX11_lastBySeating 0 = .ok (.aload_n 0, 1) := by decide +kernel
theorem dX11_lastBySeating_1 : decode cX11_lastBySeating 1 = .ok (.getfield 62, 3) := by decide +kernel
theorem dX11_lastBySeating_4 : decode cX11_lastBySeating 4 = .ok (.aload_n 0, 1) := by decide +kernel
theorem dX11_lastBySeating_5 : decode cX11_lastBySeating 5 = .ok (.getfield 30, 3) := by decide +kernel
theorem dX11_lastBySeating_8 : decode cX11_lastBySeating 8 = .ok (.invokevirtual 174, 3) := by decide +kernel
theorem dX11_lastBySeating_11 : decode cX11_lastBySeating 11 = .ok (.iconst 0, 1) := by decide +kernel
theorem dX11_lastBySeating_12 : decode cX11_lastBySeating 12 = .ok (.istore_n 3, 1) := by decide +kernel
theorem dX11_lastBySeating_13 : decode cX11_lastBySeating 13 = .ok (.iload_n 3, 1) := by decide +kernel
theorem dX11_lastBySeating_14 : decode cX11_lastBySeating 14 = .ok (.aload_n 0, 1) := by decide +kernel
theorem dX11_lastBySeating_15 : decode cX11_lastBySeating 15 = .ok (.getfield 23, 3) := by decide +kernel
theorem dX11_lastBySeating_18 : decode cX11_lastBySeating 18 = .ok (.getfield 168, 3) := by decide +kernel
theorem dX11_lastBySeating_21 : decode cX11_lastBySeating 21 = .ok (.if_icmp .ge 25, 3) := by decide +kernel
theorem dX11_lastBySeating_24 : decode cX11_lastBySeating 24 = .ok (.iload_n 2, 1) := by decide +kernel
theorem dX11_lastBySeating_25 : decode cX11_lastBySeating 25 = .ok (.iload_n 3, 1) := by decide +kernel
theorem dX11_lastBySeating_26 : decode cX11_lastBySeating 26 = .ok (.ishr, 1) := by decide +kernel
theorem dX11_lastBySeating_27 : decode cX11_lastBySeating 27 = .ok (.iconst 1, 1) := by decide +kernel
theorem dX11_lastBySeating_28 : decode cX11_lastBySeating 28 = .ok (.iand, 1) := by decide +kernel
theorem dX11_lastBySeating_29 : decode cX11_lastBySeating 29 = .ok (.ifCond .eq 11, 3) := by decide +kernel
theorem dX11_lastBySeating_32 : decode cX11_lastBySeating 32 = .ok (.aload_n 0, 1) := by decide +kernel
theorem dX11_lastBySeating_33 : decode cX11_lastBySeating 33 = .ok (.getfield 62, 3) := by decide +kernel
theorem dX11_lastBySeating_36 : decode cX11_lastBySeating 36 = .ok (.iload_n 3, 1) := by decide +kernel
theorem dX11_lastBySeating_37 : decode cX11_lastBySeating 37 = .ok (.invokevirtual 261, 3) := by decide +kernel
theorem dX11_lastBySeating_40 : decode cX11_lastBySeating 40 = .ok (.iinc 3 1, 3) := by decide +kernel
theorem dX11_lastBySeating_43 : decode cX11_lastBySeating 43 = .ok (.goto (-30), 3) := by decide +kernel
theorem dX11_lastBySeating_46 : decode cX11_lastBySeating 46 = .ok (.aload_n 0, 1) := by decide +kernel
theorem dX11_lastBySeating_47 : decode cX11_lastBySeating 47 = .ok (.getfield 68, 3) := by decide +kernel
theorem dX11_lastBySeating_50 : decode cX11_lastBySeating 50 = .ok (.aload_n 0, 1) := by decide +kernel
theorem dX11_lastBySeating_51 : decode cX11_lastBySeating 51 = .ok (.getfield 23, 3) := by decide +kernel
theorem dX11_lastBySeating_54 : decode cX11_lastBySeating 54 = .ok (.aload_n 0, 1) := by decide +kernel
theorem dX11_lastBySeating_55 : decode cX11_lastBySeating 55 = .ok (.getfield 62, 3) := by decide +kernel
theorem dX11_lastBySeating_58 : decode cX11_lastBySeating 58 = .ok (.invokevirtual 284, 3) := by decide +kernel
theorem dX11_lastBySeating_61 : decode cX11_lastBySeating 61 = .ok (.aload_n 0, 1) := by decide +kernel
theorem dX11_lastBySeating_62 : decode cX11_lastBySeating 62 = .ok (.getfield 62, 3) := by decide +kernel
theorem dX11_lastBySeating_65 : decode cX11_lastBySeating 65 = .ok (.invokevirtual 236, 3) := by decide +kernel
theorem dX11_lastBySeating_68 : decode cX11_lastBySeating 68 = .ok (.iload_n 1, 1) := by decide +kernel
theorem dX11_lastBySeating_69 : decode cX11_lastBySeating 69 = .ok (.if_icmp .ne 7, 3) := by decide +kernel
theorem dX11_lastBySeating_72 : decode cX11_lastBySeating 72 = .ok (.iconst 1, 1) := by decide +kernel
theorem dX11_lastBySeating_73 : decode cX11_lastBySeating 73 = .ok (.goto 4, 3) := by decide +kernel
theorem dX11_lastBySeating_76 : decode cX11_lastBySeating 76 = .ok (.iconst 0, 1) := by decide +kernel
theorem dX11_lastBySeating_77 : decode cX11_lastBySeating 77 = .ok (.ireturn, 1) := by decide +kernel
def x_lastBySeating_13 (F : Nat) (x : Nat) (c : Nat) (g1 : Int32) (g2 : Int32) : Nat → Int32 → (Nat → Nat → Int32) → Option (Int32 × (Nat → Nat → Int32))
  | 0, _, _ => none
  | k + 1, l3, I => if (I c 0) ≤ l3 then (some (l3, I)) else (if ((g2 >>> (l3 &&& 31)) &&& 1) = 0 then (x_lastBySeating_13 F x c g1 g2 k (l3 + 1) I) else ((s_seat I (x + 101) l3).bind (fun q6 => let I8 := q6; x_lastBySeating_13 F x c g1 g2 k (l3 + 1) I8)))
def x_lastBySeating (F : Nat) (T : Nat → Option (Nat × Nat)) (I : Nat → Nat → Int32) (P : Nat → Nat → Option Nat) (x : Nat) (c : Nat) (v1 : Int32) (v2 : Int32) : Option (Int32 × (Nat → Nat → Int32)) := (s_copyFrom I (x + 101) (x + 12)).bind (fun q1 => let I3 := q1; (x_lastBySeating_13 F x c v1 v2 F 0 I3).bind (fun q9 => let m11 := q9.1; let I12 := q9.2; (ni_playThrough F T I12 P x c (x + 101)).bind (fun q13 => let I15 := q13; (s_firstInPlace F I15 (x + 101)).bind (fun q16 => let u18 := q16; if u18 = v1 then (some (1, I15)) else (some (0, I15))))))
theorem l_x_lastBySeating_13 {l : Launch} {D : va_G} {E : Nat → ClassId} {B : Nat → Prop} {n F : Nat} {Q : Option Value → HT → Prop} {T : Nat → Option (Nat × Nat)} {J : Nat → Nat → Int64} {P : Nat → Nat → Option Nat} {x : Nat} {c : Nat} {g1 : Int32} {g2 : Int32} (hx : isSR T P x) (hs_c : isCt T P c) (hc : P x 3 = some c)  (r : Int32 × (Nat → Nat → Int32)) : ∀ (k : Nat) (l3 : Int32) (I : (Nat → Nat → Int32)), x_lastBySeating_13 F x c g1 g2 k l3 I = some r → V l D E B yX11_lastBySeating cX11_lastBySeating 4 (some .boolean) 5 0 0 Q 0 0 (n, T, r.2, J, P) 46 [(0, some (.ref x)), (1, some (.int g1)), (2, some (.int g2)), (3, some (.int (r.1)))] [] → V l D E B yX11_lastBySeating cX11_lastBySeating 4 (some .boolean) 5 0 0 Q 0 0 (n, T, I, J, P) 13 [(0, some (.ref x)), (1, some (.int g1)), (2, some (.int g2)), (3, some (.int l3))] [] := by
  intro k
  induction k with
  | zero =>
    intro l3 I hf hk
    cases hf
  | succ k ih =>
    intro l3 I hf hk
    unfold x_lastBySeating_13 at hf
    refine V.iload_n dX11_lastBySeating_13 rfl ?_
    refine V.aload_n dX11_lastBySeating_14 rfl ?_
    refine V.getr fl_X11_23 dX11_lastBySeating_15 (hx.1 0 (11, 0) rfl) hc (by decide) rfl ?_
    refine V.getf fl_X11_168 dX11_lastBySeating_18 (hs_c.1.1 0 (1, 0) rfl) (by decide) rfl ?_
    refine V.icmp_ge 46 dX11_lastBySeating_21 (by decide) (fun c4 => ?_) (fun c4 => ?_)
    · rw [if_pos c4] at hf
      obtain rfl := Option.some.inj hf
      exact V.lo [(0, some (.ref x)), (1, some (.int g1)), (2, some (.int g2)), (3, some (.int l3))] (by simp only [Subs]; repeat' first | exact trivial | constructor | rfl) hk
    · rw [if_neg c4] at hf
      refine V.iload_n dX11_lastBySeating_24 rfl ?_
      refine V.iload_n dX11_lastBySeating_25 rfl ?_
      refine V.ishr dX11_lastBySeating_26 ?_
      refine V.iconst (v := 1) dX11_lastBySeating_27 (by decide) ?_
      refine V.iand dX11_lastBySeating_28 ?_
      refine V.if_eq 40 dX11_lastBySeating_29 (by decide) (fun c5 => ?_) (fun c5 => ?_)
      · rw [if_pos c5] at hf
        refine V.iinc (v := (l3 + 1)) dX11_lastBySeating_40 rfl rfl (by first | exact rfl | exact trivial) ?_
        refine V.goto 13 dX11_lastBySeating_43 (by decide) ?_
        exact V.lo [(0, some (.ref x)), (1, some (.int g1)), (2, some (.int g2)), (3, some (.int (l3 + 1)))] (by simp only [Subs]; repeat' first | exact trivial | constructor | rfl) (ih _ _ hf hk)
      · rw [if_neg c5] at hf
        refine V.aload_n dX11_lastBySeating_32 rfl ?_
        refine V.getr fl_X11_62 dX11_lastBySeating_33 (hx.1 0 (11, 0) rfl) (hx.2.1 0 12 101 rfl) (by decide) rfl ?_
        refine V.iload_n dX11_lastBySeating_36 rfl ?_
        obtain ⟨I8, hk7, hf⟩ := bnd_some hf
        try dsimp only at hf
        refine V.inv cv_X11_261 (c_s_seat (hx.2.2.1 101 rfl) hk7) dX11_lastBySeating_37 ((hx.2.2.1 101 rfl).1 0 (8, 0) rfl) (by decide) rfl rfl rfl (Nat.le_of_ble_eq_true rfl) (by decide) (by decide) (Nat.le_refl _) (Nat.le_refl _) (fun _ _ hq => ?_)
        obtain ⟨rfl, rfl⟩ := hq
        refine V.iinc (v := (l3 + 1)) dX11_lastBySeating_40 rfl rfl (by first | exact rfl | exact trivial) ?_
        refine V.goto 13 dX11_lastBySeating_43 (by decide) ?_
        exact V.lo [(0, some (.ref x)), (1, some (.int g1)), (2, some (.int g2)), (3, some (.int (l3 + 1)))] (by simp only [Subs]; repeat' first | exact trivial | constructor | rfl) (ih _ _ hf hk)
theorem c_x_lastBySeating {l : Launch} {D : va_G} {E : Nat → ClassId} {B : Nat → Prop} {n F : Nat} {T : Nat → Option (Nat × Nat)} {I : Nat → Nat → Int32} {J : Nat → Nat → Int64} {P : Nat → Nat → Option Nat} {x : Nat} {c : Nat} {v1 : Int32} {v2 : Int32} {r : Int32 × (Nat → Nat → Int32)} (hx : isSR T P x) (hs_c : isCt T P c) (hc : P x 3 = some c) (hf : x_lastBySeating F T I P x c v1 v2 = some r) : Ct l D E B yX11_lastBySeating cX11_lastBySeating 4 (some .boolean) 5 0 0 [.ref x, .int v1, .int v2] (n, T, I, J, P) (Ret (some (.int r.1)) (n, T, r.2, J, P)) := by
  unfold x_lastBySeating at hf
  refine Ct.ofV (by decide) (Nat.le_of_ble_eq_true rfl) ?_
  refine V.aload_n dX11_lastBySeating_0 rfl ?_
  refine V.getr fl_X11_62 dX11_lastBySeating_1 (hx.1 0 (11, 0) rfl) (hx.2.1 0 12 101 rfl) (by decide) rfl ?_
  refine V.aload_n dX11_lastBySeating_4 rfl ?_
  refine V.getr fl_X11_30 dX11_lastBySeating_5 (hx.1 0 (11, 0) rfl) (hx.2.1 0 4 12 rfl) (by decide) rfl ?_
  obtain ⟨I3, hk2, hf⟩ := bnd_some hf
  try dsimp only at hf
  refine V.inv cv_X11_174 (c_s_copyFrom (hx.2.2.1 101 rfl) (hx.2.2.1 12 rfl) hk2) dX11_lastBySeating_8 ((hx.2.2.1 101 rfl).1 0 (8, 0) rfl) (by decide) rfl rfl rfl (Nat.le_of_ble_eq_true rfl) (by decide) (by decide) (Nat.le_refl _) (Nat.le_refl _) (fun _ _ hq => ?_)
  obtain ⟨rfl, rfl⟩ := hq
  refine V.iconst (v := 0) dX11_lastBySeating_11 (by decide) ?_
  refine V.istore_n dX11_lastBySeating_12 rfl (by decide) (by first | exact rfl | exact trivial) ?_
  obtain ⟨⟨m11, I12⟩, hk10, hf⟩ := bnd_some hf
  try dsimp only at hf
  refine V.lo [(0, some (.ref x)), (1, some (.int v1)), (2, some (.int v2)), (3, some (.int 0))] (by simp only [Subs]; repeat' first | exact trivial | constructor | rfl) (l_x_lastBySeating_13 hx hs_c hc _ F _ _ hk10 ?_)
  try dsimp only
  refine V.aload_n dX11_lastBySeating_46 rfl ?_
  refine V.getr fl_X11_68 dX11_lastBySeating_47 (hx.1 0 (11, 0) rfl) (hx.2.1 0 13 108 rfl) (by decide) rfl ?_
  refine V.aload_n dX11_lastBySeating_50 rfl ?_
  refine V.getr fl_X11_23 dX11_lastBySeating_51 (hx.1 0 (11, 0) rfl) hc (by decide) rfl ?_
  refine V.aload_n dX11_lastBySeating_54 rfl ?_
  refine V.getr fl_X11_62 dX11_lastBySeating_55 (hx.1 0 (11, 0) rfl) (hx.2.1 0 12 101 rfl) (by decide) rfl ?_
  obtain ⟨I15, hk14, hf⟩ := bnd_some hf
  try dsimp only at hf
  refine V.inv cv_X11_284 (c_ni_playThrough hx hs_c (hx.2.2.1 101 rfl) hk14) dX11_lastBySeating_58 (hx.1 108 (5, 0) rfl) (by decide) rfl rfl rfl (Nat.le_of_ble_eq_true rfl) (by decide) (by decide) (Nat.le_refl _) (Nat.le_refl _) (fun _ _ hq => ?_)
  obtain ⟨rfl, rfl⟩ := hq
  refine V.aload_n dX11_lastBySeating_61 rfl ?_
  refine V.getr fl_X11_62 dX11_lastBySeating_62 (hx.1 0 (11, 0) rfl) (hx.2.1 0 12 101 rfl) (by decide) rfl ?_
  obtain ⟨u18, hk17, hf⟩ := bnd_some hf
  try dsimp only at hf
  refine V.inv cv_X11_236 (c_s_firstInPlace (hx.2.2.1 101 rfl) hk17) dX11_lastBySeating_65 ((hx.2.2.1 101 rfl).1 0 (8, 0) rfl) (by decide) rfl rfl rfl (Nat.le_of_ble_eq_true rfl) (by decide) (by decide) (Nat.le_refl _) (Nat.le_refl _) (fun _ _ hq => ?_)
  obtain ⟨rfl, rfl⟩ := hq
  refine V.iload_n dX11_lastBySeating_68 rfl ?_
  refine V.icmp_ne 76 dX11_lastBySeating_69 (by decide) (fun c19 => ?_) (fun c19 => ?_)
  · rw [if_neg c19] at hf
    refine V.iconst (v := 0) dX11_lastBySeating_76 (by decide) ?_
    obtain rfl := Option.some.inj hf
    exact V.zret dX11_lastBySeating_77 rfl rfl (Nat.le_refl _) (Nat.le_refl _) ⟨rfl, rfl⟩
  · rw [if_pos c19] at hf
    refine V.iconst (v := 1) dX11_lastBySeating_72 (by decide) ?_
    refine V.goto 77 dX11_lastBySeating_73 (by decide) ?_
    obtain rfl := Option.some.inj hf
    exact V.zret dX11_lastBySeating_77 rfl rfl (Nat.le_refl _) (Nat.le_refl _) ⟨rfl, rfl⟩
theorem dX11_fewestChairs_0 : decode cX11_fewestChairs 0 = .ok (.aload_n 0, 1) := by decide +kernel
theorem dX11_fewestChairs_1 : decode cX11_fewestChairs 1 = .ok (.getfield 30, 3) := by decide +kernel
theorem dX11_fewestChairs_4 : decode cX11_fewestChairs 4 = .ok (.getfield 233, 3) := by decide +kernel
theorem dX11_fewestChairs_7 : decode cX11_fewestChairs 7 = .ok (.iconst 1, 1) := by decide +kernel
theorem dX11_fewestChairs_8 : decode cX11_fewestChairs 8 = .ok (.iload_n 1, 1) := by decide +kernel
theorem dX11_fewestChairs_9 : decode cX11_fewestChairs 9 = .ok (.ishl, 1) := by decide +kernel
theorem dX11_fewestChairs_10 : decode cX11_fewestChairs 10 = .ok (.iconst (-1), 1) := by decide +kernel
theorem dX11_fewestChairs_11 : decode cX11_fewestChairs 11 = .ok (.ixor, 1) := by decide +kernel
theorem dX11_fewestChairs_12 : decode cX11_fewestChairs 12 = .ok (.iand, 1) := by decide +kernel
theorem dX11_fewestChairs_13 : decode cX11_fewestChairs 13 = .ok (.istore_n 2, 1) := by decide +kernel
theorem dX11_fewestChairs_14 : decode cX11_fewestChairs 14 = .ok (.iconst 0, 1) := by decide +kernel
theorem dX11_fewestChairs_15 : decode cX11_fewestChairs 15 = .ok (.istore_n 3, 1) := by decide +kernel
theorem dX11_fewestChairs_16 : decode cX11_fewestChairs 16 = .ok (.iload_n 3, 1) := by decide +kernel
theorem dX11_fewestChairs_17 : decode cX11_fewestChairs 17 = .ok (.bipush 6, 2) := by decide +kernel
theorem dX11_fewestChairs_19 : decode cX11_fewestChairs 19 = .ok (.if_icmp .ge 56, 3) := by decide +kernel
theorem dX11_fewestChairs_22 : decode cX11_fewestChairs 22 = .ok (.iconst 0, 1) := by decide +kernel
theorem dX11_fewestChairs_23 : decode cX11_fewestChairs 23 = .ok (.istore 4, 2) := by decide +kernel
theorem dX11_fewestChairs_25 : decode cX11_fewestChairs 25 = .ok (.iload 4, 2) := by decide +kernel
theorem dX11_fewestChairs_27 : decode cX11_fewestChairs 27 = .ok (.bipush 64, 2) := by decide +kernel
theorem dX11_fewestChairs_29 : decode cX11_fewestChairs 29 = .ok (.if_icmp .ge 40, 3) := by decide +kernel
theorem dX11_fewestChairs_32 : decode cX11_fewestChairs 32 = .ok (.iload 4, 2) := by decide +kernel
theorem dX11_fewestChairs_34 : decode cX11_fewestChairs 34 = .ok (.invokestatic 352, 3) := by decide +kernel
theorem dX11_fewestChairs_37 : decode cX11_fewestChairs 37 = .ok (.iload_n 3, 1) := by decide +kernel
theorem dX11_fewestChairs_38 : decode cX11_fewestChairs 38 = .ok (.if_icmp .ne 25, 3) := by decide +kernel
theorem dX11_fewestChairs_41 : decode cX11_fewestChairs 41 = .ok (.iload 4, 2) := by decide +kernel
theorem dX11_fewestChairs_43 : decode cX11_fewestChairs 43 = .ok (.iload_n 2, 1) := by decide +kernel
theorem dX11_fewestChairs_44 : decode cX11_fewestChairs 44 = .ok (.iconst (-1), 1) := by decide +kernel
theorem dX11_fewestChairs_45 : decode cX11_fewestChairs 45 = .ok (.ixor, 1) := by decide +kernel
theorem dX11_fewestChairs_46 : decode cX11_fewestChairs 46 = .ok (.iand, 1) := by decide +kernel
theorem dX11_fewestChairs_47 : decode cX11_fewestChairs 47 = .ok (.ifCond .ne 16, 3) := by decide +kernel
theorem dX11_fewestChairs_50 : decode cX11_fewestChairs 50 = .ok (.aload_n 0, 1) := by decide +kernel
theorem dX11_fewestChairs_51 : decode cX11_fewestChairs 51 = .ok (.iload_n 1, 1) := by decide +kernel
theorem dX11_fewestChairs_52 : decode cX11_fewestChairs 52 = .ok (.iload 4, 2) := by decide +kernel
theorem dX11_fewestChairs_54 : decode cX11_fewestChairs 54 = .ok (.invokevirtual 357, 3) := by decide +kernel
theorem dX11_fewestChairs_57 : decode cX11_fewestChairs 57 = .ok (.ifCond .eq 6, 3) := by decide +kernel
theorem dX11_fewestChairs_60 : decode cX11_fewestChairs 60 = .ok (.iload 4, 2) := by decide +kernel
theorem dX11_fewestChairs_62 : decode cX11_fewestChairs 62 = .ok (.ireturn, 1) := by decide +kernel
theorem dX11_fewestChairs_63 : decode cX11_fewestChairs 63 = .ok (.iinc 4 1, 3) := by decide +kernel
theorem dX11_fewestChairs_66 : decode cX11_fewestChairs 66 = .ok (.goto (-41), 3) := by decide +kernel
theorem dX11_fewestChairs_69 : decode cX11_fewestChairs 69 = .ok (.iinc 3 1, 3) := by decide +kernel
theorem dX11_fewestChairs_72 : decode cX11_fewestChairs 72 = .ok (.goto (-56), 3) := by decide +kernel
theorem dX11_fewestChairs_75 : decode cX11_fewestChairs 75 = .ok (.iconst (-1), 1) := by decide +kernel
theorem dX11_fewestChairs_76 : decode cX11_fewestChairs 76 = .ok (.ireturn, 1) := by decide +kernel
def x_fewestChairs_25 (F : Nat) (T : Nat → Option (Nat × Nat)) (P : Nat → Nat → Option Nat) (x : Nat) (c : Nat) (g1 : Int32) (g2 : Int32) (g3 : Int32) : Nat → Int32 → (Nat → Nat → Int32) → Option ((Int32 × (Nat → Nat → Int32)) ⊕ (Int32 × (Nat → Nat → Int32)))
  | 0, _, _ => none
  | k + 1, l4, I => if 64 ≤ l4 then (some (.inr (l4, I))) else (if (bitCount l4) = g3 then (if (l4 &&& (g2 ^^^ (-1))) = 0 then ((x_lastBySeating F T I P x c g1 l4).bind (fun q7 => let u9 := q7.1; let I10 := q7.2; if u9 = 0 then (x_fewestChairs_25 F T P x c g1 g2 g3 k (l4 + 1) I10) else (some (.inl (l4, I10))))) else (x_fewestChairs_25 F T P x c g1 g2 g3 k (l4 + 1) I)) else (x_fewestChairs_25 F T P x c g1 g2 g3 k (l4 + 1) I))
def x_fewestChairs_16 (F : Nat) (T : Nat → Option (Nat × Nat)) (P : Nat → Nat → Option Nat) (x : Nat) (c : Nat) (g1 : Int32) (g2 : Int32) : Nat → Int32 → (Nat → Nat → Int32) → Option ((Int32 × (Nat → Nat → Int32)) ⊕ (Int32 × (Nat → Nat → Int32)))
  | 0, _, _ => none
  | k + 1, l3, I => if 6 ≤ l3 then (some (.inr (l3, I))) else ((x_fewestChairs_25 F T P x c g1 g2 l3 F 0 I).bind (fun q12 => match q12 with | .inl r0 => some (.inl r0) | .inr q0 => let m14 := q0.1; let I15 := q0.2; x_fewestChairs_16 F T P x c g1 g2 k (l3 + 1) I15))
def x_fewestChairs (F : Nat) (T : Nat → Option (Nat × Nat)) (I : Nat → Nat → Int32) (P : Nat → Nat → Option Nat) (x : Nat) (c : Nat) (v1 : Int32) : Option (Int32 × (Nat → Nat → Int32)) := let x1 := ((I (x + 12) 1) &&& ((1 <<< (v1 &&& 31)) ^^^ (-1))); (x_fewestChairs_16 F T P x c v1 x1 F 0 I).bind (fun q16 => match q16 with | .inl r0 => some r0 | .inr q0 => let m18 := q0.1; let I19 := q0.2; some ((-1), I19))
theorem l_x_fewestChairs_25 {l : Launch} {D : va_G} {E : Nat → ClassId} {B : Nat → Prop} {n F : Nat} {Q : Option Value → HT → Prop} {T : Nat → Option (Nat × Nat)} {J : Nat → Nat → Int64} {P : Nat → Nat → Option Nat} {x : Nat} {c : Nat} {g1 : Int32} {g2 : Int32} {g3 : Int32} (hx : isSR T P x) (hs_c : isCt T P c) (hc : P x 3 = some c)  (r : (Int32 × (Nat → Nat → Int32)) ⊕ (Int32 × (Nat → Nat → Int32))) : ∀ (k : Nat) (l4 : Int32) (I : (Nat → Nat → Int32)), x_fewestChairs_25 F T P x c g1 g2 g3 k l4 I = some r → (match r with | .inl r => Q (some (.int r.1)) (n, T, r.2, J, P) | .inr r => V l D E B yX11_fewestChairs cX11_fewestChairs 5 (some .int) 6 0 0 Q 0 0 (n, T, r.2, J, P) 69 [(0, some (.ref x)), (1, some (.int g1)), (2, some (.int g2)), (3, some (.int g3)), (4, some (.int (r.1)))] []) → V l D E B yX11_fewestChairs cX11_fewestChairs 5 (some .int) 6 0 0 Q 0 0 (n, T, I, J, P) 25 [(0, some (.ref x)), (1, some (.int g1)), (2, some (.int g2)), (3, some (.int g3)), (4, some (.int l4))] [] := by
  intro k
  induction k with
  | zero =>
    intro l4 I hf hk
    cases hf
  | succ k ih =>
    intro l4 I hf hk
    unfold x_fewestChairs_25 at hf
    refine V.iload dX11_fewestChairs_25 rfl ?_
    refine V.bipush (v := 64) dX11_fewestChairs_27 (by decide) ?_
    refine V.icmp_ge 69 dX11_fewestChairs_29 (by decide) (fun c4 => ?_) (fun c4 => ?_)
    · rw [if_pos c4] at hf
      obtain rfl := Option.some.inj hf
      exact V.lo [(0, some (.ref x)), (1, some (.int g1)), (2, some (.int g2)), (3, some (.int g3)), (4, some (.int l4))] (by simp only [Subs]; repeat' first | exact trivial | constructor | rfl) hk
    · rw [if_neg c4] at hf
      refine V.iload dX11_fewestChairs_32 rfl ?_
      refine V.ins cs_X11_352 (c_bitCount) dX11_fewestChairs_34 rfl rfl (Nat.le_of_ble_eq_true rfl) (by decide) (by decide) (Nat.le_refl _) (Nat.le_refl _) (fun _ _ hq => ?_)
      obtain ⟨rfl, rfl⟩ := hq
      refine V.iload_n dX11_fewestChairs_37 rfl ?_
      refine V.icmp_ne 63 dX11_fewestChairs_38 (by decide) (fun c5 => ?_) (fun c5 => ?_)
      · rw [if_neg c5] at hf
        refine V.iinc (v := (l4 + 1)) dX11_fewestChairs_63 rfl rfl (by first | exact rfl | exact trivial) ?_
        refine V.goto 25 dX11_fewestChairs_66 (by decide) ?_
        exact V.lo [(0, some (.ref x)), (1, some (.int g1)), (2, some (.int g2)), (3, some (.int g3)), (4, some (.int (l4 + 1)))] (by simp only [Subs]; repeat' first | exact trivial | constructor | rfl) (ih _ _ hf hk)
      · rw [if_pos c5] at hf
        refine V.iload dX11_fewestChairs_41 rfl ?_
        refine V.iload_n dX11_fewestChairs_43 rfl ?_
        refine V.iconst (v := -1) dX11_fewestChairs_44 (by decide) ?_
        refine V.ixor dX11_fewestChairs_45 ?_
        refine V.iand dX11_fewestChairs_46 ?_
        refine V.if_ne 63 dX11_fewestChairs_47 (by decide) (fun c6 => ?_) (fun c6 => ?_)
        · rw [if_neg c6] at hf
          refine V.iinc (v := (l4 + 1)) dX11_fewestChairs_63 rfl rfl (by first | exact rfl | exact trivial) ?_
          refine V.goto 25 dX11_fewestChairs_66 (by decide) ?_
          exact V.lo [(0, some (.ref x)), (1, some (.int g1)), (2, some (.int g2)), (3, some (.int g3)), (4, some (.int (l4 + 1)))] (by simp only [Subs]; repeat' first | exact trivial | constructor | rfl) (ih _ _ hf hk)
        · rw [if_pos c6] at hf
          refine V.aload_n dX11_fewestChairs_50 rfl ?_
          refine V.iload_n dX11_fewestChairs_51 rfl ?_
          refine V.iload dX11_fewestChairs_52 rfl ?_
          obtain ⟨⟨u9, I10⟩, hk8, hf⟩ := bnd_some hf
          try dsimp only at hf
          refine V.inv cv_X11_357 (c_x_lastBySeating hx hs_c hc hk8) dX11_fewestChairs_54 (hx.1 0 (11, 0) rfl) (by decide) rfl rfl rfl (Nat.le_of_ble_eq_true rfl) (by decide) (by decide) (Nat.le_refl _) (Nat.le_refl _) (fun _ _ hq => ?_)
          obtain ⟨rfl, rfl⟩ := hq
          try dsimp only
          refine V.if_eq 63 dX11_fewestChairs_57 (by decide) (fun c11 => ?_) (fun c11 => ?_)
          · rw [if_pos c11] at hf
            refine V.iinc (v := (l4 + 1)) dX11_fewestChairs_63 rfl rfl (by first | exact rfl | exact trivial) ?_
            refine V.goto 25 dX11_fewestChairs_66 (by decide) ?_
            exact V.lo [(0, some (.ref x)), (1, some (.int g1)), (2, some (.int g2)), (3, some (.int g3)), (4, some (.int (l4 + 1)))] (by simp only [Subs]; repeat' first | exact trivial | constructor | rfl) (ih _ _ hf hk)
          · rw [if_neg c11] at hf
            refine V.iload dX11_fewestChairs_60 rfl ?_
            obtain rfl := Option.some.inj hf
            exact V.iret dX11_fewestChairs_62 rfl (Nat.le_refl _) (Nat.le_refl _) hk
theorem l_x_fewestChairs_16 {l : Launch} {D : va_G} {E : Nat → ClassId} {B : Nat → Prop} {n F : Nat} {Q : Option Value → HT → Prop} {T : Nat → Option (Nat × Nat)} {J : Nat → Nat → Int64} {P : Nat → Nat → Option Nat} {x : Nat} {c : Nat} {g1 : Int32} {g2 : Int32} (hx : isSR T P x) (hs_c : isCt T P c) (hc : P x 3 = some c)  (r : (Int32 × (Nat → Nat → Int32)) ⊕ (Int32 × (Nat → Nat → Int32))) : ∀ (k : Nat) (l3 : Int32) (I : (Nat → Nat → Int32)), x_fewestChairs_16 F T P x c g1 g2 k l3 I = some r → (match r with | .inl r => Q (some (.int r.1)) (n, T, r.2, J, P) | .inr r => V l D E B yX11_fewestChairs cX11_fewestChairs 5 (some .int) 6 0 0 Q 0 0 (n, T, r.2, J, P) 75 [(0, some (.ref x)), (1, some (.int g1)), (2, some (.int g2)), (3, some (.int (r.1)))] []) → V l D E B yX11_fewestChairs cX11_fewestChairs 5 (some .int) 6 0 0 Q 0 0 (n, T, I, J, P) 16 [(0, some (.ref x)), (1, some (.int g1)), (2, some (.int g2)), (3, some (.int l3))] [] := by
  intro k
  induction k with
  | zero =>
    intro l3 I hf hk
    cases hf
  | succ k ih =>
    intro l3 I hf hk
    unfold x_fewestChairs_16 at hf
    refine V.iload_n dX11_fewestChairs_16 rfl ?_
    refine V.bipush (v := 6) dX11_fewestChairs_17 (by decide) ?_
    refine V.icmp_ge 75 dX11_fewestChairs_19 (by decide) (fun c3 => ?_) (fun c3 => ?_)
    · rw [if_pos c3] at hf
      obtain rfl := Option.some.inj hf
      exact V.lo [(0, some (.ref x)), (1, some (.int g1)), (2, some (.int g2)), (3, some (.int l3))] (by simp only [Subs]; repeat' first | exact trivial | constructor | rfl) hk
    · rw [if_neg c3] at hf
      refine V.iconst (v := 0) dX11_fewestChairs_22 (by decide) ?_
      refine V.istore dX11_fewestChairs_23 (by decide) (by first | exact rfl | exact trivial) ?_
      obtain ⟨q12, hk13, hf⟩ := bnd_some hf
      refine V.lo [(0, some (.ref x)), (1, some (.int g1)), (2, some (.int g2)), (3, some (.int l3)), (4, some (.int 0))] (by simp only [Subs]; repeat' first | exact trivial | constructor | rfl) (l_x_fewestChairs_25 hx hs_c hc q12 F _ _ hk13 ?_)
      rcases q12 with r0 | ⟨m14, I15⟩
      · try dsimp only at hf ⊢
        obtain rfl := Option.some.inj hf
        exact hk
      · try dsimp only at hf ⊢
        refine V.iinc (v := (l3 + 1)) dX11_fewestChairs_69 rfl rfl (by first | exact rfl | exact trivial) ?_
        refine V.goto 16 dX11_fewestChairs_72 (by decide) ?_
        exact V.lo [(0, some (.ref x)), (1, some (.int g1)), (2, some (.int g2)), (3, some (.int (l3 + 1)))] (by simp only [Subs]; repeat' first | exact trivial | constructor | rfl) (ih _ _ hf hk)
theorem c_x_fewestChairs {l : Launch} {D : va_G} {E : Nat → ClassId} {B : Nat → Prop} {n F : Nat} {T : Nat → Option (Nat × Nat)} {I : Nat → Nat → Int32} {J : Nat → Nat → Int64} {P : Nat → Nat → Option Nat} {x : Nat} {c : Nat} {v1 : Int32} {r : Int32 × (Nat → Nat → Int32)} (hx : isSR T P x) (hs_c : isCt T P c) (hc : P x 3 = some c) (hf : x_fewestChairs F T I P x c v1 = some r) : Ct l D E B yX11_fewestChairs cX11_fewestChairs 5 (some .int) 6 0 0 [.ref x, .int v1] (n, T, I, J, P) (Ret (some (.int r.1)) (n, T, r.2, J, P)) := by
  unfold x_fewestChairs at hf
  refine Ct.ofV (by decide) (Nat.le_of_ble_eq_true rfl) ?_
  refine V.aload_n dX11_fewestChairs_0 rfl ?_
  refine V.getr fl_X11_30 dX11_fewestChairs_1 (hx.1 0 (11, 0) rfl) (hx.2.1 0 4 12 rfl) (by decide) rfl ?_
  refine V.getf fl_X11_233 dX11_fewestChairs_4 ((hx.2.2.1 12 rfl).1 0 (8, 0) rfl) (by decide) rfl ?_
  refine V.iconst (v := 1) dX11_fewestChairs_7 (by decide) ?_
  refine V.iload_n dX11_fewestChairs_8 rfl ?_
  refine V.ishl dX11_fewestChairs_9 ?_
  refine V.iconst (v := -1) dX11_fewestChairs_10 (by decide) ?_
  refine V.ixor dX11_fewestChairs_11 ?_
  refine V.iand dX11_fewestChairs_12 ?_
  refine V.istore_n dX11_fewestChairs_13 rfl (by decide) (by first | exact rfl | exact trivial) ?_
  obtain ⟨x1, e2⟩ : ∃ zz_, zz_ = ((I (x + 12) 1) &&& ((1 <<< (v1 &&& 31)) ^^^ (-1))) := ⟨_, rfl⟩
  rw [← e2] at hf ⊢
  try dsimp only at hf
  refine V.iconst (v := 0) dX11_fewestChairs_14 (by decide) ?_
  refine V.istore_n dX11_fewestChairs_15 rfl (by decide) (by first | exact rfl | exact trivial) ?_
  obtain ⟨q16, hk17, hf⟩ := bnd_some hf
  refine V.lo [(0, some (.ref x)), (1, some (.int v1)), (2, some (.int x1)), (3, some (.int 0))] (by simp only [Subs]; repeat' first | exact trivial | constructor | rfl) (l_x_fewestChairs_16 hx hs_c hc q16 F _ _ hk17 ?_)
  rcases q16 with r0 | ⟨m18, I19⟩
  · try dsimp only at hf ⊢
    obtain rfl := Option.some.inj hf
    exact ⟨rfl, rfl⟩
  · try dsimp only at hf ⊢
    refine V.iconst (v := -1) dX11_fewestChairs_75 (by decide) ?_
    obtain rfl := Option.some.inj hf
    exact V.iret dX11_fewestChairs_76 rfl (Nat.le_refl _) (Nat.le_refl _) ⟨rfl, rfl⟩
theorem dX11_chairs_0 : decode cX11_chairs 0 = .ok (.iload_n 3, 1) := by decide +kernel
theorem dX11_chairs_1 : decode cX11_chairs 1 = .ok (.ifCond .lt 8, 3) := by decide +kernel
theorem dX11_chairs_4 : decode cX11_chairs 4 = .ok (.iload_n 3, 1) := by decide +kernel
theorem dX11_chairs_5 : decode cX11_chairs 5 = .ok (.iconst 1, 1) := by decide +kernel
theorem dX11_chairs_6 : decode cX11_chairs 6 = .ok (.if_icmp .le 6, 3) := by decide +kernel
theorem dX11_chairs_9 : decode cX11_chairs 9 = .ok (.bipush (-2), 2) := by decide +kernel
theorem dX11_chairs_11 : decode cX11_chairs 11 = .ok (.ireturn, 1) := by decide +kernel
theorem dX11_chairs_12 : decode cX11_chairs 12 = .ok (.aload_n 0, 1) := by decide +kernel
theorem dX11_chairs_13 : decode cX11_chairs 13 = .ok (.iload_n 1, 1) := by decide +kernel
theorem dX11_chairs_14 : decode cX11_chairs 14 = .ok (.iload_n 2, 1) := by decide +kernel
theorem dX11_chairs_15 : decode cX11_chairs 15 = .ok (.invokevirtual 274, 3) := by decide +kernel
theorem dX11_chairs_18 : decode cX11_chairs 18 = .ok (.istore 4, 2) := by decide +kernel
theorem dX11_chairs_20 : decode cX11_chairs 20 = .ok (.iload 4, 2) := by decide +kernel
theorem dX11_chairs_22 : decode cX11_chairs 22 = .ok (.ifCond .eq 6, 3) := by decide +kernel
theorem dX11_chairs_25 : decode cX11_chairs 25 = .ok (.iload 4, 2) := by decide +kernel
theorem dX11_chairs_27 : decode cX11_chairs 27 = .ok (.ireturn, 1) := by decide +kernel
theorem dX11_chairs_28 : decode cX11_chairs 28 = .ok (.aload_n 0, 1) := by decide +kernel
theorem dX11_chairs_29 : decode cX11_chairs 29 = .ok (.iload_n 2, 1) := by decide +kernel
theorem dX11_chairs_30 : decode cX11_chairs 30 = .ok (.invokevirtual 349, 3) := by decide +kernel
theorem dX11_chairs_33 : decode cX11_chairs 33 = .ok (.istore 5, 2) := by decide +kernel
theorem dX11_chairs_35 : decode cX11_chairs 35 = .ok (.iload 5, 2) := by decide +kernel
theorem dX11_chairs_37 : decode cX11_chairs 37 = .ok (.iconst (-1), 1) := by decide +kernel
theorem dX11_chairs_38 : decode cX11_chairs 38 = .ok (.if_icmp .ne 5, 3) := by decide +kernel
theorem dX11_chairs_41 : decode cX11_chairs 41 = .ok (.iconst (-1), 1) := by decide +kernel
theorem dX11_chairs_42 : decode cX11_chairs 42 = .ok (.ireturn, 1) := by decide +kernel
theorem dX11_chairs_43 : decode cX11_chairs 43 = .ok (.iload_n 3, 1) := by decide +kernel
theorem dX11_chairs_44 : decode cX11_chairs 44 = .ok (.ifCond .ne 11, 3) := by decide +kernel
theorem dX11_chairs_47 : decode cX11_chairs 47 = .ok (.iload 5, 2) := by decide +kernel
theorem dX11_chairs_49 : decode cX11_chairs 49 = .ok (.invokestatic 352, 3) := by decide +kernel
theorem dX11_chairs_52 : decode cX11_chairs 52 = .ok (.goto 5, 3) := by decide +kernel
theorem dX11_chairs_55 : decode cX11_chairs 55 = .ok (.iload 5, 2) := by decide +kernel
theorem dX11_chairs_57 : decode cX11_chairs 57 = .ok (.ireturn, 1) := by decide +kernel
def x_chairs (F : Nat) (T : Nat → Option (Nat × Nat)) (I : Nat → Nat → Int32) (J : Nat → Nat → Int64) (P : Nat → Nat → Option Nat) (x : Nat) (c : Nat) (v1 : Int32) (v2 : Int32) (v3 : Int32) : Option (Int32 × (Nat → Nat → Int32)) := if v3 < 0 then (some ((-2), I)) else (if v3 ≤ 1 then ((x_readNightOfOneUp F I J x c v1 v2).bind (fun q3 => let u5 := q3.1; let I6 := q3.2; if u5 = 0 then ((x_fewestChairs F T I6 P x c v2).bind (fun q8 => let u10 := q8.1; let I11 := q8.2; if u10 = (-1) then (some ((-1), I11)) else (if v3 = 0 then (some ((bitCount u10), I11)) else (some (u10, I11))))) else (some (u5, I6)))) else (some ((-2), I)))
theorem c_x_chairs {l : Launch} {D : va_G} {E : Nat → ClassId} {B : Nat → Prop} {n F : Nat} {T : Nat → Option (Nat × Nat)} {I : Nat → Nat → Int32} {J : Nat → Nat → Int64} {P : Nat → Nat → Option Nat} {x : Nat} {c : Nat} {v1 : Int32} {v2 : Int32} {v3 : Int32} {r : Int32 × (Nat → Nat → Int32)} (hx : isSR T P x) (hs_c : isCt T P c) (hc : P x 3 = some c) (hf : x_chairs F T I J P x c v1 v2 v3 = some r) : Ct l D E B yX11_chairs cX11_chairs 6 (some .int) 7 0 0 [.ref x, .int v1, .int v2, .int v3] (n, T, I, J, P) (Ret (some (.int r.1)) (n, T, r.2, J, P)) := by
  unfold x_chairs at hf
  refine Ct.ofV (by decide) (Nat.le_of_ble_eq_true rfl) ?_
  refine V.iload_n dX11_chairs_0 rfl ?_
  refine V.if_lt 9 dX11_chairs_1 (by decide) (fun c1 => ?_) (fun c1 => ?_)
  · rw [if_pos c1] at hf
    refine V.bipush (v := -2) dX11_chairs_9 (by decide) ?_
    obtain rfl := Option.some.inj hf
    exact V.iret dX11_chairs_11 rfl (Nat.le_refl _) (Nat.le_refl _) ⟨rfl, rfl⟩
  · rw [if_neg c1] at hf
    refine V.iload_n dX11_chairs_4 rfl ?_
    refine V.iconst (v := 1) dX11_chairs_5 (by decide) ?_
    refine V.icmp_le 12 dX11_chairs_6 (by decide) (fun c2 => ?_) (fun c2 => ?_)
    · rw [if_pos c2] at hf
      refine V.aload_n dX11_chairs_12 rfl ?_
      refine V.iload_n dX11_chairs_13 rfl ?_
      refine V.iload_n dX11_chairs_14 rfl ?_
      obtain ⟨⟨u5, I6⟩, hk4, hf⟩ := bnd_some hf
      try dsimp only at hf
      refine V.inv cv_X11_274 (c_x_readNightOfOneUp hx hs_c hc hk4) dX11_chairs_15 (hx.1 0 (11, 0) rfl) (by decide) rfl rfl rfl (Nat.le_of_ble_eq_true rfl) (by decide) (by decide) (Nat.le_refl _) (Nat.le_refl _) (fun _ _ hq => ?_)
      obtain ⟨rfl, rfl⟩ := hq
      try dsimp only
      refine V.istore dX11_chairs_18 (by decide) (by first | exact rfl | exact trivial) ?_
      refine V.iload dX11_chairs_20 rfl ?_
      refine V.if_eq 28 dX11_chairs_22 (by decide) (fun c7 => ?_) (fun c7 => ?_)
      · rw [if_pos c7] at hf
        refine V.aload_n dX11_chairs_28 rfl ?_
        refine V.iload_n dX11_chairs_29 rfl ?_
        obtain ⟨⟨u10, I11⟩, hk9, hf⟩ := bnd_some hf
        try dsimp only at hf
        refine V.inv cv_X11_349 (c_x_fewestChairs hx hs_c hc hk9) dX11_chairs_30 (hx.1 0 (11, 0) rfl) (by decide) rfl rfl rfl (Nat.le_of_ble_eq_true rfl) (by decide) (by decide) (Nat.le_refl _) (Nat.le_refl _) (fun _ _ hq => ?_)
        obtain ⟨rfl, rfl⟩ := hq
        try dsimp only
        refine V.istore dX11_chairs_33 (by decide) (by first | exact rfl | exact trivial) ?_
        refine V.iload dX11_chairs_35 rfl ?_
        refine V.iconst (v := -1) dX11_chairs_37 (by decide) ?_
        refine V.icmp_ne 43 dX11_chairs_38 (by decide) (fun c12 => ?_) (fun c12 => ?_)
        · rw [if_neg c12] at hf
          refine V.iload_n dX11_chairs_43 rfl ?_
          refine V.if_ne 55 dX11_chairs_44 (by decide) (fun c13 => ?_) (fun c13 => ?_)
          · rw [if_neg c13] at hf
            refine V.iload dX11_chairs_55 rfl ?_
            obtain rfl := Option.some.inj hf
            exact V.iret dX11_chairs_57 rfl (Nat.le_refl _) (Nat.le_refl _) ⟨rfl, rfl⟩
          · rw [if_pos c13] at hf
            refine V.iload dX11_chairs_47 rfl ?_
            refine V.ins cs_X11_352 (c_bitCount) dX11_chairs_49 rfl rfl (Nat.le_of_ble_eq_true rfl) (by decide) (by decide) (Nat.le_refl _) (Nat.le_refl _) (fun _ _ hq => ?_)
            obtain ⟨rfl, rfl⟩ := hq
            refine V.goto 57 dX11_chairs_52 (by decide) ?_
            obtain rfl := Option.some.inj hf
            exact V.iret dX11_chairs_57 rfl (Nat.le_refl _) (Nat.le_refl _) ⟨rfl, rfl⟩
        · rw [if_pos c12] at hf
          refine V.iconst (v := -1) dX11_chairs_41 (by decide) ?_
          obtain rfl := Option.some.inj hf
          exact V.iret dX11_chairs_42 rfl (Nat.le_refl _) (Nat.le_refl _) ⟨rfl, rfl⟩
      · rw [if_neg c7] at hf
        refine V.iload dX11_chairs_25 rfl ?_
        obtain rfl := Option.some.inj hf
        exact V.iret dX11_chairs_27 rfl (Nat.le_refl _) (Nat.le_refl _) ⟨rfl, rfl⟩
    · rw [if_neg c2] at hf
      refine V.bipush (v := -2) dX11_chairs_9 (by decide) ?_
      obtain rfl := Option.some.inj hf
      exact V.iret dX11_chairs_11 rfl (Nat.le_refl _) (Nat.le_refl _) ⟨rfl, rfl⟩
theorem dX11_findRooms_0 : decode cX11_findRooms 0 = .ok (.iconst 0, 1) := by decide +kernel
theorem dX11_findRooms_1 : decode cX11_findRooms 1 = .ok (.istore_n 3, 1) := by decide +kernel
theorem dX11_findRooms_2 : decode cX11_findRooms 2 = .ok (.iconst 0, 1) := by decide +kernel
theorem dX11_findRooms_3 : decode cX11_findRooms 3 = .ok (.istore 4, 2) := by decide +kernel
theorem dX11_findRooms_5 : decode cX11_findRooms 5 = .ok (.iload 4, 2) := by decide +kernel
theorem dX11_findRooms_7 : decode cX11_findRooms 7 = .ok (.bipush 99, 2) := by decide +kernel
theorem dX11_findRooms_9 : decode cX11_findRooms 9 = .ok (.if_icmp .gt 98, 3) := by decide +kernel
theorem dX11_findRooms_12 : decode cX11_findRooms 12 = .ok (.aload_n 0, 1) := by decide +kernel
theorem dX11_findRooms_13 : decode cX11_findRooms 13 = .ok (.getfield 62, 3) := by decide +kernel
theorem dX11_findRooms_16 : decode cX11_findRooms 16 = .ok (.aload_n 0, 1) := by decide +kernel
theorem dX11_findRooms_17 : decode cX11_findRooms 17 = .ok (.getfield 30, 3) := by decide +kernel
theorem dX11_findRooms_20 : decode cX11_findRooms 20 = .ok (.invokevirtual 174, 3) := by decide +kernel
theorem dX11_findRooms_23 : decode cX11_findRooms 23 = .ok (.aload_n 0, 1) := by decide +kernel
theorem dX11_findRooms_24 : decode cX11_findRooms 24 = .ok (.getfield 62, 3) := by decide +kernel
theorem dX11_findRooms_27 : decode cX11_findRooms 27 = .ok (.getfield 132, 3) := by decide +kernel
theorem dX11_findRooms_30 : decode cX11_findRooms 30 = .ok (.iload_n 1, 1) := by decide +kernel
theorem dX11_findRooms_31 : decode cX11_findRooms 31 = .ok (.iload 4, 2) := by decide +kernel
theorem dX11_findRooms_33 : decode cX11_findRooms 33 = .ok (.iastore, 1) := by decide +kernel
theorem dX11_findRooms_34 : decode cX11_findRooms 34 = .ok (.aload_n 0, 1) := by decide +kernel
theorem dX11_findRooms_35 : decode cX11_findRooms 35 = .ok (.getfield 68, 3) := by decide +kernel
theorem dX11_findRooms_38 : decode cX11_findRooms 38 = .ok (.aload_n 0, 1) := by decide +kernel
theorem dX11_findRooms_39 : decode cX11_findRooms 39 = .ok (.getfield 23, 3) := by decide +kernel
theorem dX11_findRooms_42 : decode cX11_findRooms 42 = .ok (.aload_n 0, 1) := by decide +kernel
theorem dX11_findRooms_43 : decode cX11_findRooms 43 = .ok (.getfield 62, 3) := by decide +kernel
theorem dX11_findRooms_46 : decode cX11_findRooms 46 = .ok (.iload_n 1, 1) := by decide +kernel
theorem dX11_findRooms_47 : decode cX11_findRooms 47 = .ok (.invokevirtual 277, 3) := by decide +kernel
theorem dX11_findRooms_50 : decode cX11_findRooms 50 = .ok (.istore 5, 2) := by decide +kernel
theorem dX11_findRooms_52 : decode cX11_findRooms 52 = .ok (.iload 5, 2) := by decide +kernel
theorem dX11_findRooms_54 : decode cX11_findRooms 54 = .ok (.aload_n 0, 1) := by decide +kernel
theorem dX11_findRooms_55 : decode cX11_findRooms 55 = .ok (.getfield 68, 3) := by decide +kernel
theorem dX11_findRooms_58 : decode cX11_findRooms 58 = .ok (.getfield 295, 3) := by decide +kernel
theorem dX11_findRooms_61 : decode cX11_findRooms 61 = .ok (.if_icmp .ne 7, 3) := by decide +kernel
theorem dX11_findRooms_64 : decode cX11_findRooms 64 = .ok (.iconst 0, 1) := by decide +kernel
theorem dX11_findRooms_65 : decode cX11_findRooms 65 = .ok (.goto 7, 3) := by decide +kernel
theorem dX11_findRooms_68 : decode cX11_findRooms 68 = .ok (.iload 5, 2) := by decide +kernel
theorem dX11_findRooms_70 : decode cX11_findRooms 70 = .ok (.iconst 1, 1) := by decide +kernel
theorem dX11_findRooms_71 : decode cX11_findRooms 71 = .ok (.iadd, 1) := by decide +kernel
theorem dX11_findRooms_72 : decode cX11_findRooms 72 = .ok (.istore 6, 2) := by decide +kernel
theorem dX11_findRooms_74 : decode cX11_findRooms 74 = .ok (.aload_n 0, 1) := by decide +kernel
theorem dX11_findRooms_75 : decode cX11_findRooms 75 = .ok (.getfield 79, 3) := by decide +kernel
theorem dX11_findRooms_78 : decode cX11_findRooms 78 = .ok (.iload 4, 2) := by decide +kernel
theorem dX11_findRooms_80 : decode cX11_findRooms 80 = .ok (.iload 6, 2) := by decide +kernel
theorem dX11_findRooms_82 : decode cX11_findRooms 82 = .ok (.iload_n 2, 1) := by decide +kernel
theorem dX11_findRooms_83 : decode cX11_findRooms 83 = .ok (.if_icmp .ne 7, 3) := by decide +kernel
theorem dX11_findRooms_86 : decode cX11_findRooms 86 = .ok (.iconst 1, 1) := by decide +kernel
theorem dX11_findRooms_87 : decode cX11_findRooms 87 = .ok (.goto 4, 3) := by decide +kernel
theorem dX11_findRooms_90 : decode cX11_findRooms 90 = .ok (.iconst 0, 1) := by decide +kernel
theorem dX11_findRooms_91 : decode cX11_findRooms 91 = .ok (.bastore, 1) := by decide +kernel
theorem dX11_findRooms_92 : decode cX11_findRooms 92 = .ok (.iload 6, 2) := by decide +kernel
theorem dX11_findRooms_94 : decode cX11_findRooms 94 = .ok (.iload_n 2, 1) := by decide +kernel
theorem dX11_findRooms_95 : decode cX11_findRooms 95 = .ok (.if_icmp .ne 6, 3) := by decide +kernel
theorem dX11_findRooms_98 : decode cX11_findRooms 98 = .ok (.iinc 3 1, 3) := by decide +kernel
theorem dX11_findRooms_101 : decode cX11_findRooms 101 = .ok (.iinc 4 1, 3) := by decide +kernel
theorem dX11_findRooms_104 : decode cX11_findRooms 104 = .ok (.goto (-99), 3) := by decide +kernel
theorem dX11_findRooms_107 : decode cX11_findRooms 107 = .ok (.iload_n 3, 1) := by decide +kernel
theorem dX11_findRooms_108 : decode cX11_findRooms 108 = .ok (.ireturn, 1) := by decide +kernel
def x_findRooms_5 (F : Nat) (T : Nat → Option (Nat × Nat)) (P : Nat → Nat → Option Nat) (x : Nat) (c : Nat) (g1 : Int32) (g2 : Int32) : Nat → Int32 → Int32 → (Nat → Nat → Int32) → Option (Int32 × Int32 × (Nat → Nat → Int32))
  | 0, _, _, _ => none
  | k + 1, l3, l4, I => if 99 < l4 then (some (l3, l4, I)) else ((s_copyFrom I (x + 101) (x + 12)).bind (fun q2 => let I4 := q2; chk g1 6 (let I6 := uI I4 ((x + 101) + 1) (Int32.toNatClampNeg g1) l4; (ni_minutesUp F T I6 P x c (x + 101) g1).bind (fun q8 => let u10 := q8.1; let I11 := q8.2; if u10 = (I11 (x + 108) 1) then (if 0 = g2 then (chk l4 100 (let I30 := uI I11 (x + 134) (Int32.toNatClampNeg l4) (vp_nar .boolean 1); if 0 = g2 then (x_findRooms_5 F T P x c g1 g2 k (l3 + 1) (l4 + 1) I30) else (x_findRooms_5 F T P x c g1 g2 k l3 (l4 + 1) I30))) else (chk l4 100 (let I26 := uI I11 (x + 134) (Int32.toNatClampNeg l4) (vp_nar .boolean 0); if 0 = g2 then (x_findRooms_5 F T P x c g1 g2 k (l3 + 1) (l4 + 1) I26) else (x_findRooms_5 F T P x c g1 g2 k l3 (l4 + 1) I26)))) else (let x13 := (u10 + 1); if x13 = g2 then (chk l4 100 (let I21 := uI I11 (x + 134) (Int32.toNatClampNeg l4) (vp_nar .boolean 1); if x13 = g2 then (x_findRooms_5 F T P x c g1 g2 k (l3 + 1) (l4 + 1) I21) else (x_findRooms_5 F T P x c g1 g2 k l3 (l4 + 1) I21))) else (chk l4 100 (let I17 := uI I11 (x + 134) (Int32.toNatClampNeg l4) (vp_nar .boolean 0); if x13 = g2 then (x_findRooms_5 F T P x c g1 g2 k (l3 + 1) (l4 + 1) I17) else (x_findRooms_5 F T P x c g1 g2 k l3 (l4 + 1) I17))))))))
def x_findRooms (F : Nat) (T : Nat → Option (Nat × Nat)) (I : Nat → Nat → Int32) (P : Nat → Nat → Option Nat) (x : Nat) (c : Nat) (v1 : Int32) (v2 : Int32) : Option (Int32 × (Nat → Nat → Int32)) := (x_findRooms_5 F T P x c v1 v2 F 0 0 I).bind (fun q33 => let m35 := q33.1; let m36 := q33.2.1; let I37 := q33.2.2; some (m35, I37))
theorem l_x_findRooms_5 {l : Launch} {D : va_G} {E : Nat → ClassId} {B : Nat → Prop} {n F : Nat} {Q : Option Value → HT → Prop} {T : Nat → Option (Nat × Nat)} {J : Nat → Nat → Int64} {P : Nat → Nat → Option Nat} {x : Nat} {c : Nat} {g1 : Int32} {g2 : Int32} (hx : isSR T P x) (hs_c : isCt T P c) (hc : P x 3 = some c)  (r : Int32 × Int32 × (Nat → Nat → Int32)) : ∀ (k : Nat) (l3 : Int32) (l4 : Int32) (I : (Nat → Nat → Int32)), x_findRooms_5 F T P x c g1 g2 k l3 l4 I = some r → V l D E B yX11_findRooms cX11_findRooms 7 (some .int) 5 0 0 Q 0 0 (n, T, r.2.2, J, P) 107 [(0, some (.ref x)), (1, some (.int g1)), (2, some (.int g2)), (3, some (.int (r.1))), (4, some (.int (r.2.1)))] [] → V l D E B yX11_findRooms cX11_findRooms 7 (some .int) 5 0 0 Q 0 0 (n, T, I, J, P) 5 [(0, some (.ref x)), (1, some (.int g1)), (2, some (.int g2)), (3, some (.int l3)), (4, some (.int l4))] [] := by
  intro k
  induction k with
  | zero =>
    intro l3 l4 I hf hk
    cases hf
  | succ k ih =>
    intro l3 l4 I hf hk
    unfold x_findRooms_5 at hf
    refine V.iload dX11_findRooms_5 rfl ?_
    refine V.bipush (v := 99) dX11_findRooms_7 (by decide) ?_
    refine V.icmp_gt 107 dX11_findRooms_9 (by decide) (fun c1 => ?_) (fun c1 => ?_)
    · rw [if_pos c1] at hf
      obtain rfl := Option.some.inj hf
      exact V.lo [(0, some (.ref x)), (1, some (.int g1)), (2, some (.int g2)), (3, some (.int l3)), (4, some (.int l4))] (by simp only [Subs]; repeat' first | exact trivial | constructor | rfl) hk
    · rw [if_neg c1] at hf
      refine V.aload_n dX11_findRooms_12 rfl ?_
      refine V.getr fl_X11_62 dX11_findRooms_13 (hx.1 0 (11, 0) rfl) (hx.2.1 0 12 101 rfl) (by decide) rfl ?_
      refine V.aload_n dX11_findRooms_16 rfl ?_
      refine V.getr fl_X11_30 dX11_findRooms_17 (hx.1 0 (11, 0) rfl) (hx.2.1 0 4 12 rfl) (by decide) rfl ?_
      obtain ⟨I4, hk3, hf⟩ := bnd_some hf
      try dsimp only at hf
      refine V.inv cv_X11_174 (c_s_copyFrom (hx.2.2.1 101 rfl) (hx.2.2.1 12 rfl) hk3) dX11_findRooms_20 ((hx.2.2.1 101 rfl).1 0 (8, 0) rfl) (by decide) rfl rfl rfl (Nat.le_of_ble_eq_true rfl) (by decide) (by decide) (Nat.le_refl _) (Nat.le_refl _) (fun _ _ hq => ?_)
      obtain ⟨rfl, rfl⟩ := hq
      refine V.aload_n dX11_findRooms_23 rfl ?_
      refine V.getr fl_X11_62 dX11_findRooms_24 (hx.1 0 (11, 0) rfl) (hx.2.1 0 12 101 rfl) (by decide) rfl ?_
      refine V.getr fl_X11_132 dX11_findRooms_27 ((hx.2.2.1 101 rfl).1 0 (8, 0) rfl) ((hx.2.2.1 101 rfl).2 0 4 1 rfl) (by decide) rfl ?_
      refine V.iload_n dX11_findRooms_30 rfl ?_
      refine V.iload dX11_findRooms_31 rfl ?_
      obtain ⟨hb5, hf⟩ := chk_some hf
      refine V.iastE dX11_findRooms_33 ((hx.2.2.1 101 rfl).1 1 (20, 6) rfl) hb5 (fun I6 e7 => ?_)
      rw [← e7] at hf
      try dsimp only at hf
      clear e7
      refine V.aload_n dX11_findRooms_34 rfl ?_
      refine V.getr fl_X11_68 dX11_findRooms_35 (hx.1 0 (11, 0) rfl) (hx.2.1 0 13 108 rfl) (by decide) rfl ?_
      refine V.aload_n dX11_findRooms_38 rfl ?_
      refine V.getr fl_X11_23 dX11_findRooms_39 (hx.1 0 (11, 0) rfl) hc (by decide) rfl ?_
      refine V.aload_n dX11_findRooms_42 rfl ?_
      refine V.getr fl_X11_62 dX11_findRooms_43 (hx.1 0 (11, 0) rfl) (hx.2.1 0 12 101 rfl) (by decide) rfl ?_
      refine V.iload_n dX11_findRooms_46 rfl ?_
      obtain ⟨⟨u10, I11⟩, hk9, hf⟩ := bnd_some hf
      try dsimp only at hf
      refine V.inv cv_X11_277 (c_ni_minutesUp hx hs_c (hx.2.2.1 101 rfl) hk9) dX11_findRooms_47 (hx.1 108 (5, 0) rfl) (by decide) rfl rfl rfl (Nat.le_of_ble_eq_true rfl) (by decide) (by decide) (Nat.le_refl _) (Nat.le_refl _) (fun _ _ hq => ?_)
      obtain ⟨rfl, rfl⟩ := hq
      try dsimp only
      refine V.istore dX11_findRooms_50 (by decide) (by first | exact rfl | exact trivial) ?_
      refine V.iload dX11_findRooms_52 rfl ?_
      refine V.aload_n dX11_findRooms_54 rfl ?_
      refine V.getr fl_X11_68 dX11_findRooms_55 (hx.1 0 (11, 0) rfl) (hx.2.1 0 13 108 rfl) (by decide) rfl ?_
      refine V.getf fl_X11_295 dX11_findRooms_58 (hx.1 108 (5, 0) rfl) (by decide) rfl ?_
      refine V.icmp_ne 68 dX11_findRooms_61 (by decide) (fun c12 => ?_) (fun c12 => ?_)
      · rw [if_neg c12] at hf
        refine V.iload dX11_findRooms_68 rfl ?_
        refine V.iconst (v := 1) dX11_findRooms_70 (by decide) ?_
        refine V.iadd dX11_findRooms_71 ?_
        refine V.istore dX11_findRooms_72 (by decide) (by first | exact rfl | exact trivial) ?_
        obtain ⟨x13, e14⟩ : ∃ zz_, zz_ = (u10 + 1) := ⟨_, rfl⟩
        rw [← e14] at hf ⊢
        try dsimp only at hf
        refine V.aload_n dX11_findRooms_74 rfl ?_
        refine V.getr fl_X11_79 dX11_findRooms_75 (hx.1 0 (11, 0) rfl) (hx.2.1 0 17 134 rfl) (by decide) rfl ?_
        refine V.iload dX11_findRooms_78 rfl ?_
        refine V.iload dX11_findRooms_80 rfl ?_
        refine V.iload_n dX11_findRooms_82 rfl ?_
        refine V.icmp_ne 90 dX11_findRooms_83 (by decide) (fun c15 => ?_) (fun c15 => ?_)
        · rw [if_neg c15] at hf
          refine V.iconst (v := 0) dX11_findRooms_90 (by decide) ?_
          obtain ⟨hb16, hf⟩ := chk_some hf
          refine V.zastE dX11_findRooms_91 (hx.1 134 (23, 100) rfl) hb16 (fun I17 e18 => ?_)
          rw [← e18] at hf
          try dsimp only at hf
          clear e18
          refine V.iload dX11_findRooms_92 rfl ?_
          refine V.iload_n dX11_findRooms_94 rfl ?_
          refine V.icmp_ne 101 dX11_findRooms_95 (by decide) (fun c19 => ?_) (fun c19 => ?_)
          · rw [if_neg c19] at hf
            refine V.iinc (v := (l4 + 1)) dX11_findRooms_101 rfl rfl (by first | exact rfl | exact trivial) ?_
            refine V.goto 5 dX11_findRooms_104 (by decide) ?_
            exact V.lo [(0, some (.ref x)), (1, some (.int g1)), (2, some (.int g2)), (3, some (.int l3)), (4, some (.int (l4 + 1)))] (by simp only [Subs]; repeat' first | exact trivial | constructor | rfl) (ih _ _ _ hf hk)
          · rw [if_pos c19] at hf
            refine V.iinc (v := (l3 + 1)) dX11_findRooms_98 rfl rfl (by first | exact rfl | exact trivial) ?_
            refine V.iinc (v := (l4 + 1)) dX11_findRooms_101 rfl rfl (by first | exact rfl | exact trivial) ?_
            refine V.goto 5 dX11_findRooms_104 (by decide) ?_
            exact V.lo [(0, some (.ref x)), (1, some (.int g1)), (2, some (.int g2)), (3, some (.int (l3 + 1))), (4, some (.int (l4 + 1)))] (by simp only [Subs]; repeat' first | exact trivial | constructor | rfl) (ih _ _ _ hf hk)
        · rw [if_pos c15] at hf
          refine V.iconst (v := 1) dX11_findRooms_86 (by decide) ?_
          refine V.goto 91 dX11_findRooms_87 (by decide) ?_
          obtain ⟨hb20, hf⟩ := chk_some hf
          refine V.zastE dX11_findRooms_91 (hx.1 134 (23, 100) rfl) hb20 (fun I21 e22 => ?_)
          rw [← e22] at hf
          try dsimp only at hf
          clear e22
          refine V.iload dX11_findRooms_92 rfl ?_
          refine V.iload_n dX11_findRooms_94 rfl ?_
          refine V.icmp_ne 101 dX11_findRooms_95 (by decide) (fun c23 => ?_) (fun c23 => ?_)
          · rw [if_neg c23] at hf
            refine V.iinc (v := (l4 + 1)) dX11_findRooms_101 rfl rfl (by first | exact rfl | exact trivial) ?_
            refine V.goto 5 dX11_findRooms_104 (by decide) ?_
            exact V.lo [(0, some (.ref x)), (1, some (.int g1)), (2, some (.int g2)), (3, some (.int l3)), (4, some (.int (l4 + 1)))] (by simp only [Subs]; repeat' first | exact trivial | constructor | rfl) (ih _ _ _ hf hk)
          · rw [if_pos c23] at hf
            refine V.iinc (v := (l3 + 1)) dX11_findRooms_98 rfl rfl (by first | exact rfl | exact trivial) ?_
            refine V.iinc (v := (l4 + 1)) dX11_findRooms_101 rfl rfl (by first | exact rfl | exact trivial) ?_
            refine V.goto 5 dX11_findRooms_104 (by decide) ?_
            exact V.lo [(0, some (.ref x)), (1, some (.int g1)), (2, some (.int g2)), (3, some (.int (l3 + 1))), (4, some (.int (l4 + 1)))] (by simp only [Subs]; repeat' first | exact trivial | constructor | rfl) (ih _ _ _ hf hk)
      · rw [if_pos c12] at hf
        refine V.iconst (v := 0) dX11_findRooms_64 (by decide) ?_
        refine V.goto 72 dX11_findRooms_65 (by decide) ?_
        refine V.istore dX11_findRooms_72 (by decide) (by first | exact rfl | exact trivial) ?_
        refine V.aload_n dX11_findRooms_74 rfl ?_
        refine V.getr fl_X11_79 dX11_findRooms_75 (hx.1 0 (11, 0) rfl) (hx.2.1 0 17 134 rfl) (by decide) rfl ?_
        refine V.iload dX11_findRooms_78 rfl ?_
        refine V.iload dX11_findRooms_80 rfl ?_
        refine V.iload_n dX11_findRooms_82 rfl ?_
        refine V.icmp_ne 90 dX11_findRooms_83 (by decide) (fun c24 => ?_) (fun c24 => ?_)
        · rw [if_neg c24] at hf
          refine V.iconst (v := 0) dX11_findRooms_90 (by decide) ?_
          obtain ⟨hb25, hf⟩ := chk_some hf
          refine V.zastE dX11_findRooms_91 (hx.1 134 (23, 100) rfl) hb25 (fun I26 e27 => ?_)
          rw [← e27] at hf
          try dsimp only at hf
          clear e27
          refine V.iload dX11_findRooms_92 rfl ?_
          refine V.iload_n dX11_findRooms_94 rfl ?_
          refine V.icmp_ne 101 dX11_findRooms_95 (by decide) (fun c28 => ?_) (fun c28 => ?_)
          · rw [if_neg c28] at hf
            refine V.iinc (v := (l4 + 1)) dX11_findRooms_101 rfl rfl (by first | exact rfl | exact trivial) ?_
            refine V.goto 5 dX11_findRooms_104 (by decide) ?_
            exact V.lo [(0, some (.ref x)), (1, some (.int g1)), (2, some (.int g2)), (3, some (.int l3)), (4, some (.int (l4 + 1)))] (by simp only [Subs]; repeat' first | exact trivial | constructor | rfl) (ih _ _ _ hf hk)
          · rw [if_pos c28] at hf
            refine V.iinc (v := (l3 + 1)) dX11_findRooms_98 rfl rfl (by first | exact rfl | exact trivial) ?_
            refine V.iinc (v := (l4 + 1)) dX11_findRooms_101 rfl rfl (by first | exact rfl | exact trivial) ?_
            refine V.goto 5 dX11_findRooms_104 (by decide) ?_
            exact V.lo [(0, some (.ref x)), (1, some (.int g1)), (2, some (.int g2)), (3, some (.int (l3 + 1))), (4, some (.int (l4 + 1)))] (by simp only [Subs]; repeat' first | exact trivial | constructor | rfl) (ih _ _ _ hf hk)
        · rw [if_pos c24] at hf
          refine V.iconst (v := 1) dX11_findRooms_86 (by decide) ?_
          refine V.goto 91 dX11_findRooms_87 (by decide) ?_
          obtain ⟨hb29, hf⟩ := chk_some hf
          refine V.zastE dX11_findRooms_91 (hx.1 134 (23, 100) rfl) hb29 (fun I30 e31 => ?_)
          rw [← e31] at hf
          try dsimp only at hf
          clear e31
          refine V.iload dX11_findRooms_92 rfl ?_
          refine V.iload_n dX11_findRooms_94 rfl ?_
          refine V.icmp_ne 101 dX11_findRooms_95 (by decide) (fun c32 => ?_) (fun c32 => ?_)
          · rw [if_neg c32] at hf
            refine V.iinc (v := (l4 + 1)) dX11_findRooms_101 rfl rfl (by first | exact rfl | exact trivial) ?_
            refine V.goto 5 dX11_findRooms_104 (by decide) ?_
            exact V.lo [(0, some (.ref x)), (1, some (.int g1)), (2, some (.int g2)), (3, some (.int l3)), (4, some (.int (l4 + 1)))] (by simp only [Subs]; repeat' first | exact trivial | constructor | rfl) (ih _ _ _ hf hk)
          · rw [if_pos c32] at hf
            refine V.iinc (v := (l3 + 1)) dX11_findRooms_98 rfl rfl (by first | exact rfl | exact trivial) ?_
            refine V.iinc (v := (l4 + 1)) dX11_findRooms_101 rfl rfl (by first | exact rfl | exact trivial) ?_
            refine V.goto 5 dX11_findRooms_104 (by decide) ?_
            exact V.lo [(0, some (.ref x)), (1, some (.int g1)), (2, some (.int g2)), (3, some (.int (l3 + 1))), (4, some (.int (l4 + 1)))] (by simp only [Subs]; repeat' first | exact trivial | constructor | rfl) (ih _ _ _ hf hk)
theorem c_x_findRooms {l : Launch} {D : va_G} {E : Nat → ClassId} {B : Nat → Prop} {n F : Nat} {T : Nat → Option (Nat × Nat)} {I : Nat → Nat → Int32} {J : Nat → Nat → Int64} {P : Nat → Nat → Option Nat} {x : Nat} {c : Nat} {v1 : Int32} {v2 : Int32} {r : Int32 × (Nat → Nat → Int32)} (hx : isSR T P x) (hs_c : isCt T P c) (hc : P x 3 = some c) (hf : x_findRooms F T I P x c v1 v2 = some r) : Ct l D E B yX11_findRooms cX11_findRooms 7 (some .int) 5 0 0 [.ref x, .int v1, .int v2] (n, T, I, J, P) (Ret (some (.int r.1)) (n, T, r.2, J, P)) := by
  unfold x_findRooms at hf
  refine Ct.ofV (by decide) (Nat.le_of_ble_eq_true rfl) ?_
  refine V.iconst (v := 0) dX11_findRooms_0 (by decide) ?_
  refine V.istore_n dX11_findRooms_1 rfl (by decide) (by first | exact rfl | exact trivial) ?_
  refine V.iconst (v := 0) dX11_findRooms_2 (by decide) ?_
  refine V.istore dX11_findRooms_3 (by decide) (by first | exact rfl | exact trivial) ?_
  obtain ⟨⟨m35, m36, I37⟩, hk34, hf⟩ := bnd_some hf
  try dsimp only at hf
  refine V.lo [(0, some (.ref x)), (1, some (.int v1)), (2, some (.int v2)), (3, some (.int 0)), (4, some (.int 0))] (by simp only [Subs]; repeat' first | exact trivial | constructor | rfl) (l_x_findRooms_5 hx hs_c hc _ F _ _ _ hk34 ?_)
  try dsimp only
  refine V.iload_n dX11_findRooms_107 rfl ?_
  obtain rfl := Option.some.inj hf
  exact V.iret dX11_findRooms_108 rfl (Nat.le_refl _) (Nat.le_refl _) ⟨rfl, rfl⟩
theorem dX11_readRooms_0 : decode cX11_readRooms 0 = .ok (.aload_n 0, 1) := by decide +kernel
theorem dX11_readRooms_1 : decode cX11_readRooms 1 = .ok (.iload_n 1, 1) := by decide +kernel
theorem dX11_readRooms_2 : decode cX11_readRooms 2 = .ok (.iload_n 2, 1) := by decide +kernel
theorem dX11_readRooms_3 : decode cX11_readRooms 3 = .ok (.invokevirtual 281, 3) := by decide +kernel
theorem dX11_readRooms_6 : decode cX11_readRooms 6 = .ok (.istore 4, 2) := by decide +kernel
theorem dX11_readRooms_8 : decode cX11_readRooms 8 = .ok (.iload 4, 2) := by decide +kernel
theorem dX11_readRooms_10 : decode cX11_readRooms 10 = .ok (.ifCond .eq 6, 3) := by decide +kernel
theorem dX11_readRooms_13 : decode cX11_readRooms 13 = .ok (.iload 4, 2) := by decide +kernel
theorem dX11_readRooms_15 : decode cX11_readRooms 15 = .ok (.ireturn, 1) := by decide +kernel
theorem dX11_readRooms_16 : decode cX11_readRooms 16 = .ok (.iload_n 3, 1) := by decide +kernel
theorem dX11_readRooms_17 : decode cX11_readRooms 17 = .ok (.ifCond .lt 14, 3) := by decide +kernel
theorem dX11_readRooms_20 : decode cX11_readRooms 20 = .ok (.iload_n 3, 1) := by decide +kernel
theorem dX11_readRooms_21 : decode cX11_readRooms 21 = .ok (.aload_n 0, 1) := by decide +kernel
theorem dX11_readRooms_22 : decode cX11_readRooms 22 = .ok (.getfield 68, 3) := by decide +kernel
theorem dX11_readRooms_25 : decode cX11_readRooms 25 = .ok (.getfield 295, 3) := by decide +kernel
theorem dX11_readRooms_28 : decode cX11_readRooms 28 = .ok (.if_icmp .le 6, 3) := by decide +kernel
theorem dX11_readRooms_31 : decode cX11_readRooms 31 = .ok (.bipush (-3), 2) := by decide +kernel
theorem dX11_readRooms_33 : decode cX11_readRooms 33 = .ok (.ireturn, 1) := by decide +kernel
theorem dX11_readRooms_34 : decode cX11_readRooms 34 = .ok (.aload_n 0, 1) := by decide +kernel
theorem dX11_readRooms_35 : decode cX11_readRooms 35 = .ok (.getfield 30, 3) := by decide +kernel
theorem dX11_readRooms_38 : decode cX11_readRooms 38 = .ok (.iload_n 2, 1) := by decide +kernel
theorem dX11_readRooms_39 : decode cX11_readRooms 39 = .ok (.invokevirtual 139, 3) := by decide +kernel
theorem dX11_readRooms_42 : decode cX11_readRooms 42 = .ok (.ifCond .eq 7, 3) := by decide +kernel
theorem dX11_readRooms_45 : decode cX11_readRooms 45 = .ok (.iconst 0, 1) := by decide +kernel
theorem dX11_readRooms_46 : decode cX11_readRooms 46 = .ok (.goto 5, 3) := by decide +kernel
theorem dX11_readRooms_49 : decode cX11_readRooms 49 = .ok (.bipush (-5), 2) := by decide +kernel
theorem dX11_readRooms_51 : decode cX11_readRooms 51 = .ok (.ireturn, 1) := by decide +kernel
def x_readRooms (F : Nat) (I : Nat → Nat → Int32) (J : Nat → Nat → Int64) (x : Nat) (c : Nat) (v1 : Int32) (v2 : Int32) (v3 : Int32) : Option (Int32 × (Nat → Nat → Int32)) := (x_readNight F I J x c v1 v2).bind (fun q1 => let u3 := q1.1; let I4 := q1.2; if u3 = 0 then (if v3 < 0 then (some ((-3), I4)) else (if v3 ≤ (I4 (x + 108) 1) then (if (s_isUp I4 (x + 12) v2) = 0 then (some ((-5), I4)) else (some (0, I4))) else (some ((-3), I4)))) else (some (u3, I4)))
theorem c_x_readRooms {l : Launch} {D : va_G} {E : Nat → ClassId} {B : Nat → Prop} {n F : Nat} {T : Nat → Option (Nat × Nat)} {I : Nat → Nat → Int32} {J : Nat → Nat → Int64} {P : Nat → Nat → Option Nat} {x : Nat} {c : Nat} {v1 : Int32} {v2 : Int32} {v3 : Int32} {r : Int32 × (Nat → Nat → Int32)} (hx : isSR T P x) (hs_c : isCt T P c) (hc : P x 3 = some c) (hf : x_readRooms F I J x c v1 v2 v3 = some r) : Ct l D E B yX11_readRooms cX11_readRooms 5 (some .int) 3 0 0 [.ref x, .int v1, .int v2, .int v3] (n, T, I, J, P) (Ret (some (.int r.1)) (n, T, r.2, J, P)) := by
  unfold x_readRooms at hf
  refine Ct.ofV (by decide) (Nat.le_of_ble_eq_true rfl) ?_
  refine V.aload_n dX11_readRooms_0 rfl ?_
  refine V.iload_n dX11_readRooms_1 rfl ?_
  refine V.iload_n dX11_readRooms_2 rfl ?_
  obtain ⟨⟨u3, I4⟩, hk2, hf⟩ := bnd_some hf
  try dsimp only at hf
  refine V.inv cv_X11_281 (c_x_readNight hx hs_c hc hk2) dX11_readRooms_3 (hx.1 0 (11, 0) rfl) (by decide) rfl rfl rfl (Nat.le_of_ble_eq_true rfl) (by decide) (by decide) (Nat.le_refl _) (Nat.le_refl _) (fun _ _ hq => ?_)
  obtain ⟨rfl, rfl⟩ := hq
  try dsimp only
  refine V.istore dX11_readRooms_6 (by decide) (by first | exact rfl | exact trivial) ?_
  refine V.iload dX11_readRooms_8 rfl ?_
  refine V.if_eq 16 dX11_readRooms_10 (by decide) (fun c5 => ?_) (fun c5 => ?_)
  · rw [if_pos c5] at hf
    refine V.iload_n dX11_readRooms_16 rfl ?_
    refine V.if_lt 31 dX11_readRooms_17 (by decide) (fun c6 => ?_) (fun c6 => ?_)
    · rw [if_pos c6] at hf
      refine V.bipush (v := -3) dX11_readRooms_31 (by decide) ?_
      obtain rfl := Option.some.inj hf
      exact V.iret dX11_readRooms_33 rfl (Nat.le_refl _) (Nat.le_refl _) ⟨rfl, rfl⟩
    · rw [if_neg c6] at hf
      refine V.iload_n dX11_readRooms_20 rfl ?_
      refine V.aload_n dX11_readRooms_21 rfl ?_
      refine V.getr fl_X11_68 dX11_readRooms_22 (hx.1 0 (11, 0) rfl) (hx.2.1 0 13 108 rfl) (by decide) rfl ?_
      refine V.getf fl_X11_295 dX11_readRooms_25 (hx.1 108 (5, 0) rfl) (by decide) rfl ?_
      refine V.icmp_le 34 dX11_readRooms_28 (by decide) (fun c7 => ?_) (fun c7 => ?_)
      · rw [if_pos c7] at hf
        refine V.aload_n dX11_readRooms_34 rfl ?_
        refine V.getr fl_X11_30 dX11_readRooms_35 (hx.1 0 (11, 0) rfl) (hx.2.1 0 4 12 rfl) (by decide) rfl ?_
        refine V.iload_n dX11_readRooms_38 rfl ?_
        refine V.inv cv_X11_139 (c_s_isUp (hx.2.2.1 12 rfl)) dX11_readRooms_39 ((hx.2.2.1 12 rfl).1 0 (8, 0) rfl) (by decide) rfl rfl rfl (Nat.le_of_ble_eq_true rfl) (by decide) (by decide) (Nat.le_refl _) (Nat.le_refl _) (fun _ _ hq => ?_)
        obtain ⟨rfl, rfl⟩ := hq
        refine V.if_eq 49 dX11_readRooms_42 (by decide) (fun c8 => ?_) (fun c8 => ?_)
        · rw [if_pos c8] at hf
          refine V.bipush (v := -5) dX11_readRooms_49 (by decide) ?_
          obtain rfl := Option.some.inj hf
          exact V.iret dX11_readRooms_51 rfl (Nat.le_refl _) (Nat.le_refl _) ⟨rfl, rfl⟩
        · rw [if_neg c8] at hf
          refine V.iconst (v := 0) dX11_readRooms_45 (by decide) ?_
          refine V.goto 51 dX11_readRooms_46 (by decide) ?_
          obtain rfl := Option.some.inj hf
          exact V.iret dX11_readRooms_51 rfl (Nat.le_refl _) (Nat.le_refl _) ⟨rfl, rfl⟩
      · rw [if_neg c7] at hf
        refine V.bipush (v := -3) dX11_readRooms_31 (by decide) ?_
        obtain rfl := Option.some.inj hf
        exact V.iret dX11_readRooms_33 rfl (Nat.le_refl _) (Nat.le_refl _) ⟨rfl, rfl⟩
  · rw [if_neg c5] at hf
    refine V.iload dX11_readRooms_13 rfl ?_
    obtain rfl := Option.some.inj hf
    exact V.iret dX11_readRooms_15 rfl (Nat.le_refl _) (Nat.le_refl _) ⟨rfl, rfl⟩
theorem dX11_rooms_0 : decode cX11_rooms 0 = .ok (.aload_n 0, 1) := by decide +kernel
theorem dX11_rooms_1 : decode cX11_rooms 1 = .ok (.iload_n 1, 1) := by decide +kernel
theorem dX11_rooms_2 : decode cX11_rooms 2 = .ok (.iload_n 2, 1) := by decide +kernel
theorem dX11_rooms_3 : decode cX11_rooms 3 = .ok (.iload_n 3, 1) := by decide +kernel
theorem dX11_rooms_4 : decode cX11_rooms 4 = .ok (.invokevirtual 361, 3) := by decide +kernel
theorem dX11_rooms_7 : decode cX11_rooms 7 = .ok (.istore 4, 2) := by decide +kernel
theorem dX11_rooms_9 : decode cX11_rooms 9 = .ok (.iload 4, 2) := by decide +kernel
theorem dX11_rooms_11 : decode cX11_rooms 11 = .ok (.ifCond .eq 8, 3) := by decide +kernel
theorem dX11_rooms_14 : decode cX11_rooms 14 = .ok (.iload 4, 2) := by decide +kernel
theorem dX11_rooms_16 : decode cX11_rooms 16 = .ok (.goto 9, 3) := by decide +kernel
theorem dX11_rooms_19 : decode cX11_rooms 19 = .ok (.aload_n 0, 1) := by decide +kernel
theorem dX11_rooms_20 : decode cX11_rooms 20 = .ok (.iload_n 2, 1) := by decide +kernel
theorem dX11_rooms_21 : decode cX11_rooms 21 = .ok (.iload_n 3, 1) := by decide +kernel
theorem dX11_rooms_22 : decode cX11_rooms 22 = .ok (.invokevirtual 365, 3) := by decide +kernel
theorem dX11_rooms_25 : decode cX11_rooms 25 = .ok (.ireturn, 1) := by decide +kernel
def x_rooms (F : Nat) (T : Nat → Option (Nat × Nat)) (I : Nat → Nat → Int32) (J : Nat → Nat → Int64) (P : Nat → Nat → Option Nat) (x : Nat) (c : Nat) (v1 : Int32) (v2 : Int32) (v3 : Int32) : Option (Int32 × (Nat → Nat → Int32)) := (x_readRooms F I J x c v1 v2 v3).bind (fun q1 => let u3 := q1.1; let I4 := q1.2; if u3 = 0 then ((x_findRooms F T I4 P x c v2 v3).bind (fun q6 => let u8 := q6.1; let I9 := q6.2; some (u8, I9))) else (some (u3, I4)))
theorem c_x_rooms {l : Launch} {D : va_G} {E : Nat → ClassId} {B : Nat → Prop} {n F : Nat} {T : Nat → Option (Nat × Nat)} {I : Nat → Nat → Int32} {J : Nat → Nat → Int64} {P : Nat → Nat → Option Nat} {x : Nat} {c : Nat} {v1 : Int32} {v2 : Int32} {v3 : Int32} {r : Int32 × (Nat → Nat → Int32)} (hx : isSR T P x) (hs_c : isCt T P c) (hc : P x 3 = some c) (hf : x_rooms F T I J P x c v1 v2 v3 = some r) : Ct l D E B yX11_rooms cX11_rooms 5 (some .int) 6 0 0 [.ref x, .int v1, .int v2, .int v3] (n, T, I, J, P) (Ret (some (.int r.1)) (n, T, r.2, J, P)) := by
  unfold x_rooms at hf
  refine Ct.ofV (by decide) (Nat.le_of_ble_eq_true rfl) ?_
  refine V.aload_n dX11_rooms_0 rfl ?_
  refine V.iload_n dX11_rooms_1 rfl ?_
  refine V.iload_n dX11_rooms_2 rfl ?_
  refine V.iload_n dX11_rooms_3 rfl ?_
  obtain ⟨⟨u3, I4⟩, hk2, hf⟩ := bnd_some hf
  try dsimp only at hf
  refine V.inv cv_X11_361 (c_x_readRooms hx hs_c hc hk2) dX11_rooms_4 (hx.1 0 (11, 0) rfl) (by decide) rfl rfl rfl (Nat.le_of_ble_eq_true rfl) (by decide) (by decide) (Nat.le_refl _) (Nat.le_refl _) (fun _ _ hq => ?_)
  obtain ⟨rfl, rfl⟩ := hq
  try dsimp only
  refine V.istore dX11_rooms_7 (by decide) (by first | exact rfl | exact trivial) ?_
  refine V.iload dX11_rooms_9 rfl ?_
  refine V.if_eq 19 dX11_rooms_11 (by decide) (fun c5 => ?_) (fun c5 => ?_)
  · rw [if_pos c5] at hf
    refine V.aload_n dX11_rooms_19 rfl ?_
    refine V.iload_n dX11_rooms_20 rfl ?_
    refine V.iload_n dX11_rooms_21 rfl ?_
    obtain ⟨⟨u8, I9⟩, hk7, hf⟩ := bnd_some hf
    try dsimp only at hf
    refine V.inv cv_X11_365 (c_x_findRooms hx hs_c hc hk7) dX11_rooms_22 (hx.1 0 (11, 0) rfl) (by decide) rfl rfl rfl (Nat.le_of_ble_eq_true rfl) (by decide) (by decide) (Nat.le_refl _) (Nat.le_refl _) (fun _ _ hq => ?_)
    obtain ⟨rfl, rfl⟩ := hq
    try dsimp only
    obtain rfl := Option.some.inj hf
    exact V.iret dX11_rooms_25 rfl (Nat.le_refl _) (Nat.le_refl _) ⟨rfl, rfl⟩
  · rw [if_neg c5] at hf
    refine V.iload dX11_rooms_14 rfl ?_
    refine V.goto 25 dX11_rooms_16 (by decide) ?_
    obtain rfl := Option.some.inj hf
    exact V.iret dX11_rooms_25 rfl (Nat.le_refl _) (Nat.le_refl _) ⟨rfl, rfl⟩
theorem dX11_bound_0 : decode cX11_bound 0 = .ok (.iload 4, 2) := by decide +kernel
theorem dX11_bound_2 : decode cX11_bound 2 = .ok (.ifCond .lt 9, 3) := by decide +kernel
theorem dX11_bound_5 : decode cX11_bound 5 = .ok (.iload 4, 2) := by decide +kernel
theorem dX11_bound_7 : decode cX11_bound 7 = .ok (.iconst 1, 1) := by decide +kernel
theorem dX11_bound_8 : decode cX11_bound 8 = .ok (.if_icmp .le 6, 3) := by decide +kernel
theorem dX11_bound_11 : decode cX11_bound 11 = .ok (.bipush (-2), 2) := by decide +kernel
theorem dX11_bound_13 : decode cX11_bound 13 = .ok (.ireturn, 1) := by decide +kernel
theorem dX11_bound_14 : decode cX11_bound 14 = .ok (.aload_n 0, 1) := by decide +kernel
theorem dX11_bound_15 : decode cX11_bound 15 = .ok (.iload_n 1, 1) := by decide +kernel
theorem dX11_bound_16 : decode cX11_bound 16 = .ok (.iload_n 2, 1) := by decide +kernel
theorem dX11_bound_17 : decode cX11_bound 17 = .ok (.iload_n 3, 1) := by decide +kernel
theorem dX11_bound_18 : decode cX11_bound 18 = .ok (.invokevirtual 361, 3) := by decide +kernel
theorem dX11_bound_21 : decode cX11_bound 21 = .ok (.istore 5, 2) := by decide +kernel
theorem dX11_bound_23 : decode cX11_bound 23 = .ok (.iload 5, 2) := by decide +kernel
theorem dX11_bound_25 : decode cX11_bound 25 = .ok (.ifCond .eq 6, 3) := by decide +kernel
theorem dX11_bound_28 : decode cX11_bound 28 = .ok (.iload 5, 2) := by decide +kernel
theorem dX11_bound_30 : decode cX11_bound 30 = .ok (.ireturn, 1) := by decide +kernel
theorem dX11_bound_31 : decode cX11_bound 31 = .ok (.aload_n 0, 1) := by decide +kernel
theorem dX11_bound_32 : decode cX11_bound 32 = .ok (.iload_n 2, 1) := by decide +kernel
theorem dX11_bound_33 : decode cX11_bound 33 = .ok (.iload_n 3, 1) := by decide +kernel
theorem dX11_bound_34 : decode cX11_bound 34 = .ok (.invokevirtual 365, 3) := by decide +kernel
theorem dX11_bound_37 : decode cX11_bound 37 = .ok (.pop, 1) := by decide +kernel
theorem dX11_bound_38 : decode cX11_bound 38 = .ok (.iconst 0, 1) := by decide +kernel
theorem dX11_bound_39 : decode cX11_bound 39 = .ok (.istore 6, 2) := by decide +kernel
theorem dX11_bound_41 : decode cX11_bound 41 = .ok (.iload 6, 2) := by decide +kernel
theorem dX11_bound_43 : decode cX11_bound 43 = .ok (.bipush 99, 2) := by decide +kernel
theorem dX11_bound_45 : decode cX11_bound 45 = .ok (.if_icmp .gt 39, 3) := by decide +kernel
theorem dX11_bound_48 : decode cX11_bound 48 = .ok (.iload 4, 2) := by decide +kernel
theorem dX11_bound_50 : decode cX11_bound 50 = .ok (.ifCond .ne 8, 3) := by decide +kernel
theorem dX11_bound_53 : decode cX11_bound 53 = .ok (.iload 6, 2) := by decide +kernel
theorem dX11_bound_55 : decode cX11_bound 55 = .ok (.goto 8, 3) := by decide +kernel
theorem dX11_bound_58 : decode cX11_bound 58 = .ok (.bipush 99, 2) := by decide +kernel
theorem dX11_bound_60 : decode cX11_bound 60 = .ok (.iload 6, 2) := by decide +kernel
theorem dX11_bound_62 : decode cX11_bound 62 = .ok (.isub, 1) := by decide +kernel
theorem dX11_bound_63 : decode cX11_bound 63 = .ok (.istore 7, 2) := by decide +kernel
theorem dX11_bound_65 : decode cX11_bound 65 = .ok (.aload_n 0, 1) := by decide +kernel
theorem dX11_bound_66 : decode cX11_bound 66 = .ok (.getfield 79, 3) := by decide +kernel
theorem dX11_bound_69 : decode cX11_bound 69 = .ok (.iload 7, 2) := by decide +kernel
theorem dX11_bound_71 : decode cX11_bound 71 = .ok (.baload, 1) := by decide +kernel
theorem dX11_bound_72 : decode cX11_bound 72 = .ok (.ifCond .eq 6, 3) := by decide +kernel
theorem dX11_bound_75 : decode cX11_bound 75 = .ok (.iload 7, 2) := by decide +kernel
theorem dX11_bound_77 : decode cX11_bound 77 = .ok (.ireturn, 1) := by decide +kernel
theorem dX11_bound_78 : decode cX11_bound 78 = .ok (.iinc 6 1, 3) := by decide +kernel
theorem dX11_bound_81 : decode cX11_bound 81 = .ok (.goto (-40), 3) := by decide +kernel
theorem dX11_bound_84 : decode cX11_bound 84 = .ok (.iconst (-1), 1) := by decide +kernel
theorem dX11_bound_85 : decode cX11_bound 85 = .ok (.ireturn, 1) := by decide +kernel
def x_bound_41 (F : Nat) (I : Nat → Nat → Int32) (x : Nat) (c : Nat) (g1 : Int32) (g2 : Int32) (g3 : Int32) (g4 : Int32) (g5 : Int32) : Nat → Int32 → Option ((Int32 × (Nat → Nat → Int32)) ⊕ (Int32))
  | 0, _ => none
  | k + 1, l6 => if 99 < l6 then (some (.inr l6)) else (if g4 = 0 then (chk l6 100 (if (I (x + 134) (Int32.toNatClampNeg l6)) = 0 then (x_bound_41 F I x c g1 g2 g3 g4 g5 k (l6 + 1)) else (some (.inl (l6, I))))) else (let x14 := (99 - l6); chk x14 100 (if (I (x + 134) (Int32.toNatClampNeg x14)) = 0 then (x_bound_41 F I x c g1 g2 g3 g4 g5 k (l6 + 1)) else (some (.inl (x14, I))))))
def x_bound (F : Nat) (T : Nat → Option (Nat × Nat)) (I : Nat → Nat → Int32) (J : Nat → Nat → Int64) (P : Nat → Nat → Option Nat) (x : Nat) (c : Nat) (v1 : Int32) (v2 : Int32) (v3 : Int32) (v4 : Int32) : Option (Int32 × (Nat → Nat → Int32)) := if v4 < 0 then (some ((-2), I)) else (if v4 ≤ 1 then ((x_readRooms F I J x c v1 v2 v3).bind (fun q3 => let u5 := q3.1; let I6 := q3.2; if u5 = 0 then ((x_findRooms F T I6 P x c v2 v3).bind (fun q8 => let u10 := q8.1; let I11 := q8.2; (x_bound_41 F I11 x c v1 v2 v3 v4 u5 F 0).bind (fun q20 => match q20 with | .inl r0 => some r0 | .inr q0 => let m22 := q0; some ((-1), I11)))) else (some (u5, I6)))) else (some ((-2), I)))
theorem l_x_bound_41 {l : Launch} {D : va_G} {E : Nat → ClassId} {B : Nat → Prop} {n F : Nat} {Q : Option Value → HT → Prop} {T : Nat → Option (Nat × Nat)} {I : Nat → Nat → Int32} {J : Nat → Nat → Int64} {P : Nat → Nat → Option Nat} {x : Nat} {c : Nat} {g1 : Int32} {g2 : Int32} {g3 : Int32} {g4 : Int32} {g5 : Int32} (hx : isSR T P x) (hs_c : isCt T P c) (hc : P x 3 = some c)  (r : (Int32 × (Nat → Nat → Int32)) ⊕ (Int32)) : ∀ (k : Nat) (l6 : Int32), x_bound_41 F I x c g1 g2 g3 g4 g5 k l6 = some r → (match r with | .inl r => Q (some (.int r.1)) (n, T, r.2, J, P) | .inr r => V l D E B yX11_bound cX11_bound 8 (some .int) 6 0 0 Q 0 0 (n, T, I, J, P) 84 [(0, some (.ref x)), (1, some (.int g1)), (2, some (.int g2)), (3, some (.int g3)), (4, some (.int g4)), (5, some (.int g5)), (6, some (.int r))] []) → V l D E B yX11_bound cX11_bound 8 (some .int) 6 0 0 Q 0 0 (n, T, I, J, P) 41 [(0, some (.ref x)), (1, some (.int g1)), (2, some (.int g2)), (3, some (.int g3)), (4, some (.int g4)), (5, some (.int g5)), (6, some (.int l6))] [] := by
  intro k
  induction k with
  | zero =>
    intro l6 hf hk
    cases hf
  | succ k ih =>
    intro l6 hf hk
    unfold x_bound_41 at hf
    refine V.iload dX11_bound_41 rfl ?_
    refine V.bipush (v := 99) dX11_bound_43 (by decide) ?_
    refine V.icmp_gt 84 dX11_bound_45 (by decide) (fun c12 => ?_) (fun c12 => ?_)
    · rw [if_pos c12] at hf
      obtain rfl := Option.some.inj hf
      exact V.lo [(0, some (.ref x)), (1, some (.int g1)), (2, some (.int g2)), (3, some (.int g3)), (4, some (.int g4)), (5, some (.int g5)), (6, some (.int l6))] (by simp only [Subs]; repeat' first | exact trivial | constructor | rfl) hk
    · rw [if_neg c12] at hf
      refine V.iload dX11_bound_48 rfl ?_
      refine V.if_ne 58 dX11_bound_50 (by decide) (fun c13 => ?_) (fun c13 => ?_)
      · rw [if_neg c13] at hf
        refine V.bipush (v := 99) dX11_bound_58 (by decide) ?_
        refine V.iload dX11_bound_60 rfl ?_
        refine V.isub dX11_bound_62 ?_
        refine V.istore dX11_bound_63 (by decide) (by first | exact rfl | exact trivial) ?_
        obtain ⟨x14, e15⟩ : ∃ zz_, zz_ = (99 - l6) := ⟨_, rfl⟩
        rw [← e15] at hf ⊢
        try dsimp only at hf
        refine V.aload_n dX11_bound_65 rfl ?_
        refine V.getr fl_X11_79 dX11_bound_66 (hx.1 0 (11, 0) rfl) (hx.2.1 0 17 134 rfl) (by decide) rfl ?_
        refine V.iload dX11_bound_69 rfl ?_
        obtain ⟨hb16, hf⟩ := chk_some hf
        refine V.zald dX11_bound_71 (hx.1 134 (23, 100) rfl) hb16 ?_
        refine V.if_eq 78 dX11_bound_72 (by decide) (fun c17 => ?_) (fun c17 => ?_)
        · rw [if_pos c17] at hf
          refine V.iinc (v := (l6 + 1)) dX11_bound_78 rfl rfl (by first | exact rfl | exact trivial) ?_
          refine V.goto 41 dX11_bound_81 (by decide) ?_
          exact V.lo [(0, some (.ref x)), (1, some (.int g1)), (2, some (.int g2)), (3, some (.int g3)), (4, some (.int g4)), (5, some (.int g5)), (6, some (.int (l6 + 1)))] (by simp only [Subs]; repeat' first | exact trivial | constructor | rfl) (ih _ hf hk)
        · rw [if_neg c17] at hf
          refine V.iload dX11_bound_75 rfl ?_
          obtain rfl := Option.some.inj hf
          exact V.iret dX11_bound_77 rfl (Nat.le_refl _) (Nat.le_refl _) hk
      · rw [if_pos c13] at hf
        refine V.iload dX11_bound_53 rfl ?_
        refine V.goto 63 dX11_bound_55 (by decide) ?_
        refine V.istore dX11_bound_63 (by decide) (by first | exact rfl | exact trivial) ?_
        refine V.aload_n dX11_bound_65 rfl ?_
        refine V.getr fl_X11_79 dX11_bound_66 (hx.1 0 (11, 0) rfl) (hx.2.1 0 17 134 rfl) (by decide) rfl ?_
        refine V.iload dX11_bound_69 rfl ?_
        obtain ⟨hb18, hf⟩ := chk_some hf
        refine V.zald dX11_bound_71 (hx.1 134 (23, 100) rfl) hb18 ?_
        refine V.if_eq 78 dX11_bound_72 (by decide) (fun c19 => ?_) (fun c19 => ?_)
        · rw [if_pos c19] at hf
          refine V.iinc (v := (l6 + 1)) dX11_bound_78 rfl rfl (by first | exact rfl | exact trivial) ?_
          refine V.goto 41 dX11_bound_81 (by decide) ?_
          exact V.lo [(0, some (.ref x)), (1, some (.int g1)), (2, some (.int g2)), (3, some (.int g3)), (4, some (.int g4)), (5, some (.int g5)), (6, some (.int (l6 + 1)))] (by simp only [Subs]; repeat' first | exact trivial | constructor | rfl) (ih _ hf hk)
        · rw [if_neg c19] at hf
          refine V.iload dX11_bound_75 rfl ?_
          obtain rfl := Option.some.inj hf
          exact V.iret dX11_bound_77 rfl (Nat.le_refl _) (Nat.le_refl _) hk
theorem c_x_bound {l : Launch} {D : va_G} {E : Nat → ClassId} {B : Nat → Prop} {n F : Nat} {T : Nat → Option (Nat × Nat)} {I : Nat → Nat → Int32} {J : Nat → Nat → Int64} {P : Nat → Nat → Option Nat} {x : Nat} {c : Nat} {v1 : Int32} {v2 : Int32} {v3 : Int32} {v4 : Int32} {r : Int32 × (Nat → Nat → Int32)} (hx : isSR T P x) (hs_c : isCt T P c) (hc : P x 3 = some c) (hf : x_bound F T I J P x c v1 v2 v3 v4 = some r) : Ct l D E B yX11_bound cX11_bound 8 (some .int) 6 0 0 [.ref x, .int v1, .int v2, .int v3, .int v4] (n, T, I, J, P) (Ret (some (.int r.1)) (n, T, r.2, J, P)) := by
  unfold x_bound at hf
  refine Ct.ofV (by decide) (Nat.le_of_ble_eq_true rfl) ?_
  refine V.iload dX11_bound_0 rfl ?_
  refine V.if_lt 11 dX11_bound_2 (by decide) (fun c1 => ?_) (fun c1 => ?_)
  · rw [if_pos c1] at hf
    refine V.bipush (v := -2) dX11_bound_11 (by decide) ?_
    obtain rfl := Option.some.inj hf
    exact V.iret dX11_bound_13 rfl (Nat.le_refl _) (Nat.le_refl _) ⟨rfl, rfl⟩
  · rw [if_neg c1] at hf
    refine V.iload dX11_bound_5 rfl ?_
    refine V.iconst (v := 1) dX11_bound_7 (by decide) ?_
    refine V.icmp_le 14 dX11_bound_8 (by decide) (fun c2 => ?_) (fun c2 => ?_)
    · rw [if_pos c2] at hf
      refine V.aload_n dX11_bound_14 rfl ?_
      refine V.iload_n dX11_bound_15 rfl ?_
      refine V.iload_n dX11_bound_16 rfl ?_
      refine V.iload_n dX11_bound_17 rfl ?_
      obtain ⟨⟨u5, I6⟩, hk4, hf⟩ := bnd_some hf
      try dsimp only at hf
      refine V.inv cv_X11_361 (c_x_readRooms hx hs_c hc hk4) dX11_bound_18 (hx.1 0 (11, 0) rfl) (by decide) rfl rfl rfl (Nat.le_of_ble_eq_true rfl) (by decide) (by decide) (Nat.le_refl _) (Nat.le_refl _) (fun _ _ hq => ?_)
      obtain ⟨rfl, rfl⟩ := hq
      try dsimp only
      refine V.istore dX11_bound_21 (by decide) (by first | exact rfl | exact trivial) ?_
      refine V.iload dX11_bound_23 rfl ?_
      refine V.if_eq 31 dX11_bound_25 (by decide) (fun c7 => ?_) (fun c7 => ?_)
      · rw [if_pos c7] at hf
        refine V.aload_n dX11_bound_31 rfl ?_
        refine V.iload_n dX11_bound_32 rfl ?_
        refine V.iload_n dX11_bound_33 rfl ?_
        obtain ⟨⟨u10, I11⟩, hk9, hf⟩ := bnd_some hf
        try dsimp only at hf
        refine V.inv cv_X11_365 (c_x_findRooms hx hs_c hc hk9) dX11_bound_34 (hx.1 0 (11, 0) rfl) (by decide) rfl rfl rfl (Nat.le_of_ble_eq_true rfl) (by decide) (by decide) (Nat.le_refl _) (Nat.le_refl _) (fun _ _ hq => ?_)
        obtain ⟨rfl, rfl⟩ := hq
        try dsimp only
        refine V.pop dX11_bound_37 rfl ?_
        refine V.iconst (v := 0) dX11_bound_38 (by decide) ?_
        refine V.istore dX11_bound_39 (by decide) (by first | exact rfl | exact trivial) ?_
        obtain ⟨q20, hk21, hf⟩ := bnd_some hf
        refine V.lo [(0, some (.ref x)), (1, some (.int v1)), (2, some (.int v2)), (3, some (.int v3)), (4, some (.int v4)), (5, some (.int u5)), (6, some (.int 0))] (by simp only [Subs]; repeat' first | exact trivial | constructor | rfl) (l_x_bound_41 hx hs_c hc q20 F _ hk21 ?_)
        rcases q20 with r0 | m22
        · try dsimp only at hf ⊢
          obtain rfl := Option.some.inj hf
          exact ⟨rfl, rfl⟩
        · try dsimp only at hf ⊢
          refine V.iconst (v := -1) dX11_bound_84 (by decide) ?_
          obtain rfl := Option.some.inj hf
          exact V.iret dX11_bound_85 rfl (Nat.le_refl _) (Nat.le_refl _) ⟨rfl, rfl⟩
      · rw [if_neg c7] at hf
        refine V.iload dX11_bound_28 rfl ?_
        obtain rfl := Option.some.inj hf
        exact V.iret dX11_bound_30 rfl (Nat.le_refl _) (Nat.le_refl _) ⟨rfl, rfl⟩
    · rw [if_neg c2] at hf
      refine V.bipush (v := -2) dX11_bound_11 (by decide) ?_
      obtain rfl := Option.some.inj hf
      exact V.iret dX11_bound_13 rfl (Nat.le_refl _) (Nat.le_refl _) ⟨rfl, rfl⟩
theorem dX11_howManySit_0 : decode cX11_howManySit 0 = .ok (.iconst 0, 1) := by decide +kernel
theorem dX11_howManySit_1 : decode cX11_howManySit 1 = .ok (.istore_n 3, 1) := by decide +kernel
theorem dX11_howManySit_2 : decode cX11_howManySit 2 = .ok (.aload_n 0, 1) := by decide +kernel
theorem dX11_howManySit_3 : decode cX11_howManySit 3 = .ok (.getfield 62, 3) := by decide +kernel
theorem dX11_howManySit_6 : decode cX11_howManySit 6 = .ok (.aload_n 0, 1) := by decide +kernel
theorem dX11_howManySit_7 : decode cX11_howManySit 7 = .ok (.getfield 30, 3) := by decide +kernel
theorem dX11_howManySit_10 : decode cX11_howManySit 10 = .ok (.invokevirtual 174, 3) := by decide +kernel
theorem dX11_howManySit_13 : decode cX11_howManySit 13 = .ok (.iconst 0, 1) := by decide +kernel
theorem dX11_howManySit_14 : decode cX11_howManySit 14 = .ok (.istore 4, 2) := by decide +kernel
theorem dX11_howManySit_16 : decode cX11_howManySit 16 = .ok (.iload 4, 2) := by decide +kernel
theorem dX11_howManySit_18 : decode cX11_howManySit 18 = .ok (.bipush 99, 2) := by decide +kernel
theorem dX11_howManySit_20 : decode cX11_howManySit 20 = .ok (.if_icmp .gt 51, 3) := by decide +kernel
theorem dX11_howManySit_23 : decode cX11_howManySit 23 = .ok (.aload_n 0, 1) := by decide +kernel
theorem dX11_howManySit_24 : decode cX11_howManySit 24 = .ok (.getfield 62, 3) := by decide +kernel
theorem dX11_howManySit_27 : decode cX11_howManySit 27 = .ok (.getfield 132, 3) := by decide +kernel
theorem dX11_howManySit_30 : decode cX11_howManySit 30 = .ok (.iload_n 1, 1) := by decide +kernel
theorem dX11_howManySit_31 : decode cX11_howManySit 31 = .ok (.iload 4, 2) := by decide +kernel
theorem dX11_howManySit_33 : decode cX11_howManySit 33 = .ok (.iastore, 1) := by decide +kernel
theorem dX11_howManySit_34 : decode cX11_howManySit 34 = .ok (.aload_n 0, 1) := by decide +kernel
theorem dX11_howManySit_35 : decode cX11_howManySit 35 = .ok (.getfield 79, 3) := by decide +kernel
theorem dX11_howManySit_38 : decode cX11_howManySit 38 = .ok (.iload 4, 2) := by decide +kernel
theorem dX11_howManySit_40 : decode cX11_howManySit 40 = .ok (.baload, 1) := by decide +kernel
theorem dX11_howManySit_41 : decode cX11_howManySit 41 = .ok (.ifCond .eq 24, 3) := by decide +kernel
theorem dX11_howManySit_44 : decode cX11_howManySit 44 = .ok (.iload 4, 2) := by decide +kernel
theorem dX11_howManySit_46 : decode cX11_howManySit 46 = .ok (.aload_n 0, 1) := by decide +kernel
theorem dX11_howManySit_47 : decode cX11_howManySit 47 = .ok (.getfield 23, 3) := by decide +kernel
theorem dX11_howManySit_50 : decode cX11_howManySit 50 = .ok (.aload_n 0, 1) := by decide +kernel
theorem dX11_howManySit_51 : decode cX11_howManySit 51 = .ok (.getfield 62, 3) := by decide +kernel
theorem dX11_howManySit_54 : decode cX11_howManySit 54 = .ok (.iload_n 1, 1) := by decide +kernel
theorem dX11_howManySit_55 : decode cX11_howManySit 55 = .ok (.iload_n 2, 1) := by decide +kernel
theorem dX11_howManySit_56 : decode cX11_howManySit 56 = .ok (.invokevirtual 158, 3) := by decide +kernel
theorem dX11_howManySit_59 : decode cX11_howManySit 59 = .ok (.if_icmp .ge 6, 3) := by decide +kernel
theorem dX11_howManySit_62 : decode cX11_howManySit 62 = .ok (.iinc 3 1, 3) := by decide +kernel
theorem dX11_howManySit_65 : decode cX11_howManySit 65 = .ok (.iinc 4 1, 3) := by decide +kernel
theorem dX11_howManySit_68 : decode cX11_howManySit 68 = .ok (.goto (-52), 3) := by decide +kernel
theorem dX11_howManySit_71 : decode cX11_howManySit 71 = .ok (.iload_n 3, 1) := by decide +kernel
theorem dX11_howManySit_72 : decode cX11_howManySit 72 = .ok (.ireturn, 1) := by decide +kernel
def x_howManySit_16 (F : Nat) (T : Nat → Option (Nat × Nat)) (P : Nat → Nat → Option Nat) (x : Nat) (c : Nat) (g1 : Int32) (g2 : Int32) : Nat → Int32 → Int32 → (Nat → Nat → Int32) → Option (Int32 × Int32 × (Nat → Nat → Int32))
  | 0, _, _, _ => none
  | k + 1, l3, l4, I => if 99 < l4 then (some (l3, l4, I)) else (chk g1 6 (let I6 := uI I ((x + 101) + 1) (Int32.toNatClampNeg g1) l4; chk l4 100 (if (I6 (x + 134) (Int32.toNatClampNeg l4)) = 0 then (x_howManySit_16 F T P x c g1 g2 k l3 (l4 + 1) I6) else ((ct_tiring F T I6 P c (x + 101) g1 g2).bind (fun q10 => let u12 := q10.1; let I13 := q10.2; if u12 ≤ l4 then (x_howManySit_16 F T P x c g1 g2 k l3 (l4 + 1) I13) else (x_howManySit_16 F T P x c g1 g2 k (l3 + 1) (l4 + 1) I13))))))
def x_howManySit (F : Nat) (T : Nat → Option (Nat × Nat)) (I : Nat → Nat → Int32) (P : Nat → Nat → Option Nat) (x : Nat) (c : Nat) (v1 : Int32) (v2 : Int32) : Option (Int32 × (Nat → Nat → Int32)) := (s_copyFrom I (x + 101) (x + 12)).bind (fun q1 => let I3 := q1; (x_howManySit_16 F T P x c v1 v2 F 0 0 I3).bind (fun q15 => let m17 := q15.1; let m18 := q15.2.1; let I19 := q15.2.2; some (m17, I19)))
theorem l_x_howManySit_16 {l : Launch} {D : va_G} {E : Nat → ClassId} {B : Nat → Prop} {n F : Nat} {Q : Option Value → HT → Prop} {T : Nat → Option (Nat × Nat)} {J : Nat → Nat → Int64} {P : Nat → Nat → Option Nat} {x : Nat} {c : Nat} {g1 : Int32} {g2 : Int32} (hx : isSR T P x) (hs_c : isCt T P c) (hc : P x 3 = some c)  (r : Int32 × Int32 × (Nat → Nat → Int32)) : ∀ (k : Nat) (l3 : Int32) (l4 : Int32) (I : (Nat → Nat → Int32)), x_howManySit_16 F T P x c g1 g2 k l3 l4 I = some r → V l D E B yX11_howManySit cX11_howManySit 5 (some .int) 4 0 0 Q 0 0 (n, T, r.2.2, J, P) 71 [(0, some (.ref x)), (1, some (.int g1)), (2, some (.int g2)), (3, some (.int (r.1))), (4, some (.int (r.2.1)))] [] → V l D E B yX11_howManySit cX11_howManySit 5 (some .int) 4 0 0 Q 0 0 (n, T, I, J, P) 16 [(0, some (.ref x)), (1, some (.int g1)), (2, some (.int g2)), (3, some (.int l3)), (4, some (.int l4))] [] := by
  intro k
  induction k with
  | zero =>
    intro l3 l4 I hf hk
    cases hf
  | succ k ih =>
    intro l3 l4 I hf hk
    unfold x_howManySit_16 at hf
    refine V.iload dX11_howManySit_16 rfl ?_
    refine V.bipush (v := 99) dX11_howManySit_18 (by decide) ?_
    refine V.icmp_gt 71 dX11_howManySit_20 (by decide) (fun c4 => ?_) (fun c4 => ?_)
    · rw [if_pos c4] at hf
      obtain rfl := Option.some.inj hf
      exact V.lo [(0, some (.ref x)), (1, some (.int g1)), (2, some (.int g2)), (3, some (.int l3)), (4, some (.int l4))] (by simp only [Subs]; repeat' first | exact trivial | constructor | rfl) hk
    · rw [if_neg c4] at hf
      refine V.aload_n dX11_howManySit_23 rfl ?_
      refine V.getr fl_X11_62 dX11_howManySit_24 (hx.1 0 (11, 0) rfl) (hx.2.1 0 12 101 rfl) (by decide) rfl ?_
      refine V.getr fl_X11_132 dX11_howManySit_27 ((hx.2.2.1 101 rfl).1 0 (8, 0) rfl) ((hx.2.2.1 101 rfl).2 0 4 1 rfl) (by decide) rfl ?_
      refine V.iload_n dX11_howManySit_30 rfl ?_
      refine V.iload dX11_howManySit_31 rfl ?_
      obtain ⟨hb5, hf⟩ := chk_some hf
      refine V.iastE dX11_howManySit_33 ((hx.2.2.1 101 rfl).1 1 (20, 6) rfl) hb5 (fun I6 e7 => ?_)
      rw [← e7] at hf
      try dsimp only at hf
      clear e7
      refine V.aload_n dX11_howManySit_34 rfl ?_
      refine V.getr fl_X11_79 dX11_howManySit_35 (hx.1 0 (11, 0) rfl) (hx.2.1 0 17 134 rfl) (by decide) rfl ?_
      refine V.iload dX11_howManySit_38 rfl ?_
      obtain ⟨hb8, hf⟩ := chk_some hf
      refine V.zald dX11_howManySit_40 (hx.1 134 (23, 100) rfl) hb8 ?_
      refine V.if_eq 65 dX11_howManySit_41 (by decide) (fun c9 => ?_) (fun c9 => ?_)
      · rw [if_pos c9] at hf
        refine V.iinc (v := (l4 + 1)) dX11_howManySit_65 rfl rfl (by first | exact rfl | exact trivial) ?_
        refine V.goto 16 dX11_howManySit_68 (by decide) ?_
        exact V.lo [(0, some (.ref x)), (1, some (.int g1)), (2, some (.int g2)), (3, some (.int l3)), (4, some (.int (l4 + 1)))] (by simp only [Subs]; repeat' first | exact trivial | constructor | rfl) (ih _ _ _ hf hk)
      · rw [if_neg c9] at hf
        refine V.iload dX11_howManySit_44 rfl ?_
        refine V.aload_n dX11_howManySit_46 rfl ?_
        refine V.getr fl_X11_23 dX11_howManySit_47 (hx.1 0 (11, 0) rfl) hc (by decide) rfl ?_
        refine V.aload_n dX11_howManySit_50 rfl ?_
        refine V.getr fl_X11_62 dX11_howManySit_51 (hx.1 0 (11, 0) rfl) (hx.2.1 0 12 101 rfl) (by decide) rfl ?_
        refine V.iload_n dX11_howManySit_54 rfl ?_
        refine V.iload_n dX11_howManySit_55 rfl ?_
        obtain ⟨⟨u12, I13⟩, hk11, hf⟩ := bnd_some hf
        try dsimp only at hf
        refine V.inv cv_X11_158 (c_ct_tiring hs_c (hx.2.2.1 101 rfl) hk11) dX11_howManySit_56 (hs_c.1.1 0 (1, 0) rfl) (by decide) rfl rfl rfl (Nat.le_of_ble_eq_true rfl) (by decide) (by decide) (Nat.le_refl _) (Nat.le_refl _) (fun _ _ hq => ?_)
        obtain ⟨rfl, rfl⟩ := hq
        try dsimp only
        refine V.icmp_ge 65 dX11_howManySit_59 (by decide) (fun c14 => ?_) (fun c14 => ?_)
        · rw [if_pos c14] at hf
          refine V.iinc (v := (l4 + 1)) dX11_howManySit_65 rfl rfl (by first | exact rfl | exact trivial) ?_
          refine V.goto 16 dX11_howManySit_68 (by decide) ?_
          exact V.lo [(0, some (.ref x)), (1, some (.int g1)), (2, some (.int g2)), (3, some (.int l3)), (4, some (.int (l4 + 1)))] (by simp only [Subs]; repeat' first | exact trivial | constructor | rfl) (ih _ _ _ hf hk)
        · rw [if_neg c14] at hf
          refine V.iinc (v := (l3 + 1)) dX11_howManySit_62 rfl rfl (by first | exact rfl | exact trivial) ?_
          refine V.iinc (v := (l4 + 1)) dX11_howManySit_65 rfl rfl (by first | exact rfl | exact trivial) ?_
          refine V.goto 16 dX11_howManySit_68 (by decide) ?_
          exact V.lo [(0, some (.ref x)), (1, some (.int g1)), (2, some (.int g2)), (3, some (.int (l3 + 1))), (4, some (.int (l4 + 1)))] (by simp only [Subs]; repeat' first | exact trivial | constructor | rfl) (ih _ _ _ hf hk)
theorem c_x_howManySit {l : Launch} {D : va_G} {E : Nat → ClassId} {B : Nat → Prop} {n F : Nat} {T : Nat → Option (Nat × Nat)} {I : Nat → Nat → Int32} {J : Nat → Nat → Int64} {P : Nat → Nat → Option Nat} {x : Nat} {c : Nat} {v1 : Int32} {v2 : Int32} {r : Int32 × (Nat → Nat → Int32)} (hx : isSR T P x) (hs_c : isCt T P c) (hc : P x 3 = some c) (hf : x_howManySit F T I P x c v1 v2 = some r) : Ct l D E B yX11_howManySit cX11_howManySit 5 (some .int) 4 0 0 [.ref x, .int v1, .int v2] (n, T, I, J, P) (Ret (some (.int r.1)) (n, T, r.2, J, P)) := by
  unfold x_howManySit at hf
  refine Ct.ofV (by decide) (Nat.le_of_ble_eq_true rfl) ?_
  refine V.iconst (v := 0) dX11_howManySit_0 (by decide) ?_
  refine V.istore_n dX11_howManySit_1 rfl (by decide) (by first | exact rfl | exact trivial) ?_
  refine V.aload_n dX11_howManySit_2 rfl ?_
  refine V.getr fl_X11_62 dX11_howManySit_3 (hx.1 0 (11, 0) rfl) (hx.2.1 0 12 101 rfl) (by decide) rfl ?_
  refine V.aload_n dX11_howManySit_6 rfl ?_
  refine V.getr fl_X11_30 dX11_howManySit_7 (hx.1 0 (11, 0) rfl) (hx.2.1 0 4 12 rfl) (by decide) rfl ?_
  obtain ⟨I3, hk2, hf⟩ := bnd_some hf
  try dsimp only at hf
  refine V.inv cv_X11_174 (c_s_copyFrom (hx.2.2.1 101 rfl) (hx.2.2.1 12 rfl) hk2) dX11_howManySit_10 ((hx.2.2.1 101 rfl).1 0 (8, 0) rfl) (by decide) rfl rfl rfl (Nat.le_of_ble_eq_true rfl) (by decide) (by decide) (Nat.le_refl _) (Nat.le_refl _) (fun _ _ hq => ?_)
  obtain ⟨rfl, rfl⟩ := hq
  refine V.iconst (v := 0) dX11_howManySit_13 (by decide) ?_
  refine V.istore dX11_howManySit_14 (by decide) (by first | exact rfl | exact trivial) ?_
  obtain ⟨⟨m17, m18, I19⟩, hk16, hf⟩ := bnd_some hf
  try dsimp only at hf
  refine V.lo [(0, some (.ref x)), (1, some (.int v1)), (2, some (.int v2)), (3, some (.int 0)), (4, some (.int 0))] (by simp only [Subs]; repeat' first | exact trivial | constructor | rfl) (l_x_howManySit_16 hx hs_c hc _ F _ _ _ hk16 ?_)
  try dsimp only
  refine V.iload_n dX11_howManySit_71 rfl ?_
  obtain rfl := Option.some.inj hf
  exact V.iret dX11_howManySit_72 rfl (Nat.le_refl _) (Nat.le_refl _) ⟨rfl, rfl⟩
theorem dX11_next_0 : decode cX11_next 0 = .ok (.aload_n 0, 1) := by decide +kernel
theorem dX11_next_1 : decode cX11_next 1 = .ok (.iload_n 1, 1) := by decide +kernel
theorem dX11_next_2 : decode cX11_next 2 = .ok (.iload_n 2, 1) := by decide +kernel
theorem dX11_next_3 : decode cX11_next 3 = .ok (.iload_n 3, 1) := by decide +kernel
theorem dX11_next_4 : decode cX11_next 4 = .ok (.invokevirtual 361, 3) := by decide +kernel
theorem dX11_next_7 : decode cX11_next 7 = .ok (.istore 4, 2) := by decide +kernel
theorem dX11_next_9 : decode cX11_next 9 = .ok (.iload 4, 2) := by decide +kernel
theorem dX11_next_11 : decode cX11_next 11 = .ok (.ifCond .eq 6, 3) := by decide +kernel
theorem dX11_next_14 : decode cX11_next 14 = .ok (.iload 4, 2) := by decide +kernel
theorem dX11_next_16 : decode cX11_next 16 = .ok (.ireturn, 1) := by decide +kernel
theorem dX11_next_17 : decode cX11_next 17 = .ok (.aload_n 0, 1) := by decide +kernel
theorem dX11_next_18 : decode cX11_next 18 = .ok (.iload_n 2, 1) := by decide +kernel
theorem dX11_next_19 : decode cX11_next 19 = .ok (.iload_n 3, 1) := by decide +kernel
theorem dX11_next_20 : decode cX11_next 20 = .ok (.invokevirtual 365, 3) := by decide +kernel
theorem dX11_next_23 : decode cX11_next 23 = .ok (.istore 5, 2) := by decide +kernel
theorem dX11_next_25 : decode cX11_next 25 = .ok (.iload 5, 2) := by decide +kernel
theorem dX11_next_27 : decode cX11_next 27 = .ok (.ifCond .ne 5, 3) := by decide +kernel
theorem dX11_next_30 : decode cX11_next 30 = .ok (.iconst (-1), 1) := by decide +kernel
theorem dX11_next_31 : decode cX11_next 31 = .ok (.ireturn, 1) := by decide +kernel
theorem dX11_next_32 : decode cX11_next 32 = .ok (.iconst (-1), 1) := by decide +kernel
theorem dX11_next_33 : decode cX11_next 33 = .ok (.istore 6, 2) := by decide +kernel
theorem dX11_next_35 : decode cX11_next 35 = .ok (.iconst (-1), 1) := by decide +kernel
theorem dX11_next_36 : decode cX11_next 36 = .ok (.istore 7, 2) := by decide +kernel
theorem dX11_next_38 : decode cX11_next 38 = .ok (.iconst 0, 1) := by decide +kernel
theorem dX11_next_39 : decode cX11_next 39 = .ok (.istore 8, 2) := by decide +kernel
theorem dX11_next_41 : decode cX11_next 41 = .ok (.iload 8, 2) := by decide +kernel
theorem dX11_next_43 : decode cX11_next 43 = .ok (.aload_n 0, 1) := by decide +kernel
theorem dX11_next_44 : decode cX11_next 44 = .ok (.getfield 23, 3) := by decide +kernel
theorem dX11_next_47 : decode cX11_next 47 = .ok (.getfield 171, 3) := by decide +kernel
theorem dX11_next_50 : decode cX11_next 50 = .ok (.if_icmp .ge 45, 3) := by decide +kernel
theorem dX11_next_53 : decode cX11_next 53 = .ok (.aload_n 0, 1) := by decide +kernel
theorem dX11_next_54 : decode cX11_next 54 = .ok (.iload_n 2, 1) := by decide +kernel
theorem dX11_next_55 : decode cX11_next 55 = .ok (.iload 8, 2) := by decide +kernel
theorem dX11_next_57 : decode cX11_next 57 = .ok (.invokevirtual 368, 3) := by decide +kernel
theorem dX11_next_60 : decode cX11_next 60 = .ok (.istore 9, 2) := by decide +kernel
theorem dX11_next_62 : decode cX11_next 62 = .ok (.iload 9, 2) := by decide +kernel
theorem dX11_next_64 : decode cX11_next 64 = .ok (.iload 5, 2) := by decide +kernel
theorem dX11_next_66 : decode cX11_next 66 = .ok (.iload 9, 2) := by decide +kernel
theorem dX11_next_68 : decode cX11_next 68 = .ok (.isub, 1) := by decide +kernel
theorem dX11_next_69 : decode cX11_next 69 = .ok (.invokestatic 268, 3) := by decide +kernel
theorem dX11_next_72 : decode cX11_next 72 = .ok (.istore 10, 2) := by decide +kernel
theorem dX11_next_74 : decode cX11_next 74 = .ok (.iload 10, 2) := by decide +kernel
theorem dX11_next_76 : decode cX11_next 76 = .ok (.iload 7, 2) := by decide +kernel
theorem dX11_next_78 : decode cX11_next 78 = .ok (.if_icmp .le 11, 3) := by decide +kernel
theorem dX11_next_81 : decode cX11_next 81 = .ok (.iload 10, 2) := by decide +kernel
theorem dX11_next_83 : decode cX11_next 83 = .ok (.istore 7, 2) := by decide +kernel
theorem dX11_next_85 : decode cX11_next 85 = .ok (.iload 8, 2) := by decide +kernel
theorem dX11_next_87 : decode cX11_next 87 = .ok (.istore 6, 2) := by decide +kernel
theorem dX11_next_89 : decode cX11_next 89 = .ok (.iinc 8 1, 3) := by decide +kernel
theorem dX11_next_92 : decode cX11_next 92 = .ok (.goto (-51), 3) := by decide +kernel
theorem dX11_next_95 : decode cX11_next 95 = .ok (.iload 6, 2) := by decide +kernel
theorem dX11_next_97 : decode cX11_next 97 = .ok (.ireturn, 1) := by decide +kernel
def x_next_41 (F : Nat) (T : Nat → Option (Nat × Nat)) (P : Nat → Nat → Option Nat) (x : Nat) (c : Nat) (g1 : Int32) (g2 : Int32) (g3 : Int32) (g4 : Int32) (g5 : Int32) : Nat → Int32 → Int32 → Int32 → (Nat → Nat → Int32) → Option (Int32 × Int32 × Int32 × (Nat → Nat → Int32))
  | 0, _, _, _, _ => none
  | k + 1, l6, l7, l8, I => if (I c 1) ≤ l8 then (some (l6, l7, l8, I)) else ((x_howManySit F T I P x c g2 l8).bind (fun q12 => let u14 := q12.1; let I15 := q12.2; let x16 := (imin u14 (g5 - u14)); if x16 ≤ l7 then (x_next_41 F T P x c g1 g2 g3 g4 g5 k l6 l7 (l8 + 1) I15) else (x_next_41 F T P x c g1 g2 g3 g4 g5 k l8 x16 (l8 + 1) I15)))
def x_next (F : Nat) (T : Nat → Option (Nat × Nat)) (I : Nat → Nat → Int32) (J : Nat → Nat → Int64) (P : Nat → Nat → Option Nat) (x : Nat) (c : Nat) (v1 : Int32) (v2 : Int32) (v3 : Int32) : Option (Int32 × (Nat → Nat → Int32)) := (x_readRooms F I J x c v1 v2 v3).bind (fun q1 => let u3 := q1.1; let I4 := q1.2; if u3 = 0 then ((x_findRooms F T I4 P x c v2 v3).bind (fun q6 => let u8 := q6.1; let I9 := q6.2; if u8 = 0 then (some ((-1), I9)) else ((x_next_41 F T P x c v1 v2 v3 u3 u8 F (-1) (-1) 0 I9).bind (fun q19 => let m21 := q19.1; let m22 := q19.2.1; let m23 := q19.2.2.1; let I24 := q19.2.2.2; some (m21, I24))))) else (some (u3, I4)))
theorem l_x_next_41 {l : Launch} {D : va_G} {E : Nat → ClassId} {B : Nat → Prop} {n F : Nat} {Q : Option Value → HT → Prop} {T : Nat → Option (Nat × Nat)} {J : Nat → Nat → Int64} {P : Nat → Nat → Option Nat} {x : Nat} {c : Nat} {g1 : Int32} {g2 : Int32} {g3 : Int32} {g4 : Int32} {g5 : Int32} (hx : isSR T P x) (hs_c : isCt T P c) (hc : P x 3 = some c)  (r : Int32 × Int32 × Int32 × (Nat → Nat → Int32)) : ∀ (k : Nat) (l6 : Int32) (l7 : Int32) (l8 : Int32) (I : (Nat → Nat → Int32)), x_next_41 F T P x c g1 g2 g3 g4 g5 k l6 l7 l8 I = some r → V l D E B yX11_next cX11_next 11 (some .int) 6 0 0 Q 0 0 (n, T, r.2.2.2, J, P) 95 [(0, some (.ref x)), (1, some (.int g1)), (2, some (.int g2)), (3, some (.int g3)), (4, some (.int g4)), (5, some (.int g5)), (6, some (.int (r.1))), (7, some (.int (r.2.1))), (8, some (.int (r.2.2.1)))] [] → V l D E B yX11_next cX11_next 11 (some .int) 6 0 0 Q 0 0 (n, T, I, J, P) 41 [(0, some (.ref x)), (1, some (.int g1)), (2, some (.int g2)), (3, some (.int g3)), (4, some (.int g4)), (5, some (.int g5)), (6, some (.int l6)), (7, some (.int l7)), (8, some (.int l8))] [] := by
  intro k
  induction k with
  | zero =>
    intro l6 l7 l8 I hf hk
    cases hf
  | succ k ih =>
    intro l6 l7 l8 I hf hk
    unfold x_next_41 at hf
    refine V.iload dX11_next_41 rfl ?_
    refine V.aload_n dX11_next_43 rfl ?_
    refine V.getr fl_X11_23 dX11_next_44 (hx.1 0 (11, 0) rfl) hc (by decide) rfl ?_
    refine V.getf fl_X11_171 dX11_next_47 (hs_c.1.1 0 (1, 0) rfl) (by decide) rfl ?_
    refine V.icmp_ge 95 dX11_next_50 (by decide) (fun c11 => ?_) (fun c11 => ?_)
    · rw [if_pos c11] at hf
      obtain rfl := Option.some.inj hf
      exact V.lo [(0, some (.ref x)), (1, some (.int g1)), (2, some (.int g2)), (3, some (.int g3)), (4, some (.int g4)), (5, some (.int g5)), (6, some (.int l6)), (7, some (.int l7)), (8, some (.int l8))] (by simp only [Subs]; repeat' first | exact trivial | constructor | rfl) hk
    · rw [if_neg c11] at hf
      refine V.aload_n dX11_next_53 rfl ?_
      refine V.iload_n dX11_next_54 rfl ?_
      refine V.iload dX11_next_55 rfl ?_
      obtain ⟨⟨u14, I15⟩, hk13, hf⟩ := bnd_some hf
      try dsimp only at hf
      refine V.inv cv_X11_368 (c_x_howManySit hx hs_c hc hk13) dX11_next_57 (hx.1 0 (11, 0) rfl) (by decide) rfl rfl rfl (Nat.le_of_ble_eq_true rfl) (by decide) (by decide) (Nat.le_refl _) (Nat.le_refl _) (fun _ _ hq => ?_)
      obtain ⟨rfl, rfl⟩ := hq
      try dsimp only
      refine V.istore dX11_next_60 (by decide) (by first | exact rfl | exact trivial) ?_
      refine V.iload dX11_next_62 rfl ?_
      refine V.iload dX11_next_64 rfl ?_
      refine V.iload dX11_next_66 rfl ?_
      refine V.isub dX11_next_68 ?_
      refine V.ins cs_X11_268 (c_imin) dX11_next_69 rfl rfl (Nat.le_of_ble_eq_true rfl) (by decide) (by decide) (Nat.le_refl _) (Nat.le_refl _) (fun _ _ hq => ?_)
      obtain ⟨rfl, rfl⟩ := hq
      refine V.istore dX11_next_72 (by decide) (by first | exact rfl | exact trivial) ?_
      obtain ⟨x16, e17⟩ : ∃ zz_, zz_ = (imin u14 (g5 - u14)) := ⟨_, rfl⟩
      rw [← e17] at hf ⊢
      try dsimp only at hf
      refine V.iload dX11_next_74 rfl ?_
      refine V.iload dX11_next_76 rfl ?_
      refine V.icmp_le 89 dX11_next_78 (by decide) (fun c18 => ?_) (fun c18 => ?_)
      · rw [if_pos c18] at hf
        refine V.iinc (v := (l8 + 1)) dX11_next_89 rfl rfl (by first | exact rfl | exact trivial) ?_
        refine V.goto 41 dX11_next_92 (by decide) ?_
        exact V.lo [(0, some (.ref x)), (1, some (.int g1)), (2, some (.int g2)), (3, some (.int g3)), (4, some (.int g4)), (5, some (.int g5)), (6, some (.int l6)), (7, some (.int l7)), (8, some (.int (l8 + 1)))] (by simp only [Subs]; repeat' first | exact trivial | constructor | rfl) (ih _ _ _ _ hf hk)
      · rw [if_neg c18] at hf
        refine V.iload dX11_next_81 rfl ?_
        refine V.istore dX11_next_83 (by decide) (by first | exact rfl | exact trivial) ?_
        refine V.iload dX11_next_85 rfl ?_
        refine V.istore dX11_next_87 (by decide) (by first | exact rfl | exact trivial) ?_
        refine V.iinc (v := (l8 + 1)) dX11_next_89 rfl rfl (by first | exact rfl | exact trivial) ?_
        refine V.goto 41 dX11_next_92 (by decide) ?_
        exact V.lo [(0, some (.ref x)), (1, some (.int g1)), (2, some (.int g2)), (3, some (.int g3)), (4, some (.int g4)), (5, some (.int g5)), (6, some (.int l8)), (7, some (.int x16)), (8, some (.int (l8 + 1)))] (by simp only [Subs]; repeat' first | exact trivial | constructor | rfl) (ih _ _ _ _ hf hk)
theorem c_x_next {l : Launch} {D : va_G} {E : Nat → ClassId} {B : Nat → Prop} {n F : Nat} {T : Nat → Option (Nat × Nat)} {I : Nat → Nat → Int32} {J : Nat → Nat → Int64} {P : Nat → Nat → Option Nat} {x : Nat} {c : Nat} {v1 : Int32} {v2 : Int32} {v3 : Int32} {r : Int32 × (Nat → Nat → Int32)} (hx : isSR T P x) (hs_c : isCt T P c) (hc : P x 3 = some c) (hf : x_next F T I J P x c v1 v2 v3 = some r) : Ct l D E B yX11_next cX11_next 11 (some .int) 6 0 0 [.ref x, .int v1, .int v2, .int v3] (n, T, I, J, P) (Ret (some (.int r.1)) (n, T, r.2, J, P)) := by
  unfold x_next at hf
  refine Ct.ofV (by decide) (Nat.le_of_ble_eq_true rfl) ?_
  refine V.aload_n dX11_next_0 rfl ?_
  refine V.iload_n dX11_next_1 rfl ?_
  refine V.iload_n dX11_next_2 rfl ?_
  refine V.iload_n dX11_next_3 rfl ?_
  obtain ⟨⟨u3, I4⟩, hk2, hf⟩ := bnd_some hf
  try dsimp only at hf
  refine V.inv cv_X11_361 (c_x_readRooms hx hs_c hc hk2) dX11_next_4 (hx.1 0 (11, 0) rfl) (by decide) rfl rfl rfl (Nat.le_of_ble_eq_true rfl) (by decide) (by decide) (Nat.le_refl _) (Nat.le_refl _) (fun _ _ hq => ?_)
  obtain ⟨rfl, rfl⟩ := hq
  try dsimp only
  refine V.istore dX11_next_7 (by decide) (by first | exact rfl | exact trivial) ?_
  refine V.iload dX11_next_9 rfl ?_
  refine V.if_eq 17 dX11_next_11 (by decide) (fun c5 => ?_) (fun c5 => ?_)
  · rw [if_pos c5] at hf
    refine V.aload_n dX11_next_17 rfl ?_
    refine V.iload_n dX11_next_18 rfl ?_
    refine V.iload_n dX11_next_19 rfl ?_
    obtain ⟨⟨u8, I9⟩, hk7, hf⟩ := bnd_some hf
    try dsimp only at hf
    refine V.inv cv_X11_365 (c_x_findRooms hx hs_c hc hk7) dX11_next_20 (hx.1 0 (11, 0) rfl) (by decide) rfl rfl rfl (Nat.le_of_ble_eq_true rfl) (by decide) (by decide) (Nat.le_refl _) (Nat.le_refl _) (fun _ _ hq => ?_)
    obtain ⟨rfl, rfl⟩ := hq
    try dsimp only
    refine V.istore dX11_next_23 (by decide) (by first | exact rfl | exact trivial) ?_
    refine V.iload dX11_next_25 rfl ?_
    refine V.if_ne 32 dX11_next_27 (by decide) (fun c10 => ?_) (fun c10 => ?_)
    · rw [if_neg c10] at hf
      refine V.iconst (v := -1) dX11_next_32 (by decide) ?_
      refine V.istore dX11_next_33 (by decide) (by first | exact rfl | exact trivial) ?_
      refine V.iconst (v := -1) dX11_next_35 (by decide) ?_
      refine V.istore dX11_next_36 (by decide) (by first | exact rfl | exact trivial) ?_
      refine V.iconst (v := 0) dX11_next_38 (by decide) ?_
      refine V.istore dX11_next_39 (by decide) (by first | exact rfl | exact trivial) ?_
      obtain ⟨⟨m21, m22, m23, I24⟩, hk20, hf⟩ := bnd_some hf
      try dsimp only at hf
      refine V.lo [(0, some (.ref x)), (1, some (.int v1)), (2, some (.int v2)), (3, some (.int v3)), (4, some (.int u3)), (5, some (.int u8)), (6, some (.int (-1))), (7, some (.int (-1))), (8, some (.int 0))] (by simp only [Subs]; repeat' first | exact trivial | constructor | rfl) (l_x_next_41 hx hs_c hc _ F _ _ _ _ hk20 ?_)
      try dsimp only
      refine V.iload dX11_next_95 rfl ?_
      obtain rfl := Option.some.inj hf
      exact V.iret dX11_next_97 rfl (Nat.le_refl _) (Nat.le_refl _) ⟨rfl, rfl⟩
    · rw [if_pos c10] at hf
      refine V.iconst (v := -1) dX11_next_30 (by decide) ?_
      obtain rfl := Option.some.inj hf
      exact V.iret dX11_next_31 rfl (Nat.le_refl _) (Nat.le_refl _) ⟨rfl, rfl⟩
  · rw [if_neg c5] at hf
    refine V.iload dX11_next_14 rfl ?_
    obtain rfl := Option.some.inj hf
    exact V.iret dX11_next_16 rfl (Nat.le_refl _) (Nat.le_refl _) ⟨rfl, rfl⟩
theorem dX11_codeOfWaiting_0 : decode cX11_codeOfWaiting 0 = .ok (.aload_n 0, 1) := by decide +kernel
theorem dX11_codeOfWaiting_1 : decode cX11_codeOfWaiting 1 = .ok (.iload_n 1, 1) := by decide +kernel
theorem dX11_codeOfWaiting_2 : decode cX11_codeOfWaiting 2 = .ok (.invokevirtual 127, 3) := by decide +kernel
theorem dX11_codeOfWaiting_5 : decode cX11_codeOfWaiting 5 = .ok (.ifCond .ne 24, 3) := by decide +kernel
theorem dX11_codeOfWaiting_8 : decode cX11_codeOfWaiting 8 = .ok (.aload_n 0, 1) := by decide +kernel
theorem dX11_codeOfWaiting_9 : decode cX11_codeOfWaiting 9 = .ok (.iload_n 2, 1) := by decide +kernel
theorem dX11_codeOfWaiting_10 : decode cX11_codeOfWaiting 10 = .ok (.invokevirtual 127, 3) := by decide +kernel
theorem dX11_codeOfWaiting_13 : decode cX11_codeOfWaiting 13 = .ok (.ifCond .ne 16, 3) := by decide +kernel
theorem dX11_codeOfWaiting_16 : decode cX11_codeOfWaiting 16 = .ok (.iload_n 1, 1) := by decide +kernel
theorem dX11_codeOfWaiting_17 : decode cX11_codeOfWaiting 17 = .ok (.iload_n 2, 1) := by decide +kernel
theorem dX11_codeOfWaiting_18 : decode cX11_codeOfWaiting 18 = .ok (.if_icmp .eq 11, 3) := by decide +kernel
theorem dX11_codeOfWaiting_21 : decode cX11_codeOfWaiting 21 = .ok (.aload_n 0, 1) := by decide +kernel
theorem dX11_codeOfWaiting_22 : decode cX11_codeOfWaiting 22 = .ok (.iload_n 3, 1) := by decide +kernel
theorem dX11_codeOfWaiting_23 : decode cX11_codeOfWaiting 23 = .ok (.invokevirtual 155, 3) := by decide +kernel
theorem dX11_codeOfWaiting_26 : decode cX11_codeOfWaiting 26 = .ok (.ifCond .eq 6, 3) := by decide +kernel
theorem dX11_codeOfWaiting_29 : decode cX11_codeOfWaiting 29 = .ok (.bipush (-2), 2) := by decide +kernel
theorem dX11_codeOfWaiting_31 : decode cX11_codeOfWaiting 31 = .ok (.ireturn, 1) := by decide +kernel
theorem dX11_codeOfWaiting_32 : decode cX11_codeOfWaiting 32 = .ok (.iload 4, 2) := by decide +kernel
theorem dX11_codeOfWaiting_34 : decode cX11_codeOfWaiting 34 = .ok (.ifCond .lt 10, 3) := by decide +kernel
theorem dX11_codeOfWaiting_37 : decode cX11_codeOfWaiting 37 = .ok (.iload 4, 2) := by decide +kernel
theorem dX11_codeOfWaiting_39 : decode cX11_codeOfWaiting 39 = .ok (.bipush 20, 2) := by decide +kernel
theorem dX11_codeOfWaiting_41 : decode cX11_codeOfWaiting 41 = .ok (.if_icmp .le 6, 3) := by decide +kernel
theorem dX11_codeOfWaiting_44 : decode cX11_codeOfWaiting 44 = .ok (.bipush (-3), 2) := by decide +kernel
theorem dX11_codeOfWaiting_46 : decode cX11_codeOfWaiting 46 = .ok (.ireturn, 1) := by decide +kernel
theorem dX11_codeOfWaiting_47 : decode cX11_codeOfWaiting 47 = .ok (.aload_n 0, 1) := by decide +kernel
theorem dX11_codeOfWaiting_48 : decode cX11_codeOfWaiting 48 = .ok (.getfield 30, 3) := by decide +kernel
theorem dX11_codeOfWaiting_51 : decode cX11_codeOfWaiting 51 = .ok (.iload_n 1, 1) := by decide +kernel
theorem dX11_codeOfWaiting_52 : decode cX11_codeOfWaiting 52 = .ok (.invokevirtual 139, 3) := by decide +kernel
theorem dX11_codeOfWaiting_55 : decode cX11_codeOfWaiting 55 = .ok (.ifCond .eq 18, 3) := by decide +kernel
theorem dX11_codeOfWaiting_58 : decode cX11_codeOfWaiting 58 = .ok (.aload_n 0, 1) := by decide +kernel
theorem dX11_codeOfWaiting_59 : decode cX11_codeOfWaiting 59 = .ok (.getfield 30, 3) := by decide +kernel
theorem dX11_codeOfWaiting_62 : decode cX11_codeOfWaiting 62 = .ok (.iload_n 2, 1) := by decide +kernel
theorem dX11_codeOfWaiting_63 : decode cX11_codeOfWaiting 63 = .ok (.invokevirtual 139, 3) := by decide +kernel
theorem dX11_codeOfWaiting_66 : decode cX11_codeOfWaiting 66 = .ok (.ifCond .eq 7, 3) := by decide +kernel
theorem dX11_codeOfWaiting_69 : decode cX11_codeOfWaiting 69 = .ok (.iconst 0, 1) := by decide +kernel
theorem dX11_codeOfWaiting_70 : decode cX11_codeOfWaiting 70 = .ok (.goto 5, 3) := by decide +kernel
theorem dX11_codeOfWaiting_73 : decode cX11_codeOfWaiting 73 = .ok (.bipush (-5), 2) := by decide +kernel
theorem dX11_codeOfWaiting_75 : decode cX11_codeOfWaiting 75 = .ok (.ireturn, 1) := by decide +kernel
def x_codeOfWaiting (I : Nat → Nat → Int32) (x : Nat) (c : Nat) (v1 : Int32) (v2 : Int32) (v3 : Int32) (v4 : Int32) : Int32 := if (x_noPerson I x c v1) = 0 then (if (x_noPerson I x c v2) = 0 then (if v1 = v2 then ((-2)) else (if (x_noTune I x c v3) = 0 then (if v4 < 0 then ((-3)) else (if v4 ≤ 20 then (if (s_isUp I (x + 12) v1) = 0 then ((-5)) else (if (s_isUp I (x + 12) v2) = 0 then ((-5)) else (0))) else ((-3)))) else ((-2)))) else ((-2))) else ((-2))
theorem c_x_codeOfWaiting {l : Launch} {D : va_G} {E : Nat → ClassId} {B : Nat → Prop} {n : Nat} {T : Nat → Option (Nat × Nat)} {I : Nat → Nat → Int32} {J : Nat → Nat → Int64} {P : Nat → Nat → Option Nat} {x : Nat} {c : Nat} {v1 : Int32} {v2 : Int32} {v3 : Int32} {v4 : Int32} (hx : isSR T P x) (hs_c : isCt T P c) (hc : P x 3 = some c) : Ct l D E B yX11_codeOfWaiting cX11_codeOfWaiting 5 (some .int) 1 0 0 [.ref x, .int v1, .int v2, .int v3, .int v4] (n, T, I, J, P) (Ret (some (.int (x_codeOfWaiting I x c v1 v2 v3 v4))) (n, T, I, J, P)) := by
  obtain ⟨r, hf⟩ : ∃ r, x_codeOfWaiting I x c v1 v2 v3 v4 = r := ⟨_, rfl⟩
  rw [hf]
  unfold x_codeOfWaiting at hf
  refine Ct.ofV (by decide) (Nat.le_of_ble_eq_true rfl) ?_
  refine V.aload_n dX11_codeOfWaiting_0 rfl ?_
  refine V.iload_n dX11_codeOfWaiting_1 rfl ?_
  refine V.inv cv_X11_127 (c_x_noPerson hx hs_c hc) dX11_codeOfWaiting_2 (hx.1 0 (11, 0) rfl) (by decide) rfl rfl rfl (Nat.le_of_ble_eq_true rfl) (by decide) (by decide) (Nat.le_refl _) (Nat.le_refl _) (fun _ _ hq => ?_)
  obtain ⟨rfl, rfl⟩ := hq
  refine V.if_ne 29 dX11_codeOfWaiting_5 (by decide) (fun c1 => ?_) (fun c1 => ?_)
  · rw [if_neg c1] at hf
    refine V.bipush (v := -2) dX11_codeOfWaiting_29 (by decide) ?_
    subst hf
    exact V.iret dX11_codeOfWaiting_31 rfl (Nat.le_refl _) (Nat.le_refl _) ⟨rfl, rfl⟩
  · rw [if_pos c1] at hf
    refine V.aload_n dX11_codeOfWaiting_8 rfl ?_
    refine V.iload_n dX11_codeOfWaiting_9 rfl ?_
    refine V.inv cv_X11_127 (c_x_noPerson hx hs_c hc) dX11_codeOfWaiting_10 (hx.1 0 (11, 0) rfl) (by decide) rfl rfl rfl (Nat.le_of_ble_eq_true rfl) (by decide) (by decide) (Nat.le_refl _) (Nat.le_refl _) (fun _ _ hq => ?_)
    obtain ⟨rfl, rfl⟩ := hq
    refine V.if_ne 29 dX11_codeOfWaiting_13 (by decide) (fun c2 => ?_) (fun c2 => ?_)
    · rw [if_neg c2] at hf
      refine V.bipush (v := -2) dX11_codeOfWaiting_29 (by decide) ?_
      subst hf
      exact V.iret dX11_codeOfWaiting_31 rfl (Nat.le_refl _) (Nat.le_refl _) ⟨rfl, rfl⟩
    · rw [if_pos c2] at hf
      refine V.iload_n dX11_codeOfWaiting_16 rfl ?_
      refine V.iload_n dX11_codeOfWaiting_17 rfl ?_
      refine V.icmp_eq 29 dX11_codeOfWaiting_18 (by decide) (fun c3 => ?_) (fun c3 => ?_)
      · rw [if_pos c3] at hf
        refine V.bipush (v := -2) dX11_codeOfWaiting_29 (by decide) ?_
        subst hf
        exact V.iret dX11_codeOfWaiting_31 rfl (Nat.le_refl _) (Nat.le_refl _) ⟨rfl, rfl⟩
      · rw [if_neg c3] at hf
        refine V.aload_n dX11_codeOfWaiting_21 rfl ?_
        refine V.iload_n dX11_codeOfWaiting_22 rfl ?_
        refine V.inv cv_X11_155 (c_x_noTune hx hs_c hc) dX11_codeOfWaiting_23 (hx.1 0 (11, 0) rfl) (by decide) rfl rfl rfl (Nat.le_of_ble_eq_true rfl) (by decide) (by decide) (Nat.le_refl _) (Nat.le_refl _) (fun _ _ hq => ?_)
        obtain ⟨rfl, rfl⟩ := hq
        refine V.if_eq 32 dX11_codeOfWaiting_26 (by decide) (fun c4 => ?_) (fun c4 => ?_)
        · rw [if_pos c4] at hf
          refine V.iload dX11_codeOfWaiting_32 rfl ?_
          refine V.if_lt 44 dX11_codeOfWaiting_34 (by decide) (fun c5 => ?_) (fun c5 => ?_)
          · rw [if_pos c5] at hf
            refine V.bipush (v := -3) dX11_codeOfWaiting_44 (by decide) ?_
            subst hf
            exact V.iret dX11_codeOfWaiting_46 rfl (Nat.le_refl _) (Nat.le_refl _) ⟨rfl, rfl⟩
          · rw [if_neg c5] at hf
            refine V.iload dX11_codeOfWaiting_37 rfl ?_
            refine V.bipush (v := 20) dX11_codeOfWaiting_39 (by decide) ?_
            refine V.icmp_le 47 dX11_codeOfWaiting_41 (by decide) (fun c6 => ?_) (fun c6 => ?_)
            · rw [if_pos c6] at hf
              refine V.aload_n dX11_codeOfWaiting_47 rfl ?_
              refine V.getr fl_X11_30 dX11_codeOfWaiting_48 (hx.1 0 (11, 0) rfl) (hx.2.1 0 4 12 rfl) (by decide) rfl ?_
              refine V.iload_n dX11_codeOfWaiting_51 rfl ?_
              refine V.inv cv_X11_139 (c_s_isUp (hx.2.2.1 12 rfl)) dX11_codeOfWaiting_52 ((hx.2.2.1 12 rfl).1 0 (8, 0) rfl) (by decide) rfl rfl rfl (Nat.le_of_ble_eq_true rfl) (by decide) (by decide) (Nat.le_refl _) (Nat.le_refl _) (fun _ _ hq => ?_)
              obtain ⟨rfl, rfl⟩ := hq
              refine V.if_eq 73 dX11_codeOfWaiting_55 (by decide) (fun c7 => ?_) (fun c7 => ?_)
              · rw [if_pos c7] at hf
                refine V.bipush (v := -5) dX11_codeOfWaiting_73 (by decide) ?_
                subst hf
                exact V.iret dX11_codeOfWaiting_75 rfl (Nat.le_refl _) (Nat.le_refl _) ⟨rfl, rfl⟩
              · rw [if_neg c7] at hf
                refine V.aload_n dX11_codeOfWaiting_58 rfl ?_
                refine V.getr fl_X11_30 dX11_codeOfWaiting_59 (hx.1 0 (11, 0) rfl) (hx.2.1 0 4 12 rfl) (by decide) rfl ?_
                refine V.iload_n dX11_codeOfWaiting_62 rfl ?_
                refine V.inv cv_X11_139 (c_s_isUp (hx.2.2.1 12 rfl)) dX11_codeOfWaiting_63 ((hx.2.2.1 12 rfl).1 0 (8, 0) rfl) (by decide) rfl rfl rfl (Nat.le_of_ble_eq_true rfl) (by decide) (by decide) (Nat.le_refl _) (Nat.le_refl _) (fun _ _ hq => ?_)
                obtain ⟨rfl, rfl⟩ := hq
                refine V.if_eq 73 dX11_codeOfWaiting_66 (by decide) (fun c8 => ?_) (fun c8 => ?_)
                · rw [if_pos c8] at hf
                  refine V.bipush (v := -5) dX11_codeOfWaiting_73 (by decide) ?_
                  subst hf
                  exact V.iret dX11_codeOfWaiting_75 rfl (Nat.le_refl _) (Nat.le_refl _) ⟨rfl, rfl⟩
                · rw [if_neg c8] at hf
                  refine V.iconst (v := 0) dX11_codeOfWaiting_69 (by decide) ?_
                  refine V.goto 75 dX11_codeOfWaiting_70 (by decide) ?_
                  subst hf
                  exact V.iret dX11_codeOfWaiting_75 rfl (Nat.le_refl _) (Nat.le_refl _) ⟨rfl, rfl⟩
            · rw [if_neg c6] at hf
              refine V.bipush (v := -3) dX11_codeOfWaiting_44 (by decide) ?_
              subst hf
              exact V.iret dX11_codeOfWaiting_46 rfl (Nat.le_refl _) (Nat.le_refl _) ⟨rfl, rfl⟩
        · rw [if_neg c4] at hf
          refine V.bipush (v := -2) dX11_codeOfWaiting_29 (by decide) ?_
          subst hf
          exact V.iret dX11_codeOfWaiting_31 rfl (Nat.le_refl _) (Nat.le_refl _) ⟨rfl, rfl⟩
theorem dX11_findRests_0 : decode cX11_findRests 0 = .ok (.aload_n 0, 1) := by decide +kernel
theorem dX11_findRests_1 : decode cX11_findRests 1 = .ok (.getfield 75, 3) := by decide +kernel
theorem dX11_findRests_4 : decode cX11_findRests 4 = .ok (.getfield 385, 3) := by decide +kernel
theorem dX11_findRests_7 : decode cX11_findRests 7 = .ok (.aload_n 0, 1) := by decide +kernel
theorem dX11_findRests_8 : decode cX11_findRests 8 = .ok (.getfield 55, 3) := by decide +kernel
theorem dX11_findRests_11 : decode cX11_findRests 11 = .ok (.iload_n 1, 1) := by decide +kernel
theorem dX11_findRests_12 : decode cX11_findRests 12 = .ok (.iload_n 2, 1) := by decide +kernel
theorem dX11_findRests_13 : decode cX11_findRests 13 = .ok (.iload_n 3, 1) := by decide +kernel
theorem dX11_findRests_14 : decode cX11_findRests 14 = .ok (.iload 4, 2) := by decide +kernel
theorem dX11_findRests_16 : decode cX11_findRests 16 = .ok (.invokevirtual 340, 3) := by decide +kernel
theorem dX11_findRests_19 : decode cX11_findRests 19 = .ok (.ifCond .ne 23, 3) := by decide +kernel
theorem dX11_findRests_22 : decode cX11_findRests 22 = .ok (.aload_n 0, 1) := by decide +kernel
theorem dX11_findRests_23 : decode cX11_findRests 23 = .ok (.getfield 75, 3) := by decide +kernel
theorem dX11_findRests_26 : decode cX11_findRests 26 = .ok (.aload_n 0, 1) := by decide +kernel
theorem dX11_findRests_27 : decode cX11_findRests 27 = .ok (.getfield 23, 3) := by decide +kernel
theorem dX11_findRests_30 : decode cX11_findRests 30 = .ok (.aload_n 0, 1) := by decide +kernel
theorem dX11_findRests_31 : decode cX11_findRests 31 = .ok (.getfield 30, 3) := by decide +kernel
theorem dX11_findRests_34 : decode cX11_findRests 34 = .ok (.iload_n 1, 1) := by decide +kernel
theorem dX11_findRests_35 : decode cX11_findRests 35 = .ok (.iload_n 2, 1) := by decide +kernel
theorem dX11_findRests_36 : decode cX11_findRests 36 = .ok (.iload_n 3, 1) := by decide +kernel
theorem dX11_findRests_37 : decode cX11_findRests 37 = .ok (.iload 4, 2) := by decide +kernel
theorem dX11_findRests_39 : decode cX11_findRests 39 = .ok (.invokevirtual 388, 3) := by decide +kernel
theorem dX11_findRests_42 : decode cX11_findRests 42 = .ok (.return_, 1) := by decide +kernel
def x_findRests (F : Nat) (T : Nat → Option (Nat × Nat)) (I : Nat → Nat → Int32) (P : Nat → Nat → Option Nat) (x : Nat) (c : Nat) (v1 : Int32) (v2 : Int32) (v3 : Int32) (v4 : Int32) : Option ((Nat → Nat → Int32)) := (mm_knows I (x + 115) (I x 9) v1 v2 v3 v4).bind (fun q1 => let u3 := q1.1; let I4 := q1.2; if u3 = 0 then ((wa_find F T I4 P x c (x + 12) v1 v2 v3 v4).bind (fun q6 => let I8 := q6; some I8)) else (some I4))
theorem c_x_findRests {l : Launch} {D : va_G} {E : Nat → ClassId} {B : Nat → Prop} {n F : Nat} {T : Nat → Option (Nat × Nat)} {I : Nat → Nat → Int32} {J : Nat → Nat → Int64} {P : Nat → Nat → Option Nat} {x : Nat} {c : Nat} {v1 : Int32} {v2 : Int32} {v3 : Int32} {v4 : Int32} {r : (Nat → Nat → Int32)} (hx : isSR T P x) (hs_c : isCt T P c) (hc : P x 3 = some c) (hf : x_findRests F T I P x c v1 v2 v3 v4 = some r) : Ct l D E B yX11_findRests cX11_findRests 5 none 6 0 0 [.ref x, .int v1, .int v2, .int v3, .int v4] (n, T, I, J, P) (Ret (none) (n, T, r, J, P)) := by
  unfold x_findRests at hf
  refine Ct.ofV (by decide) (Nat.le_of_ble_eq_true rfl) ?_
  refine V.aload_n dX11_findRests_0 rfl ?_
  refine V.getr fl_X11_75 dX11_findRests_1 (hx.1 0 (11, 0) rfl) (hx.2.1 0 16 114 rfl) (by decide) rfl ?_
  refine V.getr fl_X11_385 dX11_findRests_4 (hx.1 114 (10, 0) rfl) (hx.2.1 114 0 115 rfl) (by decide) rfl ?_
  refine V.aload_n dX11_findRests_7 rfl ?_
  refine V.getf fl_X11_55 dX11_findRests_8 (hx.1 0 (11, 0) rfl) (by decide) rfl ?_
  refine V.iload_n dX11_findRests_11 rfl ?_
  refine V.iload_n dX11_findRests_12 rfl ?_
  refine V.iload_n dX11_findRests_13 rfl ?_
  refine V.iload dX11_findRests_14 rfl ?_
  obtain ⟨⟨u3, I4⟩, hk2, hf⟩ := bnd_some hf
  try dsimp only at hf
  refine V.inv cv_X11_340 (c_mm_knows (hx.2.2.2.1 115 rfl) hk2) dX11_findRests_16 ((hx.2.2.2.1 115 rfl).1 0 (3, 0) rfl) (by decide) rfl rfl rfl (Nat.le_of_ble_eq_true rfl) (by decide) (by decide) (Nat.le_refl _) (Nat.le_refl _) (fun _ _ hq => ?_)
  obtain ⟨rfl, rfl⟩ := hq
  try dsimp only
  refine V.if_ne 42 dX11_findRests_19 (by decide) (fun c5 => ?_) (fun c5 => ?_)
  · rw [if_neg c5] at hf
    obtain rfl := Option.some.inj hf
    exact V.vret dX11_findRests_42 rfl (Nat.le_refl _) (Nat.le_refl _) ⟨rfl, rfl⟩
  · rw [if_pos c5] at hf
    refine V.aload_n dX11_findRests_22 rfl ?_
    refine V.getr fl_X11_75 dX11_findRests_23 (hx.1 0 (11, 0) rfl) (hx.2.1 0 16 114 rfl) (by decide) rfl ?_
    refine V.aload_n dX11_findRests_26 rfl ?_
    refine V.getr fl_X11_23 dX11_findRests_27 (hx.1 0 (11, 0) rfl) hc (by decide) rfl ?_
    refine V.aload_n dX11_findRests_30 rfl ?_
    refine V.getr fl_X11_30 dX11_findRests_31 (hx.1 0 (11, 0) rfl) (hx.2.1 0 4 12 rfl) (by decide) rfl ?_
    refine V.iload_n dX11_findRests_34 rfl ?_
    refine V.iload_n dX11_findRests_35 rfl ?_
    refine V.iload_n dX11_findRests_36 rfl ?_
    refine V.iload dX11_findRests_37 rfl ?_
    obtain ⟨I8, hk7, hf⟩ := bnd_some hf
    try dsimp only at hf
    refine V.inv cv_X11_388 (c_wa_find hx hs_c (hx.2.2.1 12 rfl) hk7) dX11_findRests_39 (hx.1 114 (10, 0) rfl) (by decide) rfl rfl rfl (Nat.le_of_ble_eq_true rfl) (by decide) (by decide) (Nat.le_refl _) (Nat.le_refl _) (fun _ _ hq => ?_)
    obtain ⟨rfl, rfl⟩ := hq
    obtain rfl := Option.some.inj hf
    exact V.vret dX11_findRests_42 rfl (Nat.le_refl _) (Nat.le_refl _) ⟨rfl, rfl⟩
theorem dX11_rests_0 : decode cX11_rests 0 = .ok (.aload_n 0, 1) := by decide +kernel
theorem dX11_rests_1 : decode cX11_rests 1 = .ok (.iload_n 1, 1) := by decide +kernel
theorem dX11_rests_2 : decode cX11_rests 2 = .ok (.iload_n 2, 1) := by decide +kernel
theorem dX11_rests_3 : decode cX11_rests 3 = .ok (.iload_n 3, 1) := by decide +kernel
theorem dX11_rests_4 : decode cX11_rests 4 = .ok (.iload 4, 2) := by decide +kernel
theorem dX11_rests_6 : decode cX11_rests 6 = .ok (.invokevirtual 371, 3) := by decide +kernel
theorem dX11_rests_9 : decode cX11_rests 9 = .ok (.istore 5, 2) := by decide +kernel
theorem dX11_rests_11 : decode cX11_rests 11 = .ok (.iload 5, 2) := by decide +kernel
theorem dX11_rests_13 : decode cX11_rests 13 = .ok (.ifCond .eq 6, 3) := by decide +kernel
theorem dX11_rests_16 : decode cX11_rests 16 = .ok (.iload 5, 2) := by decide +kernel
theorem dX11_rests_18 : decode cX11_rests 18 = .ok (.ireturn, 1) := by decide +kernel
theorem dX11_rests_19 : decode cX11_rests 19 = .ok (.aload_n 0, 1) := by decide +kernel
theorem dX11_rests_20 : decode cX11_rests 20 = .ok (.iload_n 1, 1) := by decide +kernel
theorem dX11_rests_21 : decode cX11_rests 21 = .ok (.iload_n 2, 1) := by decide +kernel
theorem dX11_rests_22 : decode cX11_rests 22 = .ok (.iload_n 3, 1) := by decide +kernel
theorem dX11_rests_23 : decode cX11_rests 23 = .ok (.iload 4, 2) := by decide +kernel
theorem dX11_rests_25 : decode cX11_rests 25 = .ok (.invokevirtual 375, 3) := by decide +kernel
theorem dX11_rests_28 : decode cX11_rests 28 = .ok (.aload_n 0, 1) := by decide +kernel
theorem dX11_rests_29 : decode cX11_rests 29 = .ok (.getfield 75, 3) := by decide +kernel
theorem dX11_rests_32 : decode cX11_rests 32 = .ok (.getfield 379, 3) := by decide +kernel
theorem dX11_rests_35 : decode cX11_rests 35 = .ok (.ireturn, 1) := by decide +kernel
def x_rests (F : Nat) (T : Nat → Option (Nat × Nat)) (I : Nat → Nat → Int32) (P : Nat → Nat → Option Nat) (x : Nat) (c : Nat) (v1 : Int32) (v2 : Int32) (v3 : Int32) (v4 : Int32) : Option (Int32 × (Nat → Nat → Int32)) := let x1 := (x_codeOfWaiting I x c v1 v2 v3 v4); if x1 = 0 then ((x_findRests F T I P x c v1 v2 v3 v4).bind (fun q4 => let I6 := q4; some ((I6 (x + 114) 2), I6))) else (some (x1, I))
theorem c_x_rests {l : Launch} {D : va_G} {E : Nat → ClassId} {B : Nat → Prop} {n F : Nat} {T : Nat → Option (Nat × Nat)} {I : Nat → Nat → Int32} {J : Nat → Nat → Int64} {P : Nat → Nat → Option Nat} {x : Nat} {c : Nat} {v1 : Int32} {v2 : Int32} {v3 : Int32} {v4 : Int32} {r : Int32 × (Nat → Nat → Int32)} (hx : isSR T P x) (hs_c : isCt T P c) (hc : P x 3 = some c) (hf : x_rests F T I P x c v1 v2 v3 v4 = some r) : Ct l D E B yX11_rests cX11_rests 6 (some .int) 7 0 0 [.ref x, .int v1, .int v2, .int v3, .int v4] (n, T, I, J, P) (Ret (some (.int r.1)) (n, T, r.2, J, P)) := by
  unfold x_rests at hf
  refine Ct.ofV (by decide) (Nat.le_of_ble_eq_true rfl) ?_
  refine V.aload_n dX11_rests_0 rfl ?_
  refine V.iload_n dX11_rests_1 rfl ?_
  refine V.iload_n dX11_rests_2 rfl ?_
  refine V.iload_n dX11_rests_3 rfl ?_
  refine V.iload dX11_rests_4 rfl ?_
  refine V.inv cv_X11_371 (c_x_codeOfWaiting hx hs_c hc) dX11_rests_6 (hx.1 0 (11, 0) rfl) (by decide) rfl rfl rfl (Nat.le_of_ble_eq_true rfl) (by decide) (by decide) (Nat.le_refl _) (Nat.le_refl _) (fun _ _ hq => ?_)
  obtain ⟨rfl, rfl⟩ := hq
  refine V.istore dX11_rests_9 (by decide) (by first | exact rfl | exact trivial) ?_
  obtain ⟨x1, e2⟩ : ∃ zz_, zz_ = (x_codeOfWaiting I x c v1 v2 v3 v4) := ⟨_, rfl⟩
  rw [← e2] at hf ⊢
  try dsimp only at hf
  refine V.iload dX11_rests_11 rfl ?_
  refine V.if_eq 19 dX11_rests_13 (by decide) (fun c3 => ?_) (fun c3 => ?_)
  · rw [if_pos c3] at hf
    refine V.aload_n dX11_rests_19 rfl ?_
    refine V.iload_n dX11_rests_20 rfl ?_
    refine V.iload_n dX11_rests_21 rfl ?_
    refine V.iload_n dX11_rests_22 rfl ?_
    refine V.iload dX11_rests_23 rfl ?_
    obtain ⟨I6, hk5, hf⟩ := bnd_some hf
    try dsimp only at hf
    refine V.inv cv_X11_375 (c_x_findRests hx hs_c hc hk5) dX11_rests_25 (hx.1 0 (11, 0) rfl) (by decide) rfl rfl rfl (Nat.le_of_ble_eq_true rfl) (by decide) (by decide) (Nat.le_refl _) (Nat.le_refl _) (fun _ _ hq => ?_)
    obtain ⟨rfl, rfl⟩ := hq
    refine V.aload_n dX11_rests_28 rfl ?_
    refine V.getr fl_X11_75 dX11_rests_29 (hx.1 0 (11, 0) rfl) (hx.2.1 0 16 114 rfl) (by decide) rfl ?_
    refine V.getf fl_X11_379 dX11_rests_32 (hx.1 114 (10, 0) rfl) (by decide) rfl ?_
    obtain rfl := Option.some.inj hf
    exact V.iret dX11_rests_35 rfl (Nat.le_refl _) (Nat.le_refl _) ⟨rfl, rfl⟩
  · rw [if_neg c3] at hf
    refine V.iload dX11_rests_16 rfl ?_
    obtain rfl := Option.some.inj hf
    exact V.iret dX11_rests_18 rfl (Nat.le_refl _) (Nat.le_refl _) ⟨rfl, rfl⟩
theorem dX11_rest_0 : decode cX11_rest 0 = .ok (.aload_n 0, 1) := by decide +kernel
theorem dX11_rest_1 : decode cX11_rest 1 = .ok (.iload_n 1, 1) := by decide +kernel
theorem dX11_rest_2 : decode cX11_rest 2 = .ok (.iload_n 2, 1) := by decide +kernel
theorem dX11_rest_3 : decode cX11_rest 3 = .ok (.iload_n 3, 1) := by decide +kernel
theorem dX11_rest_4 : decode cX11_rest 4 = .ok (.iload 4, 2) := by decide +kernel
theorem dX11_rest_6 : decode cX11_rest 6 = .ok (.invokevirtual 371, 3) := by decide +kernel
theorem dX11_rest_9 : decode cX11_rest 9 = .ok (.istore 6, 2) := by decide +kernel
theorem dX11_rest_11 : decode cX11_rest 11 = .ok (.iload 6, 2) := by decide +kernel
theorem dX11_rest_13 : decode cX11_rest 13 = .ok (.ifCond .eq 6, 3) := by decide +kernel
theorem dX11_rest_16 : decode cX11_rest 16 = .ok (.iload 6, 2) := by decide +kernel
theorem dX11_rest_18 : decode cX11_rest 18 = .ok (.ireturn, 1) := by decide +kernel
theorem dX11_rest_19 : decode cX11_rest 19 = .ok (.iload 5, 2) := by decide +kernel
theorem dX11_rest_21 : decode cX11_rest 21 = .ok (.ifCond .ge 6, 3) := by decide +kernel
theorem dX11_rest_24 : decode cX11_rest 24 = .ok (.bipush (-3), 2) := by decide +kernel
theorem dX11_rest_26 : decode cX11_rest 26 = .ok (.ireturn, 1) := by decide +kernel
theorem dX11_rest_27 : decode cX11_rest 27 = .ok (.aload_n 0, 1) := by decide +kernel
theorem dX11_rest_28 : decode cX11_rest 28 = .ok (.iload_n 1, 1) := by decide +kernel
theorem dX11_rest_29 : decode cX11_rest 29 = .ok (.iload_n 2, 1) := by decide +kernel
theorem dX11_rest_30 : decode cX11_rest 30 = .ok (.iload_n 3, 1) := by decide +kernel
theorem dX11_rest_31 : decode cX11_rest 31 = .ok (.iload 4, 2) := by decide +kernel
theorem dX11_rest_33 : decode cX11_rest 33 = .ok (.invokevirtual 375, 3) := by decide +kernel
theorem dX11_rest_36 : decode cX11_rest 36 = .ok (.iload 5, 2) := by decide +kernel
theorem dX11_rest_38 : decode cX11_rest 38 = .ok (.aload_n 0, 1) := by decide +kernel
theorem dX11_rest_39 : decode cX11_rest 39 = .ok (.getfield 75, 3) := by decide +kernel
theorem dX11_rest_42 : decode cX11_rest 42 = .ok (.getfield 379, 3) := by decide +kernel
theorem dX11_rest_45 : decode cX11_rest 45 = .ok (.if_icmp .ge 16, 3) := by decide +kernel
theorem dX11_rest_48 : decode cX11_rest 48 = .ok (.aload_n 0, 1) := by decide +kernel
theorem dX11_rest_49 : decode cX11_rest 49 = .ok (.getfield 75, 3) := by decide +kernel
theorem dX11_rest_52 : decode cX11_rest 52 = .ok (.getfield 382, 3) := by decide +kernel
theorem dX11_rest_55 : decode cX11_rest 55 = .ok (.iload 5, 2) := by decide +kernel
theorem dX11_rest_57 : decode cX11_rest 57 = .ok (.iaload, 1) := by decide +kernel
theorem dX11_rest_58 : decode cX11_rest 58 = .ok (.goto 4, 3) := by decide +kernel
theorem dX11_rest_61 : decode cX11_rest 61 = .ok (.iconst (-1), 1) := by decide +kernel
theorem dX11_rest_62 : decode cX11_rest 62 = .ok (.ireturn, 1) := by decide +kernel
def x_rest (F : Nat) (T : Nat → Option (Nat × Nat)) (I : Nat → Nat → Int32) (P : Nat → Nat → Option Nat) (x : Nat) (c : Nat) (v1 : Int32) (v2 : Int32) (v3 : Int32) (v4 : Int32) (v5 : Int32) : Option (Int32 × (Nat → Nat → Int32)) := let x1 := (x_codeOfWaiting I x c v1 v2 v3 v4); if x1 = 0 then (if 0 ≤ v5 then ((x_findRests F T I P x c v1 v2 v3 v4).bind (fun q5 => let I7 := q5; if (I7 (x + 114) 2) ≤ v5 then (some ((-1), I7)) else (chk v5 441 (some ((I7 (x + 117) (Int32.toNatClampNeg v5)), I7))))) else (some ((-3), I))) else (some (x1, I))
theorem c_x_rest {l : Launch} {D : va_G} {E : Nat → ClassId} {B : Nat → Prop} {n F : Nat} {T : Nat → Option (Nat × Nat)} {I : Nat → Nat → Int32} {J : Nat → Nat → Int64} {P : Nat → Nat → Option Nat} {x : Nat} {c : Nat} {v1 : Int32} {v2 : Int32} {v3 : Int32} {v4 : Int32} {v5 : Int32} {r : Int32 × (Nat → Nat → Int32)} (hx : isSR T P x) (hs_c : isCt T P c) (hc : P x 3 = some c) (hf : x_rest F T I P x c v1 v2 v3 v4 v5 = some r) : Ct l D E B yX11_rest cX11_rest 7 (some .int) 7 0 0 [.ref x, .int v1, .int v2, .int v3, .int v4, .int v5] (n, T, I, J, P) (Ret (some (.int r.1)) (n, T, r.2, J, P)) := by
  unfold x_rest at hf
  refine Ct.ofV (by decide) (Nat.le_of_ble_eq_true rfl) ?_
  refine V.aload_n dX11_rest_0 rfl ?_
  refine V.iload_n dX11_rest_1 rfl ?_
  refine V.iload_n dX11_rest_2 rfl ?_
  refine V.iload_n dX11_rest_3 rfl ?_
  refine V.iload dX11_rest_4 rfl ?_
  refine V.inv cv_X11_371 (c_x_codeOfWaiting hx hs_c hc) dX11_rest_6 (hx.1 0 (11, 0) rfl) (by decide) rfl rfl rfl (Nat.le_of_ble_eq_true rfl) (by decide) (by decide) (Nat.le_refl _) (Nat.le_refl _) (fun _ _ hq => ?_)
  obtain ⟨rfl, rfl⟩ := hq
  refine V.istore dX11_rest_9 (by decide) (by first | exact rfl | exact trivial) ?_
  obtain ⟨x1, e2⟩ : ∃ zz_, zz_ = (x_codeOfWaiting I x c v1 v2 v3 v4) := ⟨_, rfl⟩
  rw [← e2] at hf ⊢
  try dsimp only at hf
  refine V.iload dX11_rest_11 rfl ?_
  refine V.if_eq 19 dX11_rest_13 (by decide) (fun c3 => ?_) (fun c3 => ?_)
  · rw [if_pos c3] at hf
    refine V.iload dX11_rest_19 rfl ?_
    refine V.if_ge 27 dX11_rest_21 (by decide) (fun c4 => ?_) (fun c4 => ?_)
    · rw [if_pos c4] at hf
      refine V.aload_n dX11_rest_27 rfl ?_
      refine V.iload_n dX11_rest_28 rfl ?_
      refine V.iload_n dX11_rest_29 rfl ?_
      refine V.iload_n dX11_rest_30 rfl ?_
      refine V.iload dX11_rest_31 rfl ?_
      obtain ⟨I7, hk6, hf⟩ := bnd_some hf
      try dsimp only at hf
      refine V.inv cv_X11_375 (c_x_findRests hx hs_c hc hk6) dX11_rest_33 (hx.1 0 (11, 0) rfl) (by decide) rfl rfl rfl (Nat.le_of_ble_eq_true rfl) (by decide) (by decide) (Nat.le_refl _) (Nat.le_refl _) (fun _ _ hq => ?_)
      obtain ⟨rfl, rfl⟩ := hq
      refine V.iload dX11_rest_36 rfl ?_
      refine V.aload_n dX11_rest_38 rfl ?_
      refine V.getr fl_X11_75 dX11_rest_39 (hx.1 0 (11, 0) rfl) (hx.2.1 0 16 114 rfl) (by decide) rfl ?_
      refine V.getf fl_X11_379 dX11_rest_42 (hx.1 114 (10, 0) rfl) (by decide) rfl ?_
      refine V.icmp_ge 61 dX11_rest_45 (by decide) (fun c8 => ?_) (fun c8 => ?_)
      · rw [if_pos c8] at hf
        refine V.iconst (v := -1) dX11_rest_61 (by decide) ?_
        obtain rfl := Option.some.inj hf
        exact V.iret dX11_rest_62 rfl (Nat.le_refl _) (Nat.le_refl _) ⟨rfl, rfl⟩
      · rw [if_neg c8] at hf
        refine V.aload_n dX11_rest_48 rfl ?_
        refine V.getr fl_X11_75 dX11_rest_49 (hx.1 0 (11, 0) rfl) (hx.2.1 0 16 114 rfl) (by decide) rfl ?_
        refine V.getr fl_X11_382 dX11_rest_52 (hx.1 114 (10, 0) rfl) (hx.2.1 114 1 117 rfl) (by decide) rfl ?_
        refine V.iload dX11_rest_55 rfl ?_
        obtain ⟨hb9, hf⟩ := chk_some hf
        refine V.iald dX11_rest_57 (hx.1 117 (20, 441) rfl) hb9 ?_
        refine V.goto 62 dX11_rest_58 (by decide) ?_
        obtain rfl := Option.some.inj hf
        exact V.iret dX11_rest_62 rfl (Nat.le_refl _) (Nat.le_refl _) ⟨rfl, rfl⟩
    · rw [if_neg c4] at hf
      refine V.bipush (v := -3) dX11_rest_24 (by decide) ?_
      obtain rfl := Option.some.inj hf
      exact V.iret dX11_rest_26 rfl (Nat.le_refl _) (Nat.le_refl _) ⟨rfl, rfl⟩
  · rw [if_neg c3] at hf
    refine V.iload dX11_rest_16 rfl ?_
    obtain rfl := Option.some.inj hf
    exact V.iret dX11_rest_18 rfl (Nat.le_refl _) (Nat.le_refl _) ⟨rfl, rfl⟩
theorem dX11_commonDivisor_0 : decode cX11_commonDivisor 0 = .ok (.lload_n 0, 1) := by decide +kernel
theorem dX11_commonDivisor_1 : decode cX11_commonDivisor 1 = .ok (.lstore 4, 2) := by decide +kernel
theorem dX11_commonDivisor_3 : decode cX11_commonDivisor 3 = .ok (.lload_n 2, 1) := by decide +kernel
theorem dX11_commonDivisor_4 : decode cX11_commonDivisor 4 = .ok (.lstore 6, 2) := by decide +kernel
theorem dX11_commonDivisor_6 : decode cX11_commonDivisor 6 = .ok (.iconst 0, 1) := by decide +kernel
theorem dX11_commonDivisor_7 : decode cX11_commonDivisor 7 = .ok (.istore 8, 2) := by decide +kernel
theorem dX11_commonDivisor_9 : decode cX11_commonDivisor 9 = .ok (.iload 8, 2) := by decide +kernel
theorem dX11_commonDivisor_11 : decode cX11_commonDivisor 11 = .ok (.sipush 200, 3) := by decide +kernel
theorem dX11_commonDivisor_14 : decode cX11_commonDivisor 14 = .ok (.if_icmp .ge 31, 3) := by decide +kernel
theorem dX11_commonDivisor_17 : decode cX11_commonDivisor 17 = .ok (.lload 6, 2) := by decide +kernel
theorem dX11_commonDivisor_19 : decode cX11_commonDivisor 19 = .ok (.lconst 0, 1) := by decide +kernel
theorem dX11_commonDivisor_20 : decode cX11_commonDivisor 20 = .ok (.lcmp, 1) := by decide +kernel
theorem dX11_commonDivisor_21 : decode cX11_commonDivisor 21 = .ok (.ifCond .eq 24, 3) := by decide +kernel
theorem dX11_commonDivisor_24 : decode cX11_commonDivisor 24 = .ok (.lload 4, 2) := by decide +kernel
theorem dX11_commonDivisor_26 : decode cX11_commonDivisor 26 = .ok (.lload 6, 2) := by decide +kernel
theorem dX11_commonDivisor_28 : decode cX11_commonDivisor 28 = .ok (.lrem, 1) := by decide +kernel
theorem dX11_commonDivisor_29 : decode cX11_commonDivisor 29 = .ok (.lstore 9, 2) := by decide +kernel
theorem dX11_commonDivisor_31 : decode cX11_commonDivisor 31 = .ok (.lload 6, 2) := by decide +kernel
theorem dX11_commonDivisor_33 : decode cX11_commonDivisor 33 = .ok (.lstore 4, 2) := by decide +kernel
theorem dX11_commonDivisor_35 : decode cX11_commonDivisor 35 = .ok (.lload 9, 2) := by decide +kernel
theorem dX11_commonDivisor_37 : decode cX11_commonDivisor 37 = .ok (.lstore 6, 2) := by decide +kernel
theorem dX11_commonDivisor_39 : decode cX11_commonDivisor 39 = .ok (.iinc 8 1, 3) := by decide +kernel
theorem dX11_commonDivisor_42 : decode cX11_commonDivisor 42 = .ok (.goto (-33), 3) := by decide +kernel
theorem dX11_commonDivisor_45 : decode cX11_commonDivisor 45 = .ok (.lload 4, 2) := by decide +kernel
theorem dX11_commonDivisor_47 : decode cX11_commonDivisor 47 = .ok (.lreturn, 1) := by decide +kernel
def x_commonDivisor_9 (F : Nat) (g0 : Int64) (g2 : Int64) : Nat → Int64 → Int64 → Int32 → Option (Int64 × Int64 × Int32)
  | 0, _, _, _ => none
  | k + 1, l4, l6, l8 => if 200 ≤ l8 then (some (l4, l6, l8)) else (if (lg_cmp l6 0) = 0 then (some (l4, l6, l8)) else (nzl l6 (let x4 := (l4 - l4 / l6 * l6); x_commonDivisor_9 F g0 g2 k l6 x4 (l8 + 1))))
def x_commonDivisor (F : Nat) (v0 : Int64) (v2 : Int64) : Option (Int64) := (x_commonDivisor_9 F v0 v2 F v0 v2 0).bind (fun q6 => let m8 := q6.1; let m9 := q6.2.1; let m10 := q6.2.2; some m8)
theorem l_x_commonDivisor_9 {l : Launch} {D : va_G} {E : Nat → ClassId} {B : Nat → Prop} {n F : Nat} {Q : Option Value → HT → Prop} {T : Nat → Option (Nat × Nat)} {I : Nat → Nat → Int32} {J : Nat → Nat → Int64} {P : Nat → Nat → Option Nat}  {g0 : Int64} {g2 : Int64}   (r : Int64 × Int64 × Int32) : ∀ (k : Nat) (l4 : Int64) (l6 : Int64) (l8 : Int32), x_commonDivisor_9 F g0 g2 k l4 l6 l8 = some r → V l D E B yX11_commonDivisor cX11_commonDivisor 11 (some .long) 0 0 0 Q 0 0 (n, T, I, J, P) 45 [(0, some (.long g0)), (2, some (.long g2)), (4, some (.long (r.1))), (6, some (.long (r.2.1))), (8, some (.int (r.2.2)))] [] → V l D E B yX11_commonDivisor cX11_commonDivisor 11 (some .long) 0 0 0 Q 0 0 (n, T, I, J, P) 9 [(0, some (.long g0)), (2, some (.long g2)), (4, some (.long l4)), (6, some (.long l6)), (8, some (.int l8))] [] := by
  intro k
  induction k with
  | zero =>
    intro l4 l6 l8 hf hk
    cases hf
  | succ k ih =>
    intro l4 l6 l8 hf hk
    unfold x_commonDivisor_9 at hf
    refine V.iload dX11_commonDivisor_9 rfl ?_
    refine V.sipush (v := 200) dX11_commonDivisor_11 (by decide) ?_
    refine V.icmp_ge 45 dX11_commonDivisor_14 (by decide) (fun c1 => ?_) (fun c1 => ?_)
    · rw [if_pos c1] at hf
      obtain rfl := Option.some.inj hf
      exact V.lo [(0, some (.long g0)), (2, some (.long g2)), (4, some (.long l4)), (6, some (.long l6)), (8, some (.int l8))] (by simp only [Subs]; repeat' first | exact trivial | constructor | rfl) hk
    · rw [if_neg c1] at hf
      refine V.lload dX11_commonDivisor_17 rfl ?_
      refine V.lconst (v := 0) dX11_commonDivisor_19 (by decide) ?_
      refine V.lcmp dX11_commonDivisor_20 ?_
      refine V.if_eq 45 dX11_commonDivisor_21 (by decide) (fun c2 => ?_) (fun c2 => ?_)
      · rw [if_pos c2] at hf
        obtain rfl := Option.some.inj hf
        exact V.lo [(0, some (.long g0)), (2, some (.long g2)), (4, some (.long l4)), (6, some (.long l6)), (8, some (.int l8))] (by simp only [Subs]; repeat' first | exact trivial | constructor | rfl) hk
      · rw [if_neg c2] at hf
        refine V.lload dX11_commonDivisor_24 rfl ?_
        refine V.lload dX11_commonDivisor_26 rfl ?_
        obtain ⟨hz3, hf⟩ := nzl_some hf
        refine V.lrem dX11_commonDivisor_28 hz3 ?_
        refine V.lstore dX11_commonDivisor_29 (by decide) (by first | exact rfl | exact trivial) ?_
        obtain ⟨x4, e5⟩ : ∃ zz_, zz_ = (l4 - l4 / l6 * l6) := ⟨_, rfl⟩
        rw [← e5] at hf ⊢
        try dsimp only at hf
        refine V.lload dX11_commonDivisor_31 rfl ?_
        refine V.lstore dX11_commonDivisor_33 (by decide) (by first | exact rfl | exact trivial) ?_
        refine V.lload dX11_commonDivisor_35 rfl ?_
        refine V.lstore dX11_commonDivisor_37 (by decide) (by first | exact rfl | exact trivial) ?_
        refine V.iinc (v := (l8 + 1)) dX11_commonDivisor_39 rfl rfl (by first | exact rfl | exact trivial) ?_
        refine V.goto 9 dX11_commonDivisor_42 (by decide) ?_
        exact V.lo [(0, some (.long g0)), (2, some (.long g2)), (4, some (.long l6)), (6, some (.long x4)), (8, some (.int (l8 + 1)))] (by simp only [Subs]; repeat' first | exact trivial | constructor | rfl) (ih _ _ _ hf hk)
theorem c_x_commonDivisor {l : Launch} {D : va_G} {E : Nat → ClassId} {B : Nat → Prop} {n F : Nat} {T : Nat → Option (Nat × Nat)} {I : Nat → Nat → Int32} {J : Nat → Nat → Int64} {P : Nat → Nat → Option Nat}  {v0 : Int64} {v2 : Int64} {r : Int64}  (hf : x_commonDivisor F v0 v2 = some r) : Ct l D E B yX11_commonDivisor cX11_commonDivisor 11 (some .long) 0 0 0 [.long v0, .long v2] (n, T, I, J, P) (Ret (some (.long r)) (n, T, I, J, P)) := by
  unfold x_commonDivisor at hf
  refine Ct.ofV (by decide) (Nat.le_of_ble_eq_true rfl) ?_
  refine V.lload_n dX11_commonDivisor_0 rfl ?_
  refine V.lstore dX11_commonDivisor_1 (by decide) (by first | exact rfl | exact trivial) ?_
  refine V.lload_n dX11_commonDivisor_3 rfl ?_
  refine V.lstore dX11_commonDivisor_4 (by decide) (by first | exact rfl | exact trivial) ?_
  refine V.iconst (v := 0) dX11_commonDivisor_6 (by decide) ?_
  refine V.istore dX11_commonDivisor_7 (by decide) (by first | exact rfl | exact trivial) ?_
  obtain ⟨⟨m8, m9, m10⟩, hk7, hf⟩ := bnd_some hf
  try dsimp only at hf
  refine V.lo [(0, some (.long v0)), (2, some (.long v2)), (4, some (.long v0)), (6, some (.long v2)), (8, some (.int 0))] (by simp only [Subs]; repeat' first | exact trivial | constructor | rfl) (l_x_commonDivisor_9  _ F _ _ _ hk7 ?_)
  try dsimp only
  refine V.lload dX11_commonDivisor_45 rfl ?_
  obtain rfl := Option.some.inj hf
  exact V.lret dX11_commonDivisor_47 rfl (Nat.le_refl _) (Nat.le_refl _) ⟨rfl, rfl⟩
theorem dX11_numbers_0 : decode cX11_numbers 0 = .ok (.aload_n 0, 1) := by decide +kernel
theorem dX11_numbers_1 : decode cX11_numbers 1 = .ok (.iload_n 1, 1) := by decide +kernel
theorem dX11_numbers_2 : decode cX11_numbers 2 = .ok (.invokevirtual 211, 3) := by decide +kernel
theorem dX11_numbers_5 : decode cX11_numbers 5 = .ok (.ifCond .ne 12, 3) := by decide +kernel
theorem dX11_numbers_8 : decode cX11_numbers 8 = .ok (.iload_n 2, 1) := by decide +kernel
theorem dX11_numbers_9 : decode cX11_numbers 9 = .ok (.ifCond .lt 8, 3) := by decide +kernel
theorem dX11_numbers_12 : decode cX11_numbers 12 = .ok (.iload_n 2, 1) := by decide +kernel
theorem dX11_numbers_13 : decode cX11_numbers 13 = .ok (.iconst 3, 1) := by decide +kernel
theorem dX11_numbers_14 : decode cX11_numbers 14 = .ok (.if_icmp .le 6, 3) := by decide +kernel
theorem dX11_numbers_17 : decode cX11_numbers 17 = .ok (.bipush (-2), 2) := by decide +kernel
theorem dX11_numbers_19 : decode cX11_numbers 19 = .ok (.ireturn, 1) := by decide +kernel
theorem dX11_numbers_20 : decode cX11_numbers 20 = .ok (.iload_n 3, 1) := by decide +kernel
theorem dX11_numbers_21 : decode cX11_numbers 21 = .ok (.ifCond .lt 9, 3) := by decide +kernel
theorem dX11_numbers_24 : decode cX11_numbers 24 = .ok (.iload_n 3, 1) := by decide +kernel
theorem dX11_numbers_25 : decode cX11_numbers 25 = .ok (.bipush 40, 2) := by decide +kernel
theorem dX11_numbers_27 : decode cX11_numbers 27 = .ok (.if_icmp .le 6, 3) := by decide +kernel
theorem dX11_numbers_30 : decode cX11_numbers 30 = .ok (.bipush (-3), 2) := by decide +kernel
theorem dX11_numbers_32 : decode cX11_numbers 32 = .ok (.ireturn, 1) := by decide +kernel
theorem dX11_numbers_33 : decode cX11_numbers 33 = .ok (.aload_n 0, 1) := by decide +kernel
theorem dX11_numbers_34 : decode cX11_numbers 34 = .ok (.getfield 43, 3) := by decide +kernel
theorem dX11_numbers_37 : decode cX11_numbers 37 = .ok (.iload_n 1, 1) := by decide +kernel
theorem dX11_numbers_38 : decode cX11_numbers 38 = .ok (.aaload, 1) := by decide +kernel
theorem dX11_numbers_39 : decode cX11_numbers 39 = .ok (.iload_n 2, 1) := by decide +kernel
theorem dX11_numbers_40 : decode cX11_numbers 40 = .ok (.iload_n 3, 1) := by decide +kernel
theorem dX11_numbers_41 : decode cX11_numbers 41 = .ok (.invokevirtual 414, 3) := by decide +kernel
theorem dX11_numbers_44 : decode cX11_numbers 44 = .ok (.aload_n 0, 1) := by decide +kernel
theorem dX11_numbers_45 : decode cX11_numbers 45 = .ok (.dup, 1) := by decide +kernel
theorem dX11_numbers_46 : decode cX11_numbers 46 = .ok (.getfield 55, 3) := by decide +kernel
theorem dX11_numbers_49 : decode cX11_numbers 49 = .ok (.iconst 1, 1) := by decide +kernel
theorem dX11_numbers_50 : decode cX11_numbers 50 = .ok (.iadd, 1) := by decide +kernel
theorem dX11_numbers_51 : decode cX11_numbers 51 = .ok (.putfield 55, 3) := by decide +kernel
theorem dX11_numbers_54 : decode cX11_numbers 54 = .ok (.iconst 0, 1) := by decide +kernel
theorem dX11_numbers_55 : decode cX11_numbers 55 = .ok (.ireturn, 1) := by decide +kernel
def x_numbers (F : Nat) (T : Nat → Option (Nat × Nat)) (I : Nat → Nat → Int32) (J : Nat → Nat → Int64) (x : Nat) (v1 : Int32) (v2 : Int32) (v3 : Int32) : Option (Int32 × (Nat → Nat → Int32) × (Nat → Nat → Int64)) := if (x_noTray x v1) = 0 then (if v2 < 0 then (some ((-2), I, J)) else (if v2 ≤ 3 then (if v3 < 0 then (some ((-3), I, J)) else (if v3 ≤ 40 then (chk v1 4 ((ty_begin F T I J (x + (135 + 2 * (Int32.toNatClampNeg v1))) v2 v3).bind (fun q7 => let I9 := q7.1; let J10 := q7.2; let I11 := uI I9 x 9 ((I9 x 9) + 1); some (0, I11, J10)))) else (some ((-3), I, J)))) else (some ((-2), I, J)))) else (some ((-2), I, J))
theorem c_x_numbers {l : Launch} {D : va_G} {E : Nat → ClassId} {B : Nat → Prop} {n F : Nat} {T : Nat → Option (Nat × Nat)} {I : Nat → Nat → Int32} {J : Nat → Nat → Int64} {P : Nat → Nat → Option Nat} {x : Nat} {v1 : Int32} {v2 : Int32} {v3 : Int32} {r : Int32 × (Nat → Nat → Int32) × (Nat → Nat → Int64)} (hx : isSR T P x) (hf : x_numbers F T I J x v1 v2 v3 = some r) : Ct l D E B yX11_numbers cX11_numbers 4 (some .int) 2 0 0 [.ref x, .int v1, .int v2, .int v3] (n, T, I, J, P) (Ret (some (.int r.1)) (n, T, r.2.1, r.2.2, P)) := by
  unfold x_numbers at hf
  refine Ct.ofV (by decide) (Nat.le_of_ble_eq_true rfl) ?_
  refine V.aload_n dX11_numbers_0 rfl ?_
  refine V.iload_n dX11_numbers_1 rfl ?_
  refine V.inv cv_X11_211 (c_x_noTray hx) dX11_numbers_2 (hx.1 0 (11, 0) rfl) (by decide) rfl rfl rfl (Nat.le_of_ble_eq_true rfl) (by decide) (by decide) (Nat.le_refl _) (Nat.le_refl _) (fun _ _ hq => ?_)
  obtain ⟨rfl, rfl⟩ := hq
  refine V.if_ne 17 dX11_numbers_5 (by decide) (fun c1 => ?_) (fun c1 => ?_)
  · rw [if_neg c1] at hf
    refine V.bipush (v := -2) dX11_numbers_17 (by decide) ?_
    obtain rfl := Option.some.inj hf
    exact V.iret dX11_numbers_19 rfl (Nat.le_refl _) (Nat.le_refl _) ⟨rfl, rfl⟩
  · rw [if_pos c1] at hf
    refine V.iload_n dX11_numbers_8 rfl ?_
    refine V.if_lt 17 dX11_numbers_9 (by decide) (fun c2 => ?_) (fun c2 => ?_)
    · rw [if_pos c2] at hf
      refine V.bipush (v := -2) dX11_numbers_17 (by decide) ?_
      obtain rfl := Option.some.inj hf
      exact V.iret dX11_numbers_19 rfl (Nat.le_refl _) (Nat.le_refl _) ⟨rfl, rfl⟩
    · rw [if_neg c2] at hf
      refine V.iload_n dX11_numbers_12 rfl ?_
      refine V.iconst (v := 3) dX11_numbers_13 (by decide) ?_
      refine V.icmp_le 20 dX11_numbers_14 (by decide) (fun c3 => ?_) (fun c3 => ?_)
      · rw [if_pos c3] at hf
        refine V.iload_n dX11_numbers_20 rfl ?_
        refine V.if_lt 30 dX11_numbers_21 (by decide) (fun c4 => ?_) (fun c4 => ?_)
        · rw [if_pos c4] at hf
          refine V.bipush (v := -3) dX11_numbers_30 (by decide) ?_
          obtain rfl := Option.some.inj hf
          exact V.iret dX11_numbers_32 rfl (Nat.le_refl _) (Nat.le_refl _) ⟨rfl, rfl⟩
        · rw [if_neg c4] at hf
          refine V.iload_n dX11_numbers_24 rfl ?_
          refine V.bipush (v := 40) dX11_numbers_25 (by decide) ?_
          refine V.icmp_le 33 dX11_numbers_27 (by decide) (fun c5 => ?_) (fun c5 => ?_)
          · rw [if_pos c5] at hf
            refine V.aload_n dX11_numbers_33 rfl ?_
            refine V.getr fl_X11_43 dX11_numbers_34 (hx.1 0 (11, 0) rfl) (hx.2.1 0 6 91 rfl) (by decide) rfl ?_
            refine V.iload_n dX11_numbers_37 rfl ?_
            obtain ⟨hb6, hf⟩ := chk_some hf
            refine V.aald dX11_numbers_38 (hx.1 91 (26, 4) rfl) (by decide) hb6 (hx.arr91 (i := v1) hb6) ?_
            refine V.iload_n dX11_numbers_39 rfl ?_
            refine V.iload_n dX11_numbers_40 rfl ?_
            obtain ⟨⟨I9, J10⟩, hk8, hf⟩ := bnd_some hf
            try dsimp only at hf
            refine V.inv cv_X11_414 (c_ty_begin (hx.ob91 (i := v1) hb6) hk8) dX11_numbers_41 ((hx.ob91 (i := v1) hb6).1 0 (9, 0) rfl) (by decide) rfl rfl rfl (Nat.le_of_ble_eq_true rfl) (by decide) (by decide) (Nat.le_refl _) (Nat.le_refl _) (fun _ _ hq => ?_)
            obtain ⟨rfl, rfl⟩ := hq
            try dsimp only
            refine V.aload_n dX11_numbers_44 rfl ?_
            refine V.dup dX11_numbers_45 rfl ?_
            refine V.getf fl_X11_55 dX11_numbers_46 (hx.1 0 (11, 0) rfl) (by decide) rfl ?_
            refine V.iconst (v := 1) dX11_numbers_49 (by decide) ?_
            refine V.iadd dX11_numbers_50 ?_
            refine V.putiE fl_X11_55 dX11_numbers_51 (hx.1 0 (11, 0) rfl) (by decide) (fun h => by cases h) rfl rfl rfl (Nat.le_of_ble_eq_true rfl) (fun I11 e12 => ?_)
            rw [← e12] at hf
            try dsimp only at hf
            clear e12
            refine V.iconst (v := 0) dX11_numbers_54 (by decide) ?_
            obtain rfl := Option.some.inj hf
            exact V.iret dX11_numbers_55 rfl (Nat.le_refl _) (Nat.le_refl _) ⟨rfl, rfl⟩
          · rw [if_neg c5] at hf
            refine V.bipush (v := -3) dX11_numbers_30 (by decide) ?_
            obtain rfl := Option.some.inj hf
            exact V.iret dX11_numbers_32 rfl (Nat.le_refl _) (Nat.le_refl _) ⟨rfl, rfl⟩
      · rw [if_neg c3] at hf
        refine V.bipush (v := -2) dX11_numbers_17 (by decide) ?_
        obtain rfl := Option.some.inj hf
        exact V.iret dX11_numbers_19 rfl (Nat.le_refl _) (Nat.le_refl _) ⟨rfl, rfl⟩
theorem dX11_write_0 : decode cX11_write 0 = .ok (.aload_n 0, 1) := by decide +kernel
theorem dX11_write_1 : decode cX11_write 1 = .ok (.iload_n 1, 1) := by decide +kernel
theorem dX11_write_2 : decode cX11_write 2 = .ok (.invokevirtual 211, 3) := by decide +kernel
theorem dX11_write_5 : decode cX11_write 5 = .ok (.ifCond .eq 7, 3) := by decide +kernel
theorem dX11_write_8 : decode cX11_write 8 = .ok (.ldc2_w 392, 3) := by decide +kernel
theorem dX11_write_11 : decode cX11_write 11 = .ok (.lreturn, 1) := by decide +kernel
theorem dX11_write_12 : decode cX11_write 12 = .ok (.aload_n 0, 1) := by decide +kernel
theorem dX11_write_13 : decode cX11_write 13 = .ok (.getfield 43, 3) := by decide +kernel
theorem dX11_write_16 : decode cX11_write 16 = .ok (.iload_n 1, 1) := by decide +kernel
theorem dX11_write_17 : decode cX11_write 17 = .ok (.aaload, 1) := by decide +kernel
theorem dX11_write_18 : decode cX11_write 18 = .ok (.astore 5, 2) := by decide +kernel
theorem dX11_write_20 : decode cX11_write 20 = .ok (.aload 5, 2) := by decide +kernel
theorem dX11_write_22 : decode cX11_write 22 = .ok (.invokevirtual 214, 3) := by decide +kernel
theorem dX11_write_25 : decode cX11_write 25 = .ok (.ifCond .eq 7, 3) := by decide +kernel
theorem dX11_write_28 : decode cX11_write 28 = .ok (.ldc2_w 417, 3) := by decide +kernel
theorem dX11_write_31 : decode cX11_write 31 = .ok (.lreturn, 1) := by decide +kernel
theorem dX11_write_32 : decode cX11_write 32 = .ok (.iload_n 2, 1) := by decide +kernel
theorem dX11_write_33 : decode cX11_write 33 = .ok (.ifCond .lt 12, 3) := by decide +kernel
theorem dX11_write_36 : decode cX11_write 36 = .ok (.iload_n 2, 1) := by decide +kernel
theorem dX11_write_37 : decode cX11_write 37 = .ok (.aload 5, 2) := by decide +kernel
theorem dX11_write_39 : decode cX11_write 39 = .ok (.getfield 222, 3) := by decide +kernel
theorem dX11_write_42 : decode cX11_write 42 = .ok (.if_icmp .lt 7, 3) := by decide +kernel
theorem dX11_write_45 : decode cX11_write 45 = .ok (.ldc2_w 419, 3) := by decide +kernel
theorem dX11_write_48 : decode cX11_write 48 = .ok (.lreturn, 1) := by decide +kernel
theorem dX11_write_49 : decode cX11_write 49 = .ok (.aload 5, 2) := by decide +kernel
theorem dX11_write_51 : decode cX11_write 51 = .ok (.getfield 225, 3) := by decide +kernel
theorem dX11_write_54 : decode cX11_write 54 = .ok (.iload_n 2, 1) := by decide +kernel
theorem dX11_write_55 : decode cX11_write 55 = .ok (.aload 5, 2) := by decide +kernel
theorem dX11_write_57 : decode cX11_write 57 = .ok (.lload_n 3, 1) := by decide +kernel
theorem dX11_write_58 : decode cX11_write 58 = .ok (.invokevirtual 421, 3) := by decide +kernel
theorem dX11_write_61 : decode cX11_write 61 = .ok (.lastore, 1) := by decide +kernel
theorem dX11_write_62 : decode cX11_write 62 = .ok (.aload_n 0, 1) := by decide +kernel
theorem dX11_write_63 : decode cX11_write 63 = .ok (.dup, 1) := by decide +kernel
theorem dX11_write_64 : decode cX11_write 64 = .ok (.getfield 55, 3) := by decide +kernel
theorem dX11_write_67 : decode cX11_write 67 = .ok (.iconst 1, 1) := by decide +kernel
theorem dX11_write_68 : decode cX11_write 68 = .ok (.iadd, 1) := by decide +kernel
theorem dX11_write_69 : decode cX11_write 69 = .ok (.putfield 55, 3) := by decide +kernel
theorem dX11_write_72 : decode cX11_write 72 = .ok (.aload 5, 2) := by decide +kernel
theorem dX11_write_74 : decode cX11_write 74 = .ok (.getfield 225, 3) := by decide +kernel
theorem dX11_write_77 : decode cX11_write 77 = .ok (.iload_n 2, 1) := by decide +kernel
theorem dX11_write_78 : decode cX11_write 78 = .ok (.laload, 1) := by decide +kernel
theorem dX11_write_79 : decode cX11_write 79 = .ok (.lreturn, 1) := by decide +kernel
def x_write (I : Nat → Nat → Int32) (J : Nat → Nat → Int64) (x : Nat) (v1 : Int32) (v2 : Int32) (v3 : Int64) : Option (Int64 × (Nat → Nat → Int32) × (Nat → Nat → Int64)) := if (x_noTray x v1) = 0 then (chk v1 4 (if (ty_isMissing I (x + (135 + 2 * (Int32.toNatClampNeg v1)))) = 0 then (if v2 < 0 then (some ((-7), I, J)) else (if v2 < (I (x + (135 + 2 * (Int32.toNatClampNeg v1))) 1) then (chk v2 40 (let J7 := uJ J ((x + (135 + 2 * (Int32.toNatClampNeg v1))) + 1) (Int32.toNatClampNeg v2) (ty_cut I (x + (135 + 2 * (Int32.toNatClampNeg v1))) v3); let I9 := uI I x 9 ((I x 9) + 1); some ((J7 ((x + (135 + 2 * (Int32.toNatClampNeg v1))) + 1) (Int32.toNatClampNeg v2)), I9, J7))) else (some ((-7), I, J)))) else (some ((-6), I, J)))) else (some ((-2), I, J))
theorem c_x_write {l : Launch} {D : va_G} {E : Nat → ClassId} {B : Nat → Prop} {n : Nat} {T : Nat → Option (Nat × Nat)} {I : Nat → Nat → Int32} {J : Nat → Nat → Int64} {P : Nat → Nat → Option Nat} {x : Nat} {v1 : Int32} {v2 : Int32} {v3 : Int64} {r : Int64 × (Nat → Nat → Int32) × (Nat → Nat → Int64)} (hx : isSR T P x) (hf : x_write I J x v1 v2 v3 = some r) : Ct l D E B yX11_write cX11_write 6 (some .long) 1 0 0 [.ref x, .int v1, .int v2, .long v3] (n, T, I, J, P) (Ret (some (.long r.1)) (n, T, r.2.1, r.2.2, P)) := by
  unfold x_write at hf
  refine Ct.ofV (by decide) (Nat.le_of_ble_eq_true rfl) ?_
  refine V.aload_n dX11_write_0 rfl ?_
  refine V.iload_n dX11_write_1 rfl ?_
  refine V.inv cv_X11_211 (c_x_noTray hx) dX11_write_2 (hx.1 0 (11, 0) rfl) (by decide) rfl rfl rfl (Nat.le_of_ble_eq_true rfl) (by decide) (by decide) (Nat.le_refl _) (Nat.le_refl _) (fun _ _ hq => ?_)
  obtain ⟨rfl, rfl⟩ := hq
  refine V.if_eq 12 dX11_write_5 (by decide) (fun c1 => ?_) (fun c1 => ?_)
  · rw [if_pos c1] at hf
    refine V.aload_n dX11_write_12 rfl ?_
    refine V.getr fl_X11_43 dX11_write_13 (hx.1 0 (11, 0) rfl) (hx.2.1 0 6 91 rfl) (by decide) rfl ?_
    refine V.iload_n dX11_write_16 rfl ?_
    obtain ⟨hb2, hf⟩ := chk_some hf
    refine V.aald dX11_write_17 (hx.1 91 (26, 4) rfl) (by decide) hb2 (hx.arr91 (i := v1) hb2) ?_
    refine V.astore dX11_write_18 (by decide) (by first | exact rfl | exact trivial) ?_
    refine V.aload dX11_write_20 rfl ?_
    refine V.inv cv_X11_214 (c_ty_isMissing (hx.ob91 (i := v1) hb2)) dX11_write_22 ((hx.ob91 (i := v1) hb2).1 0 (9, 0) rfl) (by decide) rfl rfl rfl (Nat.le_of_ble_eq_true rfl) (by decide) (by decide) (Nat.le_refl _) (Nat.le_refl _) (fun _ _ hq => ?_)
    obtain ⟨rfl, rfl⟩ := hq
    refine V.if_eq 32 dX11_write_25 (by decide) (fun c3 => ?_) (fun c3 => ?_)
    · rw [if_pos c3] at hf
      refine V.iload_n dX11_write_32 rfl ?_
      refine V.if_lt 45 dX11_write_33 (by decide) (fun c4 => ?_) (fun c4 => ?_)
      · rw [if_pos c4] at hf
        refine V.ldc2 dX11_write_45 kc_X11_419 ?_
        obtain rfl := Option.some.inj hf
        exact V.lret dX11_write_48 rfl (Nat.le_refl _) (Nat.le_refl _) ⟨rfl, rfl⟩
      · rw [if_neg c4] at hf
        refine V.iload_n dX11_write_36 rfl ?_
        refine V.aload dX11_write_37 rfl ?_
        refine V.getf fl_X11_222 dX11_write_39 ((hx.ob91 (i := v1) hb2).1 0 (9, 0) rfl) (by decide) rfl ?_
        refine V.icmp_lt 49 dX11_write_42 (by decide) (fun c5 => ?_) (fun c5 => ?_)
        · rw [if_pos c5] at hf
          refine V.aload dX11_write_49 rfl ?_
          refine V.getr fl_X11_225 dX11_write_51 ((hx.ob91 (i := v1) hb2).1 0 (9, 0) rfl) ((hx.ob91 (i := v1) hb2).2 0 0 1 rfl) (by decide) rfl ?_
          refine V.iload_n dX11_write_54 rfl ?_
          refine V.aload dX11_write_55 rfl ?_
          refine V.lload_n dX11_write_57 rfl ?_
          refine V.inv cv_X11_421 (c_ty_cut (hx.ob91 (i := v1) hb2)) dX11_write_58 ((hx.ob91 (i := v1) hb2).1 0 (9, 0) rfl) (by decide) rfl rfl rfl (Nat.le_of_ble_eq_true rfl) (by decide) (by decide) (Nat.le_refl _) (Nat.le_refl _) (fun _ _ hq => ?_)
          obtain ⟨rfl, rfl⟩ := hq
          obtain ⟨hb6, hf⟩ := chk_some hf
          refine V.lastE dX11_write_61 ((hx.ob91 (i := v1) hb2).1 1 (22, 40) rfl) hb6 (fun J7 e8 => ?_)
          rw [← e8] at hf
          try dsimp only at hf
          clear e8
          refine V.aload_n dX11_write_62 rfl ?_
          refine V.dup dX11_write_63 rfl ?_
          refine V.getf fl_X11_55 dX11_write_64 (hx.1 0 (11, 0) rfl) (by decide) rfl ?_
          refine V.iconst (v := 1) dX11_write_67 (by decide) ?_
          refine V.iadd dX11_write_68 ?_
          refine V.putiE fl_X11_55 dX11_write_69 (hx.1 0 (11, 0) rfl) (by decide) (fun h => by cases h) rfl rfl rfl (Nat.le_of_ble_eq_true rfl) (fun I9 e10 => ?_)
          rw [← e10] at hf
          try dsimp only at hf
          clear e10
          refine V.aload dX11_write_72 rfl ?_
          refine V.getr fl_X11_225 dX11_write_74 ((hx.ob91 (i := v1) hb2).1 0 (9, 0) rfl) ((hx.ob91 (i := v1) hb2).2 0 0 1 rfl) (by decide) rfl ?_
          refine V.iload_n dX11_write_77 rfl ?_
          refine V.lald dX11_write_78 ((hx.ob91 (i := v1) hb2).1 1 (22, 40) rfl) hb6 ?_
          obtain rfl := Option.some.inj hf
          exact V.lret dX11_write_79 rfl (Nat.le_refl _) (Nat.le_refl _) ⟨rfl, rfl⟩
        · rw [if_neg c5] at hf
          refine V.ldc2 dX11_write_45 kc_X11_419 ?_
          obtain rfl := Option.some.inj hf
          exact V.lret dX11_write_48 rfl (Nat.le_refl _) (Nat.le_refl _) ⟨rfl, rfl⟩
    · rw [if_neg c3] at hf
      refine V.ldc2 dX11_write_28 kc_X11_417 ?_
      obtain rfl := Option.some.inj hf
      exact V.lret dX11_write_31 rfl (Nat.le_refl _) (Nat.le_refl _) ⟨rfl, rfl⟩
  · rw [if_neg c1] at hf
    refine V.ldc2 dX11_write_8 kc_X11_392 ?_
    obtain rfl := Option.some.inj hf
    exact V.lret dX11_write_11 rfl (Nat.le_refl _) (Nat.le_refl _) ⟨rfl, rfl⟩
theorem dX11_count_0 : decode cX11_count 0 = .ok (.iload_n 1, 1) := by decide +kernel
theorem dX11_count_1 : decode cX11_count 1 = .ok (.tableswitch 144 0 10 #[59, 67, 75, 83, 91, 99, 107, 115, 123, 131, 136], 59) := by decide +kernel
theorem dX11_count_60 : decode cX11_count 60 = .ok (.aload_n 0, 1) := by decide +kernel
theorem dX11_count_61 : decode cX11_count 61 = .ok (.getfield 23, 3) := by decide +kernel
theorem dX11_count_64 : decode cX11_count 64 = .ok (.getfield 168, 3) := by decide +kernel
theorem dX11_count_67 : decode cX11_count 67 = .ok (.ireturn, 1) := by decide +kernel
theorem dX11_count_68 : decode cX11_count 68 = .ok (.aload_n 0, 1) := by decide +kernel
theorem dX11_count_69 : decode cX11_count 69 = .ok (.getfield 23, 3) := by decide +kernel
theorem dX11_count_72 : decode cX11_count 72 = .ok (.getfield 171, 3) := by decide +kernel
theorem dX11_count_75 : decode cX11_count 75 = .ok (.ireturn, 1) := by decide +kernel
theorem dX11_count_76 : decode cX11_count 76 = .ok (.aload_n 0, 1) := by decide +kernel
theorem dX11_count_77 : decode cX11_count 77 = .ok (.getfield 23, 3) := by decide +kernel
theorem dX11_count_80 : decode cX11_count 80 = .ok (.getfield 425, 3) := by decide +kernel
theorem dX11_count_83 : decode cX11_count 83 = .ok (.ireturn, 1) := by decide +kernel
theorem dX11_count_84 : decode cX11_count 84 = .ok (.aload_n 0, 1) := by decide +kernel
theorem dX11_count_85 : decode cX11_count 85 = .ok (.getfield 30, 3) := by decide +kernel
theorem dX11_count_88 : decode cX11_count 88 = .ok (.getfield 233, 3) := by decide +kernel
theorem dX11_count_91 : decode cX11_count 91 = .ok (.ireturn, 1) := by decide +kernel
theorem dX11_count_92 : decode cX11_count 92 = .ok (.aload_n 0, 1) := by decide +kernel
theorem dX11_count_93 : decode cX11_count 93 = .ok (.getfield 30, 3) := by decide +kernel
theorem dX11_count_96 : decode cX11_count 96 = .ok (.invokevirtual 185, 3) := by decide +kernel
theorem dX11_count_99 : decode cX11_count 99 = .ok (.ireturn, 1) := by decide +kernel
theorem dX11_count_100 : decode cX11_count 100 = .ok (.aload_n 0, 1) := by decide +kernel
theorem dX11_count_101 : decode cX11_count 101 = .ok (.getfield 30, 3) := by decide +kernel
theorem dX11_count_104 : decode cX11_count 104 = .ok (.getfield 201, 3) := by decide +kernel
theorem dX11_count_107 : decode cX11_count 107 = .ok (.ireturn, 1) := by decide +kernel
theorem dX11_count_108 : decode cX11_count 108 = .ok (.aload_n 0, 1) := by decide +kernel
theorem dX11_count_109 : decode cX11_count 109 = .ok (.getfield 30, 3) := by decide +kernel
theorem dX11_count_112 : decode cX11_count 112 = .ok (.invokevirtual 428, 3) := by decide +kernel
theorem dX11_count_115 : decode cX11_count 115 = .ok (.ireturn, 1) := by decide +kernel
theorem dX11_count_116 : decode cX11_count 116 = .ok (.aload_n 0, 1) := by decide +kernel
theorem dX11_count_117 : decode cX11_count 117 = .ok (.getfield 23, 3) := by decide +kernel
theorem dX11_count_120 : decode cX11_count 120 = .ok (.invokevirtual 431, 3) := by decide +kernel
theorem dX11_count_123 : decode cX11_count 123 = .ok (.ireturn, 1) := by decide +kernel
theorem dX11_count_124 : decode cX11_count 124 = .ok (.aload_n 0, 1) := by decide +kernel
theorem dX11_count_125 : decode cX11_count 125 = .ok (.getfield 37, 3) := by decide +kernel
theorem dX11_count_128 : decode cX11_count 128 = .ok (.getfield 204, 3) := by decide +kernel
theorem dX11_count_131 : decode cX11_count 131 = .ok (.ireturn, 1) := by decide +kernel
theorem dX11_count_132 : decode cX11_count 132 = .ok (.aload_n 0, 1) := by decide +kernel
theorem dX11_count_133 : decode cX11_count 133 = .ok (.getfield 100, 3) := by decide +kernel
theorem dX11_count_136 : decode cX11_count 136 = .ok (.ireturn, 1) := by decide +kernel
theorem dX11_count_137 : decode cX11_count 137 = .ok (.aload_n 0, 1) := by decide +kernel
theorem dX11_count_138 : decode cX11_count 138 = .ok (.getfield 23, 3) := by decide +kernel
theorem dX11_count_141 : decode cX11_count 141 = .ok (.getfield 121, 3) := by decide +kernel
theorem dX11_count_144 : decode cX11_count 144 = .ok (.ireturn, 1) := by decide +kernel
theorem dX11_count_145 : decode cX11_count 145 = .ok (.iconst (-1), 1) := by decide +kernel
theorem dX11_count_146 : decode cX11_count 146 = .ok (.ireturn, 1) := by decide +kernel
def x_count (F : Nat) (I : Nat → Nat → Int32) (x : Nat) (c : Nat) (v1 : Int32) : Option (Int32) := if v1 = 0 then (some (I c 0)) else (if v1 = 1 then (some (I c 1)) else (if v1 = 2 then (some (I c 2)) else (if v1 = 3 then (some (I (x + 12) 1)) else (if v1 = 4 then (some (s_howManyUp I (x + 12))) else (if v1 = 5 then (some (I (x + 12) 2)) else (if v1 = 6 then ((s_allStrengths F I (x + 12)).bind (fun q8 => let u10 := q8; some u10)) else (if v1 = 7 then ((ct_allOdds F I c).bind (fun q12 => let u14 := q12; some u14)) else (if v1 = 8 then (some (I (x + 19) 2)) else (if v1 = 9 then (some (I x 1)) else (if v1 = 10 then (some (I c 3)) else (some (-1))))))))))))
theorem c_x_count {l : Launch} {D : va_G} {E : Nat → ClassId} {B : Nat → Prop} {n F : Nat} {T : Nat → Option (Nat × Nat)} {I : Nat → Nat → Int32} {J : Nat → Nat → Int64} {P : Nat → Nat → Option Nat} {x : Nat} {c : Nat} {v1 : Int32} {r : Int32} (hx : isSR T P x) (hs_c : isCt T P c) (hc : P x 3 = some c) (hf : x_count F I x c v1 = some r) : Ct l D E B yX11_count cX11_count 2 (some .int) 2 0 0 [.ref x, .int v1] (n, T, I, J, P) (Ret (some (.int r)) (n, T, I, J, P)) := by
  unfold x_count at hf
  refine Ct.ofV (by decide) (Nat.le_of_ble_eq_true rfl) ?_
  refine V.iload_n dX11_count_0 rfl ?_
  by_cases c1 : v1 = 0
  · rw [if_pos c1] at hf
    refine V.tabIn (off := 59) 60 dX11_count_1 (by rw [c1]; decide) (by rw [c1]; decide) (by rw [c1]; rfl) (by decide) ?_
    refine V.aload_n dX11_count_60 rfl ?_
    refine V.getr fl_X11_23 dX11_count_61 (hx.1 0 (11, 0) rfl) hc (by decide) rfl ?_
    refine V.getf fl_X11_168 dX11_count_64 (hs_c.1.1 0 (1, 0) rfl) (by decide) rfl ?_
    obtain rfl := Option.some.inj hf
    exact V.iret dX11_count_67 rfl (Nat.le_refl _) (Nat.le_refl _) ⟨rfl, rfl⟩
  rw [if_neg c1] at hf
  by_cases c2 : v1 = 1
  · rw [if_pos c2] at hf
    refine V.tabIn (off := 67) 68 dX11_count_1 (by rw [c2]; decide) (by rw [c2]; decide) (by rw [c2]; rfl) (by decide) ?_
    refine V.aload_n dX11_count_68 rfl ?_
    refine V.getr fl_X11_23 dX11_count_69 (hx.1 0 (11, 0) rfl) hc (by decide) rfl ?_
    refine V.getf fl_X11_171 dX11_count_72 (hs_c.1.1 0 (1, 0) rfl) (by decide) rfl ?_
    obtain rfl := Option.some.inj hf
    exact V.iret dX11_count_75 rfl (Nat.le_refl _) (Nat.le_refl _) ⟨rfl, rfl⟩
  rw [if_neg c2] at hf
  by_cases c3 : v1 = 2
  · rw [if_pos c3] at hf
    refine V.tabIn (off := 75) 76 dX11_count_1 (by rw [c3]; decide) (by rw [c3]; decide) (by rw [c3]; rfl) (by decide) ?_
    refine V.aload_n dX11_count_76 rfl ?_
    refine V.getr fl_X11_23 dX11_count_77 (hx.1 0 (11, 0) rfl) hc (by decide) rfl ?_
    refine V.getf fl_X11_425 dX11_count_80 (hs_c.1.1 0 (1, 0) rfl) (by decide) rfl ?_
    obtain rfl := Option.some.inj hf
    exact V.iret dX11_count_83 rfl (Nat.le_refl _) (Nat.le_refl _) ⟨rfl, rfl⟩
  rw [if_neg c3] at hf
  by_cases c4 : v1 = 3
  · rw [if_pos c4] at hf
    refine V.tabIn (off := 83) 84 dX11_count_1 (by rw [c4]; decide) (by rw [c4]; decide) (by rw [c4]; rfl) (by decide) ?_
    refine V.aload_n dX11_count_84 rfl ?_
    refine V.getr fl_X11_30 dX11_count_85 (hx.1 0 (11, 0) rfl) (hx.2.1 0 4 12 rfl) (by decide) rfl ?_
    refine V.getf fl_X11_233 dX11_count_88 ((hx.2.2.1 12 rfl).1 0 (8, 0) rfl) (by decide) rfl ?_
    obtain rfl := Option.some.inj hf
    exact V.iret dX11_count_91 rfl (Nat.le_refl _) (Nat.le_refl _) ⟨rfl, rfl⟩
  rw [if_neg c4] at hf
  by_cases c5 : v1 = 4
  · rw [if_pos c5] at hf
    refine V.tabIn (off := 91) 92 dX11_count_1 (by rw [c5]; decide) (by rw [c5]; decide) (by rw [c5]; rfl) (by decide) ?_
    refine V.aload_n dX11_count_92 rfl ?_
    refine V.getr fl_X11_30 dX11_count_93 (hx.1 0 (11, 0) rfl) (hx.2.1 0 4 12 rfl) (by decide) rfl ?_
    refine V.inv cv_X11_185 (c_s_howManyUp (hx.2.2.1 12 rfl)) dX11_count_96 ((hx.2.2.1 12 rfl).1 0 (8, 0) rfl) (by decide) rfl rfl rfl (Nat.le_of_ble_eq_true rfl) (by decide) (by decide) (Nat.le_refl _) (Nat.le_refl _) (fun _ _ hq => ?_)
    obtain ⟨rfl, rfl⟩ := hq
    obtain rfl := Option.some.inj hf
    exact V.iret dX11_count_99 rfl (Nat.le_refl _) (Nat.le_refl _) ⟨rfl, rfl⟩
  rw [if_neg c5] at hf
  by_cases c6 : v1 = 5
  · rw [if_pos c6] at hf
    refine V.tabIn (off := 99) 100 dX11_count_1 (by rw [c6]; decide) (by rw [c6]; decide) (by rw [c6]; rfl) (by decide) ?_
    refine V.aload_n dX11_count_100 rfl ?_
    refine V.getr fl_X11_30 dX11_count_101 (hx.1 0 (11, 0) rfl) (hx.2.1 0 4 12 rfl) (by decide) rfl ?_
    refine V.getf fl_X11_201 dX11_count_104 ((hx.2.2.1 12 rfl).1 0 (8, 0) rfl) (by decide) rfl ?_
    obtain rfl := Option.some.inj hf
    exact V.iret dX11_count_107 rfl (Nat.le_refl _) (Nat.le_refl _) ⟨rfl, rfl⟩
  rw [if_neg c6] at hf
  by_cases c7 : v1 = 6
  · rw [if_pos c7] at hf
    refine V.tabIn (off := 107) 108 dX11_count_1 (by rw [c7]; decide) (by rw [c7]; decide) (by rw [c7]; rfl) (by decide) ?_
    refine V.aload_n dX11_count_108 rfl ?_
    refine V.getr fl_X11_30 dX11_count_109 (hx.1 0 (11, 0) rfl) (hx.2.1 0 4 12 rfl) (by decide) rfl ?_
    obtain ⟨u10, hk9, hf⟩ := bnd_some hf
    try dsimp only at hf
    refine V.inv cv_X11_428 (c_s_allStrengths (hx.2.2.1 12 rfl) hk9) dX11_count_112 ((hx.2.2.1 12 rfl).1 0 (8, 0) rfl) (by decide) rfl rfl rfl (Nat.le_of_ble_eq_true rfl) (by decide) (by decide) (Nat.le_refl _) (Nat.le_refl _) (fun _ _ hq => ?_)
    obtain ⟨rfl, rfl⟩ := hq
    obtain rfl := Option.some.inj hf
    exact V.iret dX11_count_115 rfl (Nat.le_refl _) (Nat.le_refl _) ⟨rfl, rfl⟩
  rw [if_neg c7] at hf
  by_cases c11 : v1 = 7
  · rw [if_pos c11] at hf
    refine V.tabIn (off := 115) 116 dX11_count_1 (by rw [c11]; decide) (by rw [c11]; decide) (by rw [c11]; rfl) (by decide) ?_
    refine V.aload_n dX11_count_116 rfl ?_
    refine V.getr fl_X11_23 dX11_count_117 (hx.1 0 (11, 0) rfl) hc (by decide) rfl ?_
    obtain ⟨u14, hk13, hf⟩ := bnd_some hf
    try dsimp only at hf
    refine V.inv cv_X11_431 (c_ct_allOdds hs_c hk13) dX11_count_120 (hs_c.1.1 0 (1, 0) rfl) (by decide) rfl rfl rfl (Nat.le_of_ble_eq_true rfl) (by decide) (by decide) (Nat.le_refl _) (Nat.le_refl _) (fun _ _ hq => ?_)
    obtain ⟨rfl, rfl⟩ := hq
    obtain rfl := Option.some.inj hf
    exact V.iret dX11_count_123 rfl (Nat.le_refl _) (Nat.le_refl _) ⟨rfl, rfl⟩
  rw [if_neg c11] at hf
  by_cases c15 : v1 = 8
  · rw [if_pos c15] at hf
    refine V.tabIn (off := 123) 124 dX11_count_1 (by rw [c15]; decide) (by rw [c15]; decide) (by rw [c15]; rfl) (by decide) ?_
    refine V.aload_n dX11_count_124 rfl ?_
    refine V.getr fl_X11_37 dX11_count_125 (hx.1 0 (11, 0) rfl) (hx.2.1 0 5 19 rfl) (by decide) rfl ?_
    refine V.getf fl_X11_204 dX11_count_128 (hx.1 19 (6, 0) rfl) (by decide) rfl ?_
    obtain rfl := Option.some.inj hf
    exact V.iret dX11_count_131 rfl (Nat.le_refl _) (Nat.le_refl _) ⟨rfl, rfl⟩
  rw [if_neg c15] at hf
  by_cases c16 : v1 = 9
  · rw [if_pos c16] at hf
    refine V.tabIn (off := 131) 132 dX11_count_1 (by rw [c16]; decide) (by rw [c16]; decide) (by rw [c16]; rfl) (by decide) ?_
    refine V.aload_n dX11_count_132 rfl ?_
    refine V.getf fl_X11_100 dX11_count_133 (hx.1 0 (11, 0) rfl) (by decide) rfl ?_
    obtain rfl := Option.some.inj hf
    exact V.iret dX11_count_136 rfl (Nat.le_refl _) (Nat.le_refl _) ⟨rfl, rfl⟩
  rw [if_neg c16] at hf
  by_cases c17 : v1 = 10
  · rw [if_pos c17] at hf
    refine V.tabIn (off := 136) 137 dX11_count_1 (by rw [c17]; decide) (by rw [c17]; decide) (by rw [c17]; rfl) (by decide) ?_
    refine V.aload_n dX11_count_137 rfl ?_
    refine V.getr fl_X11_23 dX11_count_138 (hx.1 0 (11, 0) rfl) hc (by decide) rfl ?_
    refine V.getf fl_X11_121 dX11_count_141 (hs_c.1.1 0 (1, 0) rfl) (by decide) rfl ?_
    obtain rfl := Option.some.inj hf
    exact V.iret dX11_count_144 rfl (Nat.le_refl _) (Nat.le_refl _) ⟨rfl, rfl⟩
  rw [if_neg c17] at hf
  refine V.tabOut 145 dX11_count_1 (by have c1_ := sw_ne c1 (j := 0) (by decide); have c2_ := sw_ne c2 (j := 1) (by decide); have c3_ := sw_ne c3 (j := 2) (by decide); have c4_ := sw_ne c4 (j := 3) (by decide); have c5_ := sw_ne c5 (j := 4) (by decide); have c6_ := sw_ne c6 (j := 5) (by decide); have c7_ := sw_ne c7 (j := 6) (by decide); have c11_ := sw_ne c11 (j := 7) (by decide); have c15_ := sw_ne c15 (j := 8) (by decide); have c16_ := sw_ne c16 (j := 9) (by decide); have c17_ := sw_ne c17 (j := 10) (by decide); omega) (by decide) ?_
  refine V.iconst (v := -1) dX11_count_145 (by decide) ?_
  obtain rfl := Option.some.inj hf
  exact V.iret dX11_count_146 rfl (Nat.le_refl _) (Nat.le_refl _) ⟨rfl, rfl⟩
