theorem dJ7_fill_d0a16_0 : decode cJ7_fill_d0a16 0 = .ok (.iconst 0, 1) := by decide +kernel
theorem dJ7_fill_d0a16_1 : decode cJ7_fill_d0a16 1 = .ok (.istore_n 3, 1) := by decide +kernel
theorem dJ7_fill_d0a16_2 : decode cJ7_fill_d0a16 2 = .ok (.aload_n 0, 1) := by decide +kernel
theorem dJ7_fill_d0a16_3 : decode cJ7_fill_d0a16 3 = .ok (.arraylength, 1) := by decide +kernel
theorem dJ7_fill_d0a16_4 : decode cJ7_fill_d0a16 4 = .ok (.istore 4, 2) := by decide +kernel
theorem dJ7_fill_d0a16_6 : decode cJ7_fill_d0a16 6 = .ok (.iload_n 3, 1) := by decide +kernel
theorem dJ7_fill_d0a16_7 : decode cJ7_fill_d0a16 7 = .ok (.iload 4, 2) := by decide +kernel
theorem dJ7_fill_d0a16_9 : decode cJ7_fill_d0a16 9 = .ok (.if_icmp .ge 13, 3) := by decide +kernel
theorem dJ7_fill_d0a16_12 : decode cJ7_fill_d0a16 12 = .ok (.aload_n 0, 1) := by decide +kernel
theorem dJ7_fill_d0a16_13 : decode cJ7_fill_d0a16 13 = .ok (.iload_n 3, 1) := by decide +kernel
theorem dJ7_fill_d0a16_14 : decode cJ7_fill_d0a16 14 = .ok (.lload_n 1, 1) := by decide +kernel
theorem dJ7_fill_d0a16_15 : decode cJ7_fill_d0a16 15 = .ok (.lastore, 1) := by decide +kernel
theorem dJ7_fill_d0a16_16 : decode cJ7_fill_d0a16 16 = .ok (.iinc 3 1, 3) := by decide +kernel
theorem dJ7_fill_d0a16_19 : decode cJ7_fill_d0a16 19 = .ok (.goto (-13), 3) := by decide +kernel
theorem dJ7_fill_d0a16_22 : decode cJ7_fill_d0a16 22 = .ok (.return_, 1) := by decide +kernel
def fillJ_6 (F : Nat) (T : Nat → Option (Nat × Nat)) (qa : Nat) (g1 : Int64) (g4 : Int32) : Nat → Int32 → (Nat → Nat → Int64) → Option (Int32 × (Nat → Nat → Int64))
  | 0, _, _ => none
  | k + 1, l3, J => if g4 ≤ l3 then (some (l3, J)) else (chk l3 (lenT T qa) (let J5 := uJ J qa (Int32.toNatClampNeg l3) g1; fillJ_6 F T qa g1 g4 k (l3 + 1) J5))
def fillJ (F : Nat) (T : Nat → Option (Nat × Nat)) (J : Nat → Nat → Int64) (qa : Nat) (v1 : Int64) : Option ((Nat → Nat → Int64)) := let x1 := (nI (lenT T qa)); (fillJ_6 F T qa v1 x1 F 0 J).bind (fun q7 => let m9 := q7.1; let J10 := q7.2; some J10)
theorem l_fillJ_6 {l : Launch} {D : va_G} {E : Nat → ClassId} {B : Nat → Prop} {n F : Nat} {Q : Option Value → HT → Prop} {T : Nat → Option (Nat × Nat)} {I : Nat → Nat → Int32} {P : Nat → Nat → Option Nat} {qa : Nat} {g1 : Int64} {g4 : Int32} (hs_qa : T qa = some (22, lenT T qa))  (r : Int32 × (Nat → Nat → Int64)) : ∀ (k : Nat) (l3 : Int32) (J : (Nat → Nat → Int64)), fillJ_6 F T qa g1 g4 k l3 J = some r → V l D E B yJ7_fill_d0a16 cJ7_fill_d0a16 5 none 0 0 0 Q 0 0 (n, T, I, r.2, P) 22 [(0, some (.ref qa)), (1, some (.long g1)), (3, some (.int (r.1))), (4, some (.int g4))] [] → V l D E B yJ7_fill_d0a16 cJ7_fill_d0a16 5 none 0 0 0 Q 0 0 (n, T, I, J, P) 6 [(0, some (.ref qa)), (1, some (.long g1)), (3, some (.int l3)), (4, some (.int g4))] [] := by
  intro k
  induction k with
  | zero =>
    intro l3 J hf hk
    cases hf
  | succ k ih =>
    intro l3 J hf hk
    unfold fillJ_6 at hf
    refine V.iload_n dJ7_fill_d0a16_6 rfl ?_
    refine V.iload dJ7_fill_d0a16_7 rfl ?_
    refine V.icmp_ge 22 dJ7_fill_d0a16_9 (by decide) (fun c3 => ?_) (fun c3 => ?_)
    · rw [if_pos c3] at hf
      obtain rfl := Option.some.inj hf
      exact V.lo [(0, some (.ref qa)), (1, some (.long g1)), (3, some (.int l3)), (4, some (.int g4))] (by simp only [Subs]; repeat' first | exact trivial | constructor | rfl) hk
    · rw [if_neg c3] at hf
      refine V.aload_n dJ7_fill_d0a16_12 rfl ?_
      refine V.iload_n dJ7_fill_d0a16_13 rfl ?_
      refine V.lload_n dJ7_fill_d0a16_14 rfl ?_
      obtain ⟨hb4, hf⟩ := chk_some hf
      refine V.lastE dJ7_fill_d0a16_15 hs_qa hb4 (fun J5 e6 => ?_)
      rw [← e6] at hf
      try dsimp only at hf
      clear e6
      refine V.iinc (v := (l3 + 1)) dJ7_fill_d0a16_16 rfl rfl (by first | exact rfl | exact trivial) ?_
      refine V.goto 6 dJ7_fill_d0a16_19 (by decide) ?_
      exact V.lo [(0, some (.ref qa)), (1, some (.long g1)), (3, some (.int (l3 + 1))), (4, some (.int g4))] (by simp only [Subs]; repeat' first | exact trivial | constructor | rfl) (ih _ _ hf hk)
theorem c_fillJ {l : Launch} {D : va_G} {E : Nat → ClassId} {B : Nat → Prop} {n F : Nat} {T : Nat → Option (Nat × Nat)} {I : Nat → Nat → Int32} {J : Nat → Nat → Int64} {P : Nat → Nat → Option Nat} {qa : Nat} {v1 : Int64} {r : (Nat → Nat → Int64)} (hs_qa : T qa = some (22, lenT T qa)) (hf : fillJ F T J qa v1 = some r) : Ct l D E B yJ7_fill_d0a16 cJ7_fill_d0a16 5 none 0 0 0 [.ref qa, .long v1] (n, T, I, J, P) (Ret (none) (n, T, I, r, P)) := by
  unfold fillJ at hf
  refine Ct.ofVF (by decide +kernel) (Nat.le_of_ble_eq_true rfl) ?_
  refine V.iconst (v := 0) dJ7_fill_d0a16_0 (by decide) ?_
  refine V.istore_n dJ7_fill_d0a16_1 rfl (by decide) (by first | exact rfl | exact trivial) ?_
  refine V.aload_n dJ7_fill_d0a16_2 rfl ?_
  refine V.alen dJ7_fill_d0a16_3 hs_qa (by decide) ?_
  refine V.istore dJ7_fill_d0a16_4 (by decide) (by first | exact rfl | exact trivial) ?_
  obtain ⟨x1, e2⟩ : ∃ zz_, zz_ = (nI (lenT T qa)) := ⟨_, rfl⟩
  rw [← e2] at hf ⊢
  try dsimp only at hf
  obtain ⟨⟨m9, J10⟩, hk8, hf⟩ := bnd_some hf
  try dsimp only at hf
  refine V.lo [(0, some (.ref qa)), (1, some (.long v1)), (3, some (.int 0)), (4, some (.int x1))] (by simp only [Subs]; repeat' first | exact trivial | constructor | rfl) (l_fillJ_6 hs_qa _ F _ _ hk8 ?_)
  try dsimp only
  obtain rfl := Option.some.inj hf
  exact V.vret dJ7_fill_d0a16_22 rfl (Nat.le_refl _) (Nat.le_refl _) ⟨rfl, rfl⟩
theorem dX2_step_0 : decode cX2_step 0 = .ok (.iload_n 1, 1) := by decide +kernel
theorem dX2_step_1 : decode cX2_step 1 = .ok (.iconst 4, 1) := by decide +kernel
theorem dX2_step_2 : decode cX2_step 2 = .ok (.ishl, 1) := by decide +kernel
theorem dX2_step_3 : decode cX2_step 3 = .ok (.iload_n 0, 1) := by decide +kernel
theorem dX2_step_4 : decode cX2_step 4 = .ok (.ior, 1) := by decide +kernel
theorem dX2_step_5 : decode cX2_step 5 = .ok (.ireturn, 1) := by decide +kernel
def w_step (v0 : Int32) (v1 : Int32) : Int32 := ((v1 <<< (4 &&& 31)) ||| v0)
theorem c_w_step {l : Launch} {D : va_G} {E : Nat → ClassId} {B : Nat → Prop} {n : Nat} {T : Nat → Option (Nat × Nat)} {I : Nat → Nat → Int32} {J : Nat → Nat → Int64} {P : Nat → Nat → Option Nat}  {v0 : Int32} {v1 : Int32}  : Ct l D E B yX2_step cX2_step 2 (some .int) 0 0 0 [.int v0, .int v1] (n, T, I, J, P) (Ret (some (.int (w_step v0 v1))) (n, T, I, J, P)) := by
  obtain ⟨r, hf⟩ : ∃ r, w_step v0 v1 = r := ⟨_, rfl⟩
  rw [hf]
  unfold w_step at hf
  refine Ct.ofV (by decide) (Nat.le_of_ble_eq_true rfl) ?_
  refine V.iload_n dX2_step_0 rfl ?_
  refine V.iconst (v := 4) dX2_step_1 (by decide) ?_
  refine V.ishl dX2_step_2 ?_
  refine V.iload_n dX2_step_3 rfl ?_
  refine V.ior dX2_step_4 ?_
  subst hf
  exact V.iret dX2_step_5 rfl (Nat.le_refl _) (Nat.le_refl _) ⟨rfl, rfl⟩
theorem dX2_join_0 : decode cX2_join 0 = .ok (.iload_n 0, 1) := by decide +kernel
theorem dX2_join_1 : decode cX2_join 1 = .ok (.tableswitch 107 2 8 #[43, 52, 61, 70, 81, 92, 103], 43) := by decide +kernel
theorem dX2_join_44 : decode cX2_join 44 = .ok (.iload_n 1, 1) := by decide +kernel
theorem dX2_join_45 : decode cX2_join 45 = .ok (.i2l, 1) := by decide +kernel
theorem dX2_join_46 : decode cX2_join 46 = .ok (.iload_n 2, 1) := by decide +kernel
theorem dX2_join_47 : decode cX2_join 47 = .ok (.i2l, 1) := by decide +kernel
theorem dX2_join_48 : decode cX2_join 48 = .ok (.ladd, 1) := by decide +kernel
theorem dX2_join_49 : decode cX2_join 49 = .ok (.lstore_n 3, 1) := by decide +kernel
theorem dX2_join_50 : decode cX2_join 50 = .ok (.goto 62, 3) := by decide +kernel
theorem dX2_join_53 : decode cX2_join 53 = .ok (.iload_n 1, 1) := by decide +kernel
theorem dX2_join_54 : decode cX2_join 54 = .ok (.i2l, 1) := by decide +kernel
theorem dX2_join_55 : decode cX2_join 55 = .ok (.iload_n 2, 1) := by decide +kernel
theorem dX2_join_56 : decode cX2_join 56 = .ok (.i2l, 1) := by decide +kernel
theorem dX2_join_57 : decode cX2_join 57 = .ok (.lsub, 1) := by decide +kernel
theorem dX2_join_58 : decode cX2_join 58 = .ok (.lstore_n 3, 1) := by decide +kernel
theorem dX2_join_59 : decode cX2_join 59 = .ok (.goto 53, 3) := by decide +kernel
theorem dX2_join_62 : decode cX2_join 62 = .ok (.iload_n 1, 1) := by decide +kernel
theorem dX2_join_63 : decode cX2_join 63 = .ok (.i2l, 1) := by decide +kernel
theorem dX2_join_64 : decode cX2_join 64 = .ok (.iload_n 2, 1) := by decide +kernel
theorem dX2_join_65 : decode cX2_join 65 = .ok (.i2l, 1) := by decide +kernel
theorem dX2_join_66 : decode cX2_join 66 = .ok (.lmul, 1) := by decide +kernel
theorem dX2_join_67 : decode cX2_join 67 = .ok (.lstore_n 3, 1) := by decide +kernel
theorem dX2_join_68 : decode cX2_join 68 = .ok (.goto 44, 3) := by decide +kernel
theorem dX2_join_71 : decode cX2_join 71 = .ok (.iload_n 1, 1) := by decide +kernel
theorem dX2_join_72 : decode cX2_join 72 = .ok (.iload_n 2, 1) := by decide +kernel
theorem dX2_join_73 : decode cX2_join 73 = .ok (.if_icmp .ne 7, 3) := by decide +kernel
theorem dX2_join_76 : decode cX2_join 76 = .ok (.iconst 1, 1) := by decide +kernel
theorem dX2_join_77 : decode cX2_join 77 = .ok (.goto 4, 3) := by decide +kernel
theorem dX2_join_80 : decode cX2_join 80 = .ok (.iconst 0, 1) := by decide +kernel
theorem dX2_join_81 : decode cX2_join 81 = .ok (.ireturn, 1) := by decide +kernel
theorem dX2_join_82 : decode cX2_join 82 = .ok (.iload_n 1, 1) := by decide +kernel
theorem dX2_join_83 : decode cX2_join 83 = .ok (.iload_n 2, 1) := by decide +kernel
theorem dX2_join_84 : decode cX2_join 84 = .ok (.if_icmp .ge 7, 3) := by decide +kernel
theorem dX2_join_87 : decode cX2_join 87 = .ok (.iconst 1, 1) := by decide +kernel
theorem dX2_join_88 : decode cX2_join 88 = .ok (.goto 4, 3) := by decide +kernel
theorem dX2_join_91 : decode cX2_join 91 = .ok (.iconst 0, 1) := by decide +kernel
theorem dX2_join_92 : decode cX2_join 92 = .ok (.ireturn, 1) := by decide +kernel
theorem dX2_join_93 : decode cX2_join 93 = .ok (.iload_n 1, 1) := by decide +kernel
theorem dX2_join_94 : decode cX2_join 94 = .ok (.iload_n 2, 1) := by decide +kernel
theorem dX2_join_95 : decode cX2_join 95 = .ok (.if_icmp .le 7, 3) := by decide +kernel
theorem dX2_join_98 : decode cX2_join 98 = .ok (.iconst 1, 1) := by decide +kernel
theorem dX2_join_99 : decode cX2_join 99 = .ok (.goto 4, 3) := by decide +kernel
theorem dX2_join_102 : decode cX2_join 102 = .ok (.iconst 0, 1) := by decide +kernel
theorem dX2_join_103 : decode cX2_join 103 = .ok (.ireturn, 1) := by decide +kernel
theorem dX2_join_104 : decode cX2_join 104 = .ok (.iload_n 1, 1) := by decide +kernel
theorem dX2_join_105 : decode cX2_join 105 = .ok (.iload_n 2, 1) := by decide +kernel
theorem dX2_join_106 : decode cX2_join 106 = .ok (.iand, 1) := by decide +kernel
theorem dX2_join_107 : decode cX2_join 107 = .ok (.ireturn, 1) := by decide +kernel
theorem dX2_join_108 : decode cX2_join 108 = .ok (.iload_n 1, 1) := by decide +kernel
theorem dX2_join_109 : decode cX2_join 109 = .ok (.iload_n 2, 1) := by decide +kernel
theorem dX2_join_110 : decode cX2_join 110 = .ok (.ior, 1) := by decide +kernel
theorem dX2_join_111 : decode cX2_join 111 = .ok (.ireturn, 1) := by decide +kernel
theorem dX2_join_112 : decode cX2_join 112 = .ok (.lload_n 3, 1) := by decide +kernel
theorem dX2_join_113 : decode cX2_join 113 = .ok (.ldc2_w 17, 3) := by decide +kernel
theorem dX2_join_116 : decode cX2_join 116 = .ok (.lcmp, 1) := by decide +kernel
theorem dX2_join_117 : decode cX2_join 117 = .ok (.ifCond .le 6, 3) := by decide +kernel
theorem dX2_join_120 : decode cX2_join 120 = .ok (.ldc 19, 2) := by decide +kernel
theorem dX2_join_122 : decode cX2_join 122 = .ok (.ireturn, 1) := by decide +kernel
theorem dX2_join_123 : decode cX2_join 123 = .ok (.lload_n 3, 1) := by decide +kernel
theorem dX2_join_124 : decode cX2_join 124 = .ok (.ldc2_w 20, 3) := by decide +kernel
theorem dX2_join_127 : decode cX2_join 127 = .ok (.lcmp, 1) := by decide +kernel
theorem dX2_join_128 : decode cX2_join 128 = .ok (.ifCond .ge 8, 3) := by decide +kernel
theorem dX2_join_131 : decode cX2_join 131 = .ok (.ldc 22, 2) := by decide +kernel
theorem dX2_join_133 : decode cX2_join 133 = .ok (.goto 5, 3) := by decide +kernel
theorem dX2_join_136 : decode cX2_join 136 = .ok (.lload_n 3, 1) := by decide +kernel
theorem dX2_join_137 : decode cX2_join 137 = .ok (.l2i, 1) := by decide +kernel
theorem dX2_join_138 : decode cX2_join 138 = .ok (.ireturn, 1) := by decide +kernel
def w_join (v0 : Int32) (v1 : Int32) (v2 : Int32) : Int32 := if v0 = 2 then (let x2 := ((Int32.toInt64 v1) + (Int32.toInt64 v2)); if (lg_cmp x2 1000000) ≤ 0 then (if 0 ≤ (lg_cmp x2 (-1000000)) then ((Int64.toInt32 x2)) else ((-1000000))) else (1000000)) else (if v0 = 3 then (let x7 := ((Int32.toInt64 v1) - (Int32.toInt64 v2)); if (lg_cmp x7 1000000) ≤ 0 then (if 0 ≤ (lg_cmp x7 (-1000000)) then ((Int64.toInt32 x7)) else ((-1000000))) else (1000000)) else (if v0 = 4 then (let x12 := ((Int32.toInt64 v1) * (Int32.toInt64 v2)); if (lg_cmp x12 1000000) ≤ 0 then (if 0 ≤ (lg_cmp x12 (-1000000)) then ((Int64.toInt32 x12)) else ((-1000000))) else (1000000)) else (if v0 = 5 then (if v1 = v2 then (1) else (0)) else (if v0 = 6 then (if v2 ≤ v1 then (0) else (1)) else (if v0 = 7 then (if v1 ≤ v2 then (0) else (1)) else (if v0 = 8 then ((v1 &&& v2)) else ((v1 ||| v2))))))))
theorem c_w_join {l : Launch} {D : va_G} {E : Nat → ClassId} {B : Nat → Prop} {n : Nat} {T : Nat → Option (Nat × Nat)} {I : Nat → Nat → Int32} {J : Nat → Nat → Int64} {P : Nat → Nat → Option Nat}  {v0 : Int32} {v1 : Int32} {v2 : Int32}  : Ct l D E B yX2_join cX2_join 5 (some .int) 0 0 0 [.int v0, .int v1, .int v2] (n, T, I, J, P) (Ret (some (.int (w_join v0 v1 v2))) (n, T, I, J, P)) := by
  obtain ⟨r, hf⟩ : ∃ r, w_join v0 v1 v2 = r := ⟨_, rfl⟩
  rw [hf]
  unfold w_join at hf
  refine Ct.ofV (by decide) (Nat.le_of_ble_eq_true rfl) ?_
  refine V.iload_n dX2_join_0 rfl ?_
  by_cases c1 : v0 = 2
  · rw [if_pos c1] at hf
    refine V.tabIn (off := 43) 44 dX2_join_1 (by rw [c1]; decide) (by rw [c1]; decide) (by rw [c1]; rfl) (by decide) ?_
    refine V.iload_n dX2_join_44 rfl ?_
    refine V.i2l dX2_join_45 ?_
    refine V.iload_n dX2_join_46 rfl ?_
    refine V.i2l dX2_join_47 ?_
    refine V.ladd dX2_join_48 ?_
    refine V.lstore_n dX2_join_49 rfl (by decide) (by first | exact rfl | exact trivial) ?_
    obtain ⟨x2, e3⟩ : ∃ zz_, zz_ = ((Int32.toInt64 v1) + (Int32.toInt64 v2)) := ⟨_, rfl⟩
    rw [← e3] at hf ⊢
    try dsimp only at hf
    refine V.goto 112 dX2_join_50 (by decide) ?_
    refine V.lload_n dX2_join_112 rfl ?_
    refine V.ldc2 dX2_join_113 kc_X2_17 ?_
    refine V.lcmp dX2_join_116 ?_
    refine V.if_le 123 dX2_join_117 (by decide) (fun c4 => ?_) (fun c4 => ?_)
    · rw [if_pos c4] at hf
      refine V.lload_n dX2_join_123 rfl ?_
      refine V.ldc2 dX2_join_124 kc_X2_20 ?_
      refine V.lcmp dX2_join_127 ?_
      refine V.if_ge 136 dX2_join_128 (by decide) (fun c5 => ?_) (fun c5 => ?_)
      · rw [if_pos c5] at hf
        refine V.lload_n dX2_join_136 rfl ?_
        refine V.l2i dX2_join_137 ?_
        subst hf
        exact V.iret dX2_join_138 rfl (Nat.le_refl _) (Nat.le_refl _) ⟨rfl, rfl⟩
      · rw [if_neg c5] at hf
        refine V.ldc dX2_join_131 kc_X2_22 ?_
        refine V.goto 138 dX2_join_133 (by decide) ?_
        subst hf
        exact V.iret dX2_join_138 rfl (Nat.le_refl _) (Nat.le_refl _) ⟨rfl, rfl⟩
    · rw [if_neg c4] at hf
      refine V.ldc dX2_join_120 kc_X2_19 ?_
      subst hf
      exact V.iret dX2_join_122 rfl (Nat.le_refl _) (Nat.le_refl _) ⟨rfl, rfl⟩
  rw [if_neg c1] at hf
  by_cases c6 : v0 = 3
  · rw [if_pos c6] at hf
    refine V.tabIn (off := 52) 53 dX2_join_1 (by rw [c6]; decide) (by rw [c6]; decide) (by rw [c6]; rfl) (by decide) ?_
    refine V.iload_n dX2_join_53 rfl ?_
    refine V.i2l dX2_join_54 ?_
    refine V.iload_n dX2_join_55 rfl ?_
    refine V.i2l dX2_join_56 ?_
    refine V.lsub dX2_join_57 ?_
    refine V.lstore_n dX2_join_58 rfl (by decide) (by first | exact rfl | exact trivial) ?_
    obtain ⟨x7, e8⟩ : ∃ zz_, zz_ = ((Int32.toInt64 v1) - (Int32.toInt64 v2)) := ⟨_, rfl⟩
    rw [← e8] at hf ⊢
    try dsimp only at hf
    refine V.goto 112 dX2_join_59 (by decide) ?_
    refine V.lload_n dX2_join_112 rfl ?_
    refine V.ldc2 dX2_join_113 kc_X2_17 ?_
    refine V.lcmp dX2_join_116 ?_
    refine V.if_le 123 dX2_join_117 (by decide) (fun c9 => ?_) (fun c9 => ?_)
    · rw [if_pos c9] at hf
      refine V.lload_n dX2_join_123 rfl ?_
      refine V.ldc2 dX2_join_124 kc_X2_20 ?_
      refine V.lcmp dX2_join_127 ?_
      refine V.if_ge 136 dX2_join_128 (by decide) (fun c10 => ?_) (fun c10 => ?_)
      · rw [if_pos c10] at hf
        refine V.lload_n dX2_join_136 rfl ?_
        refine V.l2i dX2_join_137 ?_
        subst hf
        exact V.iret dX2_join_138 rfl (Nat.le_refl _) (Nat.le_refl _) ⟨rfl, rfl⟩
      · rw [if_neg c10] at hf
        refine V.ldc dX2_join_131 kc_X2_22 ?_
        refine V.goto 138 dX2_join_133 (by decide) ?_
        subst hf
        exact V.iret dX2_join_138 rfl (Nat.le_refl _) (Nat.le_refl _) ⟨rfl, rfl⟩
    · rw [if_neg c9] at hf
      refine V.ldc dX2_join_120 kc_X2_19 ?_
      subst hf
      exact V.iret dX2_join_122 rfl (Nat.le_refl _) (Nat.le_refl _) ⟨rfl, rfl⟩
  rw [if_neg c6] at hf
  by_cases c11 : v0 = 4
  · rw [if_pos c11] at hf
    refine V.tabIn (off := 61) 62 dX2_join_1 (by rw [c11]; decide) (by rw [c11]; decide) (by rw [c11]; rfl) (by decide) ?_
    refine V.iload_n dX2_join_62 rfl ?_
    refine V.i2l dX2_join_63 ?_
    refine V.iload_n dX2_join_64 rfl ?_
    refine V.i2l dX2_join_65 ?_
    refine V.lmul dX2_join_66 ?_
    refine V.lstore_n dX2_join_67 rfl (by decide) (by first | exact rfl | exact trivial) ?_
    obtain ⟨x12, e13⟩ : ∃ zz_, zz_ = ((Int32.toInt64 v1) * (Int32.toInt64 v2)) := ⟨_, rfl⟩
    rw [← e13] at hf ⊢
    try dsimp only at hf
    refine V.goto 112 dX2_join_68 (by decide) ?_
    refine V.lload_n dX2_join_112 rfl ?_
    refine V.ldc2 dX2_join_113 kc_X2_17 ?_
    refine V.lcmp dX2_join_116 ?_
    refine V.if_le 123 dX2_join_117 (by decide) (fun c14 => ?_) (fun c14 => ?_)
    · rw [if_pos c14] at hf
      refine V.lload_n dX2_join_123 rfl ?_
      refine V.ldc2 dX2_join_124 kc_X2_20 ?_
      refine V.lcmp dX2_join_127 ?_
      refine V.if_ge 136 dX2_join_128 (by decide) (fun c15 => ?_) (fun c15 => ?_)
      · rw [if_pos c15] at hf
        refine V.lload_n dX2_join_136 rfl ?_
        refine V.l2i dX2_join_137 ?_
        subst hf
        exact V.iret dX2_join_138 rfl (Nat.le_refl _) (Nat.le_refl _) ⟨rfl, rfl⟩
      · rw [if_neg c15] at hf
        refine V.ldc dX2_join_131 kc_X2_22 ?_
        refine V.goto 138 dX2_join_133 (by decide) ?_
        subst hf
        exact V.iret dX2_join_138 rfl (Nat.le_refl _) (Nat.le_refl _) ⟨rfl, rfl⟩
    · rw [if_neg c14] at hf
      refine V.ldc dX2_join_120 kc_X2_19 ?_
      subst hf
      exact V.iret dX2_join_122 rfl (Nat.le_refl _) (Nat.le_refl _) ⟨rfl, rfl⟩
  rw [if_neg c11] at hf
  by_cases c16 : v0 = 5
  · rw [if_pos c16] at hf
    refine V.tabIn (off := 70) 71 dX2_join_1 (by rw [c16]; decide) (by rw [c16]; decide) (by rw [c16]; rfl) (by decide) ?_
    refine V.iload_n dX2_join_71 rfl ?_
    refine V.iload_n dX2_join_72 rfl ?_
    refine V.icmp_ne 80 dX2_join_73 (by decide) (fun c17 => ?_) (fun c17 => ?_)
    · rw [if_neg c17] at hf
      refine V.iconst (v := 0) dX2_join_80 (by decide) ?_
      subst hf
      exact V.iret dX2_join_81 rfl (Nat.le_refl _) (Nat.le_refl _) ⟨rfl, rfl⟩
    · rw [if_pos c17] at hf
      refine V.iconst (v := 1) dX2_join_76 (by decide) ?_
      refine V.goto 81 dX2_join_77 (by decide) ?_
      subst hf
      exact V.iret dX2_join_81 rfl (Nat.le_refl _) (Nat.le_refl _) ⟨rfl, rfl⟩
  rw [if_neg c16] at hf
  by_cases c18 : v0 = 6
  · rw [if_pos c18] at hf
    refine V.tabIn (off := 81) 82 dX2_join_1 (by rw [c18]; decide) (by rw [c18]; decide) (by rw [c18]; rfl) (by decide) ?_
    refine V.iload_n dX2_join_82 rfl ?_
    refine V.iload_n dX2_join_83 rfl ?_
    refine V.icmp_ge 91 dX2_join_84 (by decide) (fun c19 => ?_) (fun c19 => ?_)
    · rw [if_pos c19] at hf
      refine V.iconst (v := 0) dX2_join_91 (by decide) ?_
      subst hf
      exact V.iret dX2_join_92 rfl (Nat.le_refl _) (Nat.le_refl _) ⟨rfl, rfl⟩
    · rw [if_neg c19] at hf
      refine V.iconst (v := 1) dX2_join_87 (by decide) ?_
      refine V.goto 92 dX2_join_88 (by decide) ?_
      subst hf
      exact V.iret dX2_join_92 rfl (Nat.le_refl _) (Nat.le_refl _) ⟨rfl, rfl⟩
  rw [if_neg c18] at hf
  by_cases c20 : v0 = 7
  · rw [if_pos c20] at hf
    refine V.tabIn (off := 92) 93 dX2_join_1 (by rw [c20]; decide) (by rw [c20]; decide) (by rw [c20]; rfl) (by decide) ?_
    refine V.iload_n dX2_join_93 rfl ?_
    refine V.iload_n dX2_join_94 rfl ?_
    refine V.icmp_le 102 dX2_join_95 (by decide) (fun c21 => ?_) (fun c21 => ?_)
    · rw [if_pos c21] at hf
      refine V.iconst (v := 0) dX2_join_102 (by decide) ?_
      subst hf
      exact V.iret dX2_join_103 rfl (Nat.le_refl _) (Nat.le_refl _) ⟨rfl, rfl⟩
    · rw [if_neg c21] at hf
      refine V.iconst (v := 1) dX2_join_98 (by decide) ?_
      refine V.goto 103 dX2_join_99 (by decide) ?_
      subst hf
      exact V.iret dX2_join_103 rfl (Nat.le_refl _) (Nat.le_refl _) ⟨rfl, rfl⟩
  rw [if_neg c20] at hf
  by_cases c22 : v0 = 8
  · rw [if_pos c22] at hf
    refine V.tabIn (off := 103) 104 dX2_join_1 (by rw [c22]; decide) (by rw [c22]; decide) (by rw [c22]; rfl) (by decide) ?_
    refine V.iload_n dX2_join_104 rfl ?_
    refine V.iload_n dX2_join_105 rfl ?_
    refine V.iand dX2_join_106 ?_
    subst hf
    exact V.iret dX2_join_107 rfl (Nat.le_refl _) (Nat.le_refl _) ⟨rfl, rfl⟩
  rw [if_neg c22] at hf
  refine V.tabOut 108 dX2_join_1 (by have c1_ := sw_ne c1 (j := 2) (by decide); have c6_ := sw_ne c6 (j := 3) (by decide); have c11_ := sw_ne c11 (j := 4) (by decide); have c16_ := sw_ne c16 (j := 5) (by decide); have c18_ := sw_ne c18 (j := 6) (by decide); have c20_ := sw_ne c20 (j := 7) (by decide); have c22_ := sw_ne c22 (j := 8) (by decide); omega) (by decide) ?_
  refine V.iload_n dX2_join_108 rfl ?_
  refine V.iload_n dX2_join_109 rfl ?_
  refine V.ior dX2_join_110 ?_
  subst hf
  exact V.iret dX2_join_111 rfl (Nat.le_refl _) (Nat.le_refl _) ⟨rfl, rfl⟩
theorem dX2_tell_0 : decode cX2_tell 0 = .ok (.iconst 0, 1) := by decide +kernel
theorem dX2_tell_1 : decode cX2_tell 1 = .ok (.istore_n 3, 1) := by decide +kernel
theorem dX2_tell_2 : decode cX2_tell 2 = .ok (.iconst 0, 1) := by decide +kernel
theorem dX2_tell_3 : decode cX2_tell 3 = .ok (.istore 4, 2) := by decide +kernel
theorem dX2_tell_5 : decode cX2_tell 5 = .ok (.iconst 0, 1) := by decide +kernel
theorem dX2_tell_6 : decode cX2_tell 6 = .ok (.istore 5, 2) := by decide +kernel
theorem dX2_tell_8 : decode cX2_tell 8 = .ok (.iload 5, 2) := by decide +kernel
theorem dX2_tell_10 : decode cX2_tell 10 = .ok (.aload_n 0, 1) := by decide +kernel
theorem dX2_tell_11 : decode cX2_tell 11 = .ok (.getfield 7, 3) := by decide +kernel
theorem dX2_tell_14 : decode cX2_tell 14 = .ok (.arraylength, 1) := by decide +kernel
theorem dX2_tell_15 : decode cX2_tell 15 = .ok (.if_icmp .ge 204, 3) := by decide +kernel
theorem dX2_tell_18 : decode cX2_tell 18 = .ok (.iload 4, 2) := by decide +kernel
theorem dX2_tell_20 : decode cX2_tell 20 = .ok (.aload_n 0, 1) := by decide +kernel
theorem dX2_tell_21 : decode cX2_tell 21 = .ok (.getfield 7, 3) := by decide +kernel
theorem dX2_tell_24 : decode cX2_tell 24 = .ok (.arraylength, 1) := by decide +kernel
theorem dX2_tell_25 : decode cX2_tell 25 = .ok (.if_icmp .ge 194, 3) := by decide +kernel
theorem dX2_tell_28 : decode cX2_tell 28 = .ok (.aload_n 0, 1) := by decide +kernel
theorem dX2_tell_29 : decode cX2_tell 29 = .ok (.getfield 7, 3) := by decide +kernel
theorem dX2_tell_32 : decode cX2_tell 32 = .ok (.iload 4, 2) := by decide +kernel
theorem dX2_tell_34 : decode cX2_tell 34 = .ok (.iaload, 1) := by decide +kernel
theorem dX2_tell_35 : decode cX2_tell 35 = .ok (.bipush 15, 2) := by decide +kernel
theorem dX2_tell_37 : decode cX2_tell 37 = .ok (.iand, 1) := by decide +kernel
theorem dX2_tell_38 : decode cX2_tell 38 = .ok (.istore 6, 2) := by decide +kernel
theorem dX2_tell_40 : decode cX2_tell 40 = .ok (.aload_n 0, 1) := by decide +kernel
theorem dX2_tell_41 : decode cX2_tell 41 = .ok (.getfield 7, 3) := by decide +kernel
theorem dX2_tell_44 : decode cX2_tell 44 = .ok (.iload 4, 2) := by decide +kernel
theorem dX2_tell_46 : decode cX2_tell 46 = .ok (.iaload, 1) := by decide +kernel
theorem dX2_tell_47 : decode cX2_tell 47 = .ok (.iconst 4, 1) := by decide +kernel
theorem dX2_tell_48 : decode cX2_tell 48 = .ok (.ishr, 1) := by decide +kernel
theorem dX2_tell_49 : decode cX2_tell 49 = .ok (.istore 7, 2) := by decide +kernel
theorem dX2_tell_51 : decode cX2_tell 51 = .ok (.iinc 4 1, 3) := by decide +kernel
theorem dX2_tell_54 : decode cX2_tell 54 = .ok (.iload 6, 2) := by decide +kernel
theorem dX2_tell_56 : decode cX2_tell 56 = .ok (.iconst 1, 1) := by decide +kernel
theorem dX2_tell_57 : decode cX2_tell 57 = .ok (.if_icmp .gt 44, 3) := by decide +kernel
theorem dX2_tell_60 : decode cX2_tell 60 = .ok (.iload_n 3, 1) := by decide +kernel
theorem dX2_tell_61 : decode cX2_tell 61 = .ok (.aload_n 2, 1) := by decide +kernel
theorem dX2_tell_62 : decode cX2_tell 62 = .ok (.arraylength, 1) := by decide +kernel
theorem dX2_tell_63 : decode cX2_tell 63 = .ok (.if_icmp .ge 150, 3) := by decide +kernel
theorem dX2_tell_66 : decode cX2_tell 66 = .ok (.iload 6, 2) := by decide +kernel
theorem dX2_tell_68 : decode cX2_tell 68 = .ok (.ifCond .eq 10, 3) := by decide +kernel
theorem dX2_tell_71 : decode cX2_tell 71 = .ok (.iload 7, 2) := by decide +kernel
theorem dX2_tell_73 : decode cX2_tell 73 = .ok (.aload_n 1, 1) := by decide +kernel
theorem dX2_tell_74 : decode cX2_tell 74 = .ok (.arraylength, 1) := by decide +kernel
theorem dX2_tell_75 : decode cX2_tell 75 = .ok (.if_icmp .ge 138, 3) := by decide +kernel
theorem dX2_tell_78 : decode cX2_tell 78 = .ok (.aload_n 2, 1) := by decide +kernel
theorem dX2_tell_79 : decode cX2_tell 79 = .ok (.iload_n 3, 1) := by decide +kernel
theorem dX2_tell_80 : decode cX2_tell 80 = .ok (.iload 6, 2) := by decide +kernel
theorem dX2_tell_82 : decode cX2_tell 82 = .ok (.ifCond .ne 8, 3) := by decide +kernel
theorem dX2_tell_85 : decode cX2_tell 85 = .ok (.iload 7, 2) := by decide +kernel
theorem dX2_tell_87 : decode cX2_tell 87 = .ok (.goto 7, 3) := by decide +kernel
theorem dX2_tell_90 : decode cX2_tell 90 = .ok (.aload_n 1, 1) := by decide +kernel
theorem dX2_tell_91 : decode cX2_tell 91 = .ok (.iload 7, 2) := by decide +kernel
theorem dX2_tell_93 : decode cX2_tell 93 = .ok (.iaload, 1) := by decide +kernel
theorem dX2_tell_94 : decode cX2_tell 94 = .ok (.iastore, 1) := by decide +kernel
theorem dX2_tell_95 : decode cX2_tell 95 = .ok (.iinc 3 1, 3) := by decide +kernel
theorem dX2_tell_98 : decode cX2_tell 98 = .ok (.goto 115, 3) := by decide +kernel
theorem dX2_tell_101 : decode cX2_tell 101 = .ok (.iload 6, 2) := by decide +kernel
theorem dX2_tell_103 : decode cX2_tell 103 = .ok (.bipush 9, 2) := by decide +kernel
theorem dX2_tell_105 : decode cX2_tell 105 = .ok (.if_icmp .gt 32, 3) := by decide +kernel
theorem dX2_tell_108 : decode cX2_tell 108 = .ok (.iload_n 3, 1) := by decide +kernel
theorem dX2_tell_109 : decode cX2_tell 109 = .ok (.iconst 2, 1) := by decide +kernel
theorem dX2_tell_110 : decode cX2_tell 110 = .ok (.if_icmp .lt 103, 3) := by decide +kernel
theorem dX2_tell_113 : decode cX2_tell 113 = .ok (.iinc 3 (-1), 3) := by decide +kernel
theorem dX2_tell_116 : decode cX2_tell 116 = .ok (.aload_n 2, 1) := by decide +kernel
theorem dX2_tell_117 : decode cX2_tell 117 = .ok (.iload_n 3, 1) := by decide +kernel
theorem dX2_tell_118 : decode cX2_tell 118 = .ok (.iconst 1, 1) := by decide +kernel
theorem dX2_tell_119 : decode cX2_tell 119 = .ok (.isub, 1) := by decide +kernel
theorem dX2_tell_120 : decode cX2_tell 120 = .ok (.iload 6, 2) := by decide +kernel
theorem dX2_tell_122 : decode cX2_tell 122 = .ok (.aload_n 2, 1) := by decide +kernel
theorem dX2_tell_123 : decode cX2_tell 123 = .ok (.iload_n 3, 1) := by decide +kernel
theorem dX2_tell_124 : decode cX2_tell 124 = .ok (.iconst 1, 1) := by decide +kernel
theorem dX2_tell_125 : decode cX2_tell 125 = .ok (.isub, 1) := by decide +kernel
theorem dX2_tell_126 : decode cX2_tell 126 = .ok (.iaload, 1) := by decide +kernel
theorem dX2_tell_127 : decode cX2_tell 127 = .ok (.aload_n 2, 1) := by decide +kernel
theorem dX2_tell_128 : decode cX2_tell 128 = .ok (.iload_n 3, 1) := by decide +kernel
theorem dX2_tell_129 : decode cX2_tell 129 = .ok (.iaload, 1) := by decide +kernel
theorem dX2_tell_130 : decode cX2_tell 130 = .ok (.invokestatic 13, 3) := by decide +kernel
theorem dX2_tell_133 : decode cX2_tell 133 = .ok (.iastore, 1) := by decide +kernel
theorem dX2_tell_134 : decode cX2_tell 134 = .ok (.goto 79, 3) := by decide +kernel
theorem dX2_tell_137 : decode cX2_tell 137 = .ok (.iload 6, 2) := by decide +kernel
theorem dX2_tell_139 : decode cX2_tell 139 = .ok (.bipush 12, 2) := by decide +kernel
theorem dX2_tell_141 : decode cX2_tell 141 = .ok (.if_icmp .ne 10, 3) := by decide +kernel
theorem dX2_tell_144 : decode cX2_tell 144 = .ok (.iload 7, 2) := by decide +kernel
theorem dX2_tell_146 : decode cX2_tell 146 = .ok (.istore 4, 2) := by decide +kernel
theorem dX2_tell_148 : decode cX2_tell 148 = .ok (.goto 65, 3) := by decide +kernel
theorem dX2_tell_151 : decode cX2_tell 151 = .ok (.iload_n 3, 1) := by decide +kernel
theorem dX2_tell_152 : decode cX2_tell 152 = .ok (.iconst 1, 1) := by decide +kernel
theorem dX2_tell_153 : decode cX2_tell 153 = .ok (.if_icmp .lt 60, 3) := by decide +kernel
theorem dX2_tell_156 : decode cX2_tell 156 = .ok (.aload_n 2, 1) := by decide +kernel
theorem dX2_tell_157 : decode cX2_tell 157 = .ok (.iload_n 3, 1) := by decide +kernel
theorem dX2_tell_158 : decode cX2_tell 158 = .ok (.iconst 1, 1) := by decide +kernel
theorem dX2_tell_159 : decode cX2_tell 159 = .ok (.isub, 1) := by decide +kernel
theorem dX2_tell_160 : decode cX2_tell 160 = .ok (.iaload, 1) := by decide +kernel
theorem dX2_tell_161 : decode cX2_tell 161 = .ok (.ifCond .eq 7, 3) := by decide +kernel
theorem dX2_tell_164 : decode cX2_tell 164 = .ok (.iconst 1, 1) := by decide +kernel
theorem dX2_tell_165 : decode cX2_tell 165 = .ok (.goto 4, 3) := by decide +kernel
theorem dX2_tell_168 : decode cX2_tell 168 = .ok (.iconst 0, 1) := by decide +kernel
theorem dX2_tell_169 : decode cX2_tell 169 = .ok (.istore 8, 2) := by decide +kernel
theorem dX2_tell_171 : decode cX2_tell 171 = .ok (.iload 6, 2) := by decide +kernel
theorem dX2_tell_173 : decode cX2_tell 173 = .ok (.bipush 10, 2) := by decide +kernel
theorem dX2_tell_175 : decode cX2_tell 175 = .ok (.if_icmp .ne 21, 3) := by decide +kernel
theorem dX2_tell_178 : decode cX2_tell 178 = .ok (.aload_n 2, 1) := by decide +kernel
theorem dX2_tell_179 : decode cX2_tell 179 = .ok (.iload_n 3, 1) := by decide +kernel
theorem dX2_tell_180 : decode cX2_tell 180 = .ok (.iconst 1, 1) := by decide +kernel
theorem dX2_tell_181 : decode cX2_tell 181 = .ok (.isub, 1) := by decide +kernel
theorem dX2_tell_182 : decode cX2_tell 182 = .ok (.iload 8, 2) := by decide +kernel
theorem dX2_tell_184 : decode cX2_tell 184 = .ok (.ifCond .eq 7, 3) := by decide +kernel
theorem dX2_tell_187 : decode cX2_tell 187 = .ok (.iconst 0, 1) := by decide +kernel
theorem dX2_tell_188 : decode cX2_tell 188 = .ok (.goto 4, 3) := by decide +kernel
theorem dX2_tell_191 : decode cX2_tell 191 = .ok (.iconst 1, 1) := by decide +kernel
theorem dX2_tell_192 : decode cX2_tell 192 = .ok (.iastore, 1) := by decide +kernel
theorem dX2_tell_193 : decode cX2_tell 193 = .ok (.goto 20, 3) := by decide +kernel
theorem dX2_tell_196 : decode cX2_tell 196 = .ok (.iinc 3 (-1), 3) := by decide +kernel
theorem dX2_tell_199 : decode cX2_tell 199 = .ok (.iload 8, 2) := by decide +kernel
theorem dX2_tell_201 : decode cX2_tell 201 = .ok (.ifCond .eq 8, 3) := by decide +kernel
theorem dX2_tell_204 : decode cX2_tell 204 = .ok (.iload 4, 2) := by decide +kernel
theorem dX2_tell_206 : decode cX2_tell 206 = .ok (.goto 5, 3) := by decide +kernel
theorem dX2_tell_209 : decode cX2_tell 209 = .ok (.iload 7, 2) := by decide +kernel
theorem dX2_tell_211 : decode cX2_tell 211 = .ok (.istore 4, 2) := by decide +kernel
theorem dX2_tell_213 : decode cX2_tell 213 = .ok (.iinc 5 1, 3) := by decide +kernel
theorem dX2_tell_216 : decode cX2_tell 216 = .ok (.goto (-208), 3) := by decide +kernel
theorem dX2_tell_219 : decode cX2_tell 219 = .ok (.iload_n 3, 1) := by decide +kernel
theorem dX2_tell_220 : decode cX2_tell 220 = .ok (.iconst 1, 1) := by decide +kernel
theorem dX2_tell_221 : decode cX2_tell 221 = .ok (.if_icmp .lt 11, 3) := by decide +kernel
theorem dX2_tell_224 : decode cX2_tell 224 = .ok (.aload_n 2, 1) := by decide +kernel
theorem dX2_tell_225 : decode cX2_tell 225 = .ok (.iload_n 3, 1) := by decide +kernel
theorem dX2_tell_226 : decode cX2_tell 226 = .ok (.iconst 1, 1) := by decide +kernel
theorem dX2_tell_227 : decode cX2_tell 227 = .ok (.isub, 1) := by decide +kernel
theorem dX2_tell_228 : decode cX2_tell 228 = .ok (.iaload, 1) := by decide +kernel
theorem dX2_tell_229 : decode cX2_tell 229 = .ok (.goto 4, 3) := by decide +kernel
theorem dX2_tell_232 : decode cX2_tell 232 = .ok (.iconst 0, 1) := by decide +kernel
theorem dX2_tell_233 : decode cX2_tell 233 = .ok (.ireturn, 1) := by decide +kernel
def w_tell_8 (F : Nat) (T : Nat → Option (Nat × Nat)) (w : Nat) (qa : Nat) (qb : Nat) : Nat → Int32 → Int32 → Int32 → (Nat → Nat → Int32) → Option (Int32 × Int32 × Int32 × (Nat → Nat → Int32))
  | 0, _, _, _, _ => none
  | k + 1, l3, l4, l5, I => if (nI (lenT T (w + 1))) ≤ l5 then (some (l3, l4, l5, I)) else (if (nI (lenT T (w + 1))) ≤ l4 then (some (l3, l4, l5, I)) else (chk l4 (lenT T (w + 1)) (let x4 := ((I (w + 1) (Int32.toNatClampNeg l4)) &&& 15); let x6 := ((I (w + 1) (Int32.toNatClampNeg l4)) >>> (4 &&& 31)); if 1 < x4 then (if 9 < x4 then (if x4 = 12 then (w_tell_8 F T w qa qb k l3 x6 (l5 + 1) I) else (if l3 < 1 then (w_tell_8 F T w qa qb k l3 (l4 + 1) (l5 + 1) I) else (chk (l3 - 1) (lenT T qb) (if (I qb (Int32.toNatClampNeg (l3 - 1))) = 0 then (if x4 = 10 then (let I17 := uI I qb (Int32.toNatClampNeg (l3 - 1)) 1; w_tell_8 F T w qa qb k l3 (l4 + 1) (l5 + 1) I17) else (w_tell_8 F T w qa qb k (l3 + (-1)) x6 (l5 + 1) I)) else (if x4 = 10 then (let I24 := uI I qb (Int32.toNatClampNeg (l3 - 1)) 0; w_tell_8 F T w qa qb k l3 (l4 + 1) (l5 + 1) I24) else (let x21 := (l4 + 1); w_tell_8 F T w qa qb k (l3 + (-1)) x21 (l5 + 1) I)))))) else (if l3 < 2 then (w_tell_8 F T w qa qb k l3 (l4 + 1) (l5 + 1) I) else (chk ((l3 + (-1)) - 1) (lenT T qb) (chk (l3 + (-1)) (lenT T qb) (let I29 := uI I qb (Int32.toNatClampNeg ((l3 + (-1)) - 1)) (w_join x4 (I qb (Int32.toNatClampNeg ((l3 + (-1)) - 1))) (I qb (Int32.toNatClampNeg (l3 + (-1))))); w_tell_8 F T w qa qb k (l3 + (-1)) (l4 + 1) (l5 + 1) I29))))) else (if (nI (lenT T qb)) ≤ l3 then (w_tell_8 F T w qa qb k l3 (l4 + 1) (l5 + 1) I) else (if x4 = 0 then (if x4 = 0 then (chk l3 (lenT T qb) (let I39 := uI I qb (Int32.toNatClampNeg l3) x6; w_tell_8 F T w qa qb k (l3 + 1) (l4 + 1) (l5 + 1) I39)) else (chk x6 (lenT T qa) (chk l3 (lenT T qb) (let I36 := uI I qb (Int32.toNatClampNeg l3) (I qa (Int32.toNatClampNeg x6)); w_tell_8 F T w qa qb k (l3 + 1) (l4 + 1) (l5 + 1) I36)))) else (if (nI (lenT T qa)) ≤ x6 then (w_tell_8 F T w qa qb k l3 (l4 + 1) (l5 + 1) I) else (if x4 = 0 then (chk l3 (lenT T qb) (let I48 := uI I qb (Int32.toNatClampNeg l3) x6; w_tell_8 F T w qa qb k (l3 + 1) (l4 + 1) (l5 + 1) I48)) else (chk x6 (lenT T qa) (chk l3 (lenT T qb) (let I45 := uI I qb (Int32.toNatClampNeg l3) (I qa (Int32.toNatClampNeg x6)); w_tell_8 F T w qa qb k (l3 + 1) (l4 + 1) (l5 + 1) I45))))))))))
def w_tell (F : Nat) (T : Nat → Option (Nat × Nat)) (I : Nat → Nat → Int32) (w : Nat) (qa : Nat) (qb : Nat) : Option (Int32 × (Nat → Nat → Int32)) := (w_tell_8 F T w qa qb F 0 0 0 I).bind (fun q50 => let m52 := q50.1; let m53 := q50.2.1; let m54 := q50.2.2.1; let I55 := q50.2.2.2; if m52 < 1 then (some (0, I55)) else (chk (m52 - 1) (lenT T qb) (some ((I55 qb (Int32.toNatClampNeg (m52 - 1))), I55))))
theorem l_w_tell_8 {l : Launch} {D : va_G} {E : Nat → ClassId} {B : Nat → Prop} {n F : Nat} {Q : Option Value → HT → Prop} {T : Nat → Option (Nat × Nat)} {J : Nat → Nat → Int64} {P : Nat → Nat → Option Nat} {w : Nat} {qa : Nat} {qb : Nat}  (hs_w : isLw T P w) (hs_qa : T qa = some (20, lenT T qa)) (hs_qb : T qb = some (20, lenT T qb))  (r : Int32 × Int32 × Int32 × (Nat → Nat → Int32)) : ∀ (k : Nat) (l3 : Int32) (l4 : Int32) (l5 : Int32) (I : (Nat → Nat → Int32)), w_tell_8 F T w qa qb k l3 l4 l5 I = some r → V l D E B yX2_tell cX2_tell 9 (some .int) 1 0 0 Q 0 0 (n, T, r.2.2.2, J, P) 219 [(0, some (.ref w)), (1, some (.ref qa)), (2, some (.ref qb)), (3, some (.int (r.1))), (4, some (.int (r.2.1))), (5, some (.int (r.2.2.1)))] [] → V l D E B yX2_tell cX2_tell 9 (some .int) 1 0 0 Q 0 0 (n, T, I, J, P) 8 [(0, some (.ref w)), (1, some (.ref qa)), (2, some (.ref qb)), (3, some (.int l3)), (4, some (.int l4)), (5, some (.int l5))] [] := by
  intro k
  induction k with
  | zero =>
    intro l3 l4 l5 I hf hk
    cases hf
  | succ k ih =>
    intro l3 l4 l5 I hf hk
    unfold w_tell_8 at hf
    refine V.iload dX2_tell_8 rfl ?_
    refine V.aload_n dX2_tell_10 rfl ?_
    refine V.getr fl_X2_7 dX2_tell_11 hs_w.1 hs_w.2.2 (by decide) rfl ?_
    refine V.alen dX2_tell_14 hs_w.2.1 (by decide) ?_
    refine V.icmp_ge 219 dX2_tell_15 (by decide) (fun c1 => ?_) (fun c1 => ?_)
    · rw [if_pos c1] at hf
      obtain rfl := Option.some.inj hf
      exact V.lo [(0, some (.ref w)), (1, some (.ref qa)), (2, some (.ref qb)), (3, some (.int l3)), (4, some (.int l4)), (5, some (.int l5))] (by simp only [Subs]; repeat' first | exact trivial | constructor | rfl) hk
    · rw [if_neg c1] at hf
      refine V.iload dX2_tell_18 rfl ?_
      refine V.aload_n dX2_tell_20 rfl ?_
      refine V.getr fl_X2_7 dX2_tell_21 hs_w.1 hs_w.2.2 (by decide) rfl ?_
      refine V.alen dX2_tell_24 hs_w.2.1 (by decide) ?_
      refine V.icmp_ge 219 dX2_tell_25 (by decide) (fun c2 => ?_) (fun c2 => ?_)
      · rw [if_pos c2] at hf
        obtain rfl := Option.some.inj hf
        exact V.lo [(0, some (.ref w)), (1, some (.ref qa)), (2, some (.ref qb)), (3, some (.int l3)), (4, some (.int l4)), (5, some (.int l5))] (by simp only [Subs]; repeat' first | exact trivial | constructor | rfl) hk
      · rw [if_neg c2] at hf
        refine V.aload_n dX2_tell_28 rfl ?_
        refine V.getr fl_X2_7 dX2_tell_29 hs_w.1 hs_w.2.2 (by decide) rfl ?_
        refine V.iload dX2_tell_32 rfl ?_
        obtain ⟨hb3, hf⟩ := chk_some hf
        refine V.iald dX2_tell_34 hs_w.2.1 hb3 ?_
        refine V.bipush (v := 15) dX2_tell_35 (by decide) ?_
        refine V.iand dX2_tell_37 ?_
        refine V.istore dX2_tell_38 (by decide) (by first | exact rfl | exact trivial) ?_
        obtain ⟨x4, e5⟩ : ∃ zz_, zz_ = ((I (w + 1) (Int32.toNatClampNeg l4)) &&& 15) := ⟨_, rfl⟩
        rw [← e5] at hf ⊢
        try dsimp only at hf
        refine V.aload_n dX2_tell_40 rfl ?_
        refine V.getr fl_X2_7 dX2_tell_41 hs_w.1 hs_w.2.2 (by decide) rfl ?_
        refine V.iload dX2_tell_44 rfl ?_
        refine V.iald dX2_tell_46 hs_w.2.1 hb3 ?_
        refine V.iconst (v := 4) dX2_tell_47 (by decide) ?_
        refine V.ishr dX2_tell_48 ?_
        refine V.istore dX2_tell_49 (by decide) (by first | exact rfl | exact trivial) ?_
        obtain ⟨x6, e7⟩ : ∃ zz_, zz_ = ((I (w + 1) (Int32.toNatClampNeg l4)) >>> (4 &&& 31)) := ⟨_, rfl⟩
        rw [← e7] at hf ⊢
        try dsimp only at hf
        refine V.iinc (v := (l4 + 1)) dX2_tell_51 rfl rfl (by first | exact rfl | exact trivial) ?_
        refine V.iload dX2_tell_54 rfl ?_
        refine V.iconst (v := 1) dX2_tell_56 (by decide) ?_
        refine V.icmp_gt 101 dX2_tell_57 (by decide) (fun c8 => ?_) (fun c8 => ?_)
        · rw [if_pos c8] at hf
          refine V.iload dX2_tell_101 rfl ?_
          refine V.bipush (v := 9) dX2_tell_103 (by decide) ?_
          refine V.icmp_gt 137 dX2_tell_105 (by decide) (fun c9 => ?_) (fun c9 => ?_)
          · rw [if_pos c9] at hf
            refine V.iload dX2_tell_137 rfl ?_
            refine V.bipush (v := 12) dX2_tell_139 (by decide) ?_
            refine V.icmp_ne 151 dX2_tell_141 (by decide) (fun c10 => ?_) (fun c10 => ?_)
            · rw [if_neg c10] at hf
              refine V.iload_n dX2_tell_151 rfl ?_
              refine V.iconst (v := 1) dX2_tell_152 (by decide) ?_
              refine V.icmp_lt 213 dX2_tell_153 (by decide) (fun c11 => ?_) (fun c11 => ?_)
              · rw [if_pos c11] at hf
                refine V.iinc (v := (l5 + 1)) dX2_tell_213 rfl rfl (by first | exact rfl | exact trivial) ?_
                refine V.goto 8 dX2_tell_216 (by decide) ?_
                exact V.lo [(0, some (.ref w)), (1, some (.ref qa)), (2, some (.ref qb)), (3, some (.int l3)), (4, some (.int (l4 + 1))), (5, some (.int (l5 + 1)))] (by simp only [Subs]; repeat' first | exact trivial | constructor | rfl) (ih _ _ _ _ hf hk)
              · rw [if_neg c11] at hf
                refine V.aload_n dX2_tell_156 rfl ?_
                refine V.iload_n dX2_tell_157 rfl ?_
                refine V.iconst (v := 1) dX2_tell_158 (by decide) ?_
                refine V.isub dX2_tell_159 ?_
                obtain ⟨hb12, hf⟩ := chk_some hf
                refine V.iald dX2_tell_160 hs_qb hb12 ?_
                refine V.if_eq 168 dX2_tell_161 (by decide) (fun c13 => ?_) (fun c13 => ?_)
                · rw [if_pos c13] at hf
                  refine V.iconst (v := 0) dX2_tell_168 (by decide) ?_
                  refine V.istore dX2_tell_169 (by decide) (by first | exact rfl | exact trivial) ?_
                  refine V.iload dX2_tell_171 rfl ?_
                  refine V.bipush (v := 10) dX2_tell_173 (by decide) ?_
                  refine V.icmp_ne 196 dX2_tell_175 (by decide) (fun c14 => ?_) (fun c14 => ?_)
                  · rw [if_neg c14] at hf
                    refine V.iinc (v := (l3 + (-1))) dX2_tell_196 rfl rfl (by first | exact rfl | exact trivial) ?_
                    refine V.iload dX2_tell_199 rfl ?_
                    refine V.if_eq 209 dX2_tell_201 (by decide) (fun c15 => ?_) (fun c15 => absurd c15 (by decide))
                    refine V.iload dX2_tell_209 rfl ?_
                    refine V.istore dX2_tell_211 (by decide) (by first | exact rfl | exact trivial) ?_
                    refine V.iinc (v := (l5 + 1)) dX2_tell_213 rfl rfl (by first | exact rfl | exact trivial) ?_
                    refine V.goto 8 dX2_tell_216 (by decide) ?_
                    exact V.lo [(0, some (.ref w)), (1, some (.ref qa)), (2, some (.ref qb)), (3, some (.int (l3 + (-1)))), (4, some (.int x6)), (5, some (.int (l5 + 1)))] (by simp only [Subs]; repeat' first | exact trivial | constructor | rfl) (ih _ _ _ _ hf hk)
                  · rw [if_pos c14] at hf
                    refine V.aload_n dX2_tell_178 rfl ?_
                    refine V.iload_n dX2_tell_179 rfl ?_
                    refine V.iconst (v := 1) dX2_tell_180 (by decide) ?_
                    refine V.isub dX2_tell_181 ?_
                    refine V.iload dX2_tell_182 rfl ?_
                    refine V.if_eq 191 dX2_tell_184 (by decide) (fun c16 => ?_) (fun c16 => absurd c16 (by decide))
                    refine V.iconst (v := 1) dX2_tell_191 (by decide) ?_
                    refine V.iastE dX2_tell_192 hs_qb hb12 (fun I17 e18 => ?_)
                    rw [← e18] at hf
                    try dsimp only at hf
                    clear e18
                    refine V.goto 213 dX2_tell_193 (by decide) ?_
                    refine V.iinc (v := (l5 + 1)) dX2_tell_213 rfl rfl (by first | exact rfl | exact trivial) ?_
                    refine V.goto 8 dX2_tell_216 (by decide) ?_
                    exact V.lo [(0, some (.ref w)), (1, some (.ref qa)), (2, some (.ref qb)), (3, some (.int l3)), (4, some (.int (l4 + 1))), (5, some (.int (l5 + 1)))] (by simp only [Subs]; repeat' first | exact trivial | constructor | rfl) (ih _ _ _ _ hf hk)
                · rw [if_neg c13] at hf
                  refine V.iconst (v := 1) dX2_tell_164 (by decide) ?_
                  refine V.goto 169 dX2_tell_165 (by decide) ?_
                  refine V.istore dX2_tell_169 (by decide) (by first | exact rfl | exact trivial) ?_
                  refine V.iload dX2_tell_171 rfl ?_
                  refine V.bipush (v := 10) dX2_tell_173 (by decide) ?_
                  refine V.icmp_ne 196 dX2_tell_175 (by decide) (fun c19 => ?_) (fun c19 => ?_)
                  · rw [if_neg c19] at hf
                    refine V.iinc (v := (l3 + (-1))) dX2_tell_196 rfl rfl (by first | exact rfl | exact trivial) ?_
                    refine V.iload dX2_tell_199 rfl ?_
                    refine V.if_eq 209 dX2_tell_201 (by decide) (fun c20 => absurd c20 (by decide)) (fun c20 => ?_)
                    refine V.iload dX2_tell_204 rfl ?_
                    refine V.goto 211 dX2_tell_206 (by decide) ?_
                    refine V.istore dX2_tell_211 (by decide) (by first | exact rfl | exact trivial) ?_
                    obtain ⟨x21, e22⟩ : ∃ zz_, zz_ = (l4 + 1) := ⟨_, rfl⟩
                    rw [← e22] at hf ⊢
                    try dsimp only at hf
                    refine V.iinc (v := (l5 + 1)) dX2_tell_213 rfl rfl (by first | exact rfl | exact trivial) ?_
                    refine V.goto 8 dX2_tell_216 (by decide) ?_
                    exact V.lo [(0, some (.ref w)), (1, some (.ref qa)), (2, some (.ref qb)), (3, some (.int (l3 + (-1)))), (4, some (.int x21)), (5, some (.int (l5 + 1)))] (by simp only [Subs]; repeat' first | exact trivial | constructor | rfl) (ih _ _ _ _ hf hk)
                  · rw [if_pos c19] at hf
                    refine V.aload_n dX2_tell_178 rfl ?_
                    refine V.iload_n dX2_tell_179 rfl ?_
                    refine V.iconst (v := 1) dX2_tell_180 (by decide) ?_
                    refine V.isub dX2_tell_181 ?_
                    refine V.iload dX2_tell_182 rfl ?_
                    refine V.if_eq 191 dX2_tell_184 (by decide) (fun c23 => absurd c23 (by decide)) (fun c23 => ?_)
                    refine V.iconst (v := 0) dX2_tell_187 (by decide) ?_
                    refine V.goto 192 dX2_tell_188 (by decide) ?_
                    refine V.iastE dX2_tell_192 hs_qb hb12 (fun I24 e25 => ?_)
                    rw [← e25] at hf
                    try dsimp only at hf
                    clear e25
                    refine V.goto 213 dX2_tell_193 (by decide) ?_
                    refine V.iinc (v := (l5 + 1)) dX2_tell_213 rfl rfl (by first | exact rfl | exact trivial) ?_
                    refine V.goto 8 dX2_tell_216 (by decide) ?_
                    exact V.lo [(0, some (.ref w)), (1, some (.ref qa)), (2, some (.ref qb)), (3, some (.int l3)), (4, some (.int (l4 + 1))), (5, some (.int (l5 + 1)))] (by simp only [Subs]; repeat' first | exact trivial | constructor | rfl) (ih _ _ _ _ hf hk)
            · rw [if_pos c10] at hf
              refine V.iload dX2_tell_144 rfl ?_
              refine V.istore dX2_tell_146 (by decide) (by first | exact rfl | exact trivial) ?_
              refine V.goto 213 dX2_tell_148 (by decide) ?_
              refine V.iinc (v := (l5 + 1)) dX2_tell_213 rfl rfl (by first | exact rfl | exact trivial) ?_
              refine V.goto 8 dX2_tell_216 (by decide) ?_
              exact V.lo [(0, some (.ref w)), (1, some (.ref qa)), (2, some (.ref qb)), (3, some (.int l3)), (4, some (.int x6)), (5, some (.int (l5 + 1)))] (by simp only [Subs]; repeat' first | exact trivial | constructor | rfl) (ih _ _ _ _ hf hk)
          · rw [if_neg c9] at hf
            refine V.iload_n dX2_tell_108 rfl ?_
            refine V.iconst (v := 2) dX2_tell_109 (by decide) ?_
            refine V.icmp_lt 213 dX2_tell_110 (by decide) (fun c26 => ?_) (fun c26 => ?_)
            · rw [if_pos c26] at hf
              refine V.iinc (v := (l5 + 1)) dX2_tell_213 rfl rfl (by first | exact rfl | exact trivial) ?_
              refine V.goto 8 dX2_tell_216 (by decide) ?_
              exact V.lo [(0, some (.ref w)), (1, some (.ref qa)), (2, some (.ref qb)), (3, some (.int l3)), (4, some (.int (l4 + 1))), (5, some (.int (l5 + 1)))] (by simp only [Subs]; repeat' first | exact trivial | constructor | rfl) (ih _ _ _ _ hf hk)
            · rw [if_neg c26] at hf
              refine V.iinc (v := (l3 + (-1))) dX2_tell_113 rfl rfl (by first | exact rfl | exact trivial) ?_
              refine V.aload_n dX2_tell_116 rfl ?_
              refine V.iload_n dX2_tell_117 rfl ?_
              refine V.iconst (v := 1) dX2_tell_118 (by decide) ?_
              refine V.isub dX2_tell_119 ?_
              refine V.iload dX2_tell_120 rfl ?_
              refine V.aload_n dX2_tell_122 rfl ?_
              refine V.iload_n dX2_tell_123 rfl ?_
              refine V.iconst (v := 1) dX2_tell_124 (by decide) ?_
              refine V.isub dX2_tell_125 ?_
              obtain ⟨hb27, hf⟩ := chk_some hf
              refine V.iald dX2_tell_126 hs_qb hb27 ?_
              refine V.aload_n dX2_tell_127 rfl ?_
              refine V.iload_n dX2_tell_128 rfl ?_
              obtain ⟨hb28, hf⟩ := chk_some hf
              refine V.iald dX2_tell_129 hs_qb hb28 ?_
              refine V.ins cs_X2_13 (c_w_join) dX2_tell_130 rfl rfl (Nat.le_of_ble_eq_true rfl) (by decide) (by decide) (Nat.le_refl _) (Nat.le_refl _) (fun _ _ hq => ?_)
              obtain ⟨rfl, rfl⟩ := hq
              refine V.iastE dX2_tell_133 hs_qb hb27 (fun I29 e30 => ?_)
              rw [← e30] at hf
              try dsimp only at hf
              clear e30
              refine V.goto 213 dX2_tell_134 (by decide) ?_
              refine V.iinc (v := (l5 + 1)) dX2_tell_213 rfl rfl (by first | exact rfl | exact trivial) ?_
              refine V.goto 8 dX2_tell_216 (by decide) ?_
              exact V.lo [(0, some (.ref w)), (1, some (.ref qa)), (2, some (.ref qb)), (3, some (.int (l3 + (-1)))), (4, some (.int (l4 + 1))), (5, some (.int (l5 + 1)))] (by simp only [Subs]; repeat' first | exact trivial | constructor | rfl) (ih _ _ _ _ hf hk)
        · rw [if_neg c8] at hf
          refine V.iload_n dX2_tell_60 rfl ?_
          refine V.aload_n dX2_tell_61 rfl ?_
          refine V.alen dX2_tell_62 hs_qb (by decide) ?_
          refine V.icmp_ge 213 dX2_tell_63 (by decide) (fun c31 => ?_) (fun c31 => ?_)
          · rw [if_pos c31] at hf
            refine V.iinc (v := (l5 + 1)) dX2_tell_213 rfl rfl (by first | exact rfl | exact trivial) ?_
            refine V.goto 8 dX2_tell_216 (by decide) ?_
            exact V.lo [(0, some (.ref w)), (1, some (.ref qa)), (2, some (.ref qb)), (3, some (.int l3)), (4, some (.int (l4 + 1))), (5, some (.int (l5 + 1)))] (by simp only [Subs]; repeat' first | exact trivial | constructor | rfl) (ih _ _ _ _ hf hk)
          · rw [if_neg c31] at hf
            refine V.iload dX2_tell_66 rfl ?_
            refine V.if_eq 78 dX2_tell_68 (by decide) (fun c32 => ?_) (fun c32 => ?_)
            · rw [if_pos c32] at hf
              refine V.aload_n dX2_tell_78 rfl ?_
              refine V.iload_n dX2_tell_79 rfl ?_
              refine V.iload dX2_tell_80 rfl ?_
              refine V.if_ne 90 dX2_tell_82 (by decide) (fun c33 => ?_) (fun c33 => ?_)
              · rw [if_neg c33] at hf
                refine V.aload_n dX2_tell_90 rfl ?_
                refine V.iload dX2_tell_91 rfl ?_
                obtain ⟨hb34, hf⟩ := chk_some hf
                refine V.iald dX2_tell_93 hs_qa hb34 ?_
                obtain ⟨hb35, hf⟩ := chk_some hf
                refine V.iastE dX2_tell_94 hs_qb hb35 (fun I36 e37 => ?_)
                rw [← e37] at hf
                try dsimp only at hf
                clear e37
                refine V.iinc (v := (l3 + 1)) dX2_tell_95 rfl rfl (by first | exact rfl | exact trivial) ?_
                refine V.goto 213 dX2_tell_98 (by decide) ?_
                refine V.iinc (v := (l5 + 1)) dX2_tell_213 rfl rfl (by first | exact rfl | exact trivial) ?_
                refine V.goto 8 dX2_tell_216 (by decide) ?_
                exact V.lo [(0, some (.ref w)), (1, some (.ref qa)), (2, some (.ref qb)), (3, some (.int (l3 + 1))), (4, some (.int (l4 + 1))), (5, some (.int (l5 + 1)))] (by simp only [Subs]; repeat' first | exact trivial | constructor | rfl) (ih _ _ _ _ hf hk)
              · rw [if_pos c33] at hf
                refine V.iload dX2_tell_85 rfl ?_
                refine V.goto 94 dX2_tell_87 (by decide) ?_
                obtain ⟨hb38, hf⟩ := chk_some hf
                refine V.iastE dX2_tell_94 hs_qb hb38 (fun I39 e40 => ?_)
                rw [← e40] at hf
                try dsimp only at hf
                clear e40
                refine V.iinc (v := (l3 + 1)) dX2_tell_95 rfl rfl (by first | exact rfl | exact trivial) ?_
                refine V.goto 213 dX2_tell_98 (by decide) ?_
                refine V.iinc (v := (l5 + 1)) dX2_tell_213 rfl rfl (by first | exact rfl | exact trivial) ?_
                refine V.goto 8 dX2_tell_216 (by decide) ?_
                exact V.lo [(0, some (.ref w)), (1, some (.ref qa)), (2, some (.ref qb)), (3, some (.int (l3 + 1))), (4, some (.int (l4 + 1))), (5, some (.int (l5 + 1)))] (by simp only [Subs]; repeat' first | exact trivial | constructor | rfl) (ih _ _ _ _ hf hk)
            · rw [if_neg c32] at hf
              refine V.iload dX2_tell_71 rfl ?_
              refine V.aload_n dX2_tell_73 rfl ?_
              refine V.alen dX2_tell_74 hs_qa (by decide) ?_
              refine V.icmp_ge 213 dX2_tell_75 (by decide) (fun c41 => ?_) (fun c41 => ?_)
              · rw [if_pos c41] at hf
                refine V.iinc (v := (l5 + 1)) dX2_tell_213 rfl rfl (by first | exact rfl | exact trivial) ?_
                refine V.goto 8 dX2_tell_216 (by decide) ?_
                exact V.lo [(0, some (.ref w)), (1, some (.ref qa)), (2, some (.ref qb)), (3, some (.int l3)), (4, some (.int (l4 + 1))), (5, some (.int (l5 + 1)))] (by simp only [Subs]; repeat' first | exact trivial | constructor | rfl) (ih _ _ _ _ hf hk)
              · rw [if_neg c41] at hf
                refine V.aload_n dX2_tell_78 rfl ?_
                refine V.iload_n dX2_tell_79 rfl ?_
                refine V.iload dX2_tell_80 rfl ?_
                refine V.if_ne 90 dX2_tell_82 (by decide) (fun c42 => ?_) (fun c42 => ?_)
                · rw [if_neg c42] at hf
                  refine V.aload_n dX2_tell_90 rfl ?_
                  refine V.iload dX2_tell_91 rfl ?_
                  obtain ⟨hb43, hf⟩ := chk_some hf
                  refine V.iald dX2_tell_93 hs_qa hb43 ?_
                  obtain ⟨hb44, hf⟩ := chk_some hf
                  refine V.iastE dX2_tell_94 hs_qb hb44 (fun I45 e46 => ?_)
                  rw [← e46] at hf
                  try dsimp only at hf
                  clear e46
                  refine V.iinc (v := (l3 + 1)) dX2_tell_95 rfl rfl (by first | exact rfl | exact trivial) ?_
                  refine V.goto 213 dX2_tell_98 (by decide) ?_
                  refine V.iinc (v := (l5 + 1)) dX2_tell_213 rfl rfl (by first | exact rfl | exact trivial) ?_
                  refine V.goto 8 dX2_tell_216 (by decide) ?_
                  exact V.lo [(0, some (.ref w)), (1, some (.ref qa)), (2, some (.ref qb)), (3, some (.int (l3 + 1))), (4, some (.int (l4 + 1))), (5, some (.int (l5 + 1)))] (by simp only [Subs]; repeat' first | exact trivial | constructor | rfl) (ih _ _ _ _ hf hk)
                · rw [if_pos c42] at hf
                  refine V.iload dX2_tell_85 rfl ?_
                  refine V.goto 94 dX2_tell_87 (by decide) ?_
                  obtain ⟨hb47, hf⟩ := chk_some hf
                  refine V.iastE dX2_tell_94 hs_qb hb47 (fun I48 e49 => ?_)
                  rw [← e49] at hf
                  try dsimp only at hf
                  clear e49
                  refine V.iinc (v := (l3 + 1)) dX2_tell_95 rfl rfl (by first | exact rfl | exact trivial) ?_
                  refine V.goto 213 dX2_tell_98 (by decide) ?_
                  refine V.iinc (v := (l5 + 1)) dX2_tell_213 rfl rfl (by first | exact rfl | exact trivial) ?_
                  refine V.goto 8 dX2_tell_216 (by decide) ?_
                  exact V.lo [(0, some (.ref w)), (1, some (.ref qa)), (2, some (.ref qb)), (3, some (.int (l3 + 1))), (4, some (.int (l4 + 1))), (5, some (.int (l5 + 1)))] (by simp only [Subs]; repeat' first | exact trivial | constructor | rfl) (ih _ _ _ _ hf hk)
theorem c_w_tell {l : Launch} {D : va_G} {E : Nat → ClassId} {B : Nat → Prop} {n F : Nat} {T : Nat → Option (Nat × Nat)} {I : Nat → Nat → Int32} {J : Nat → Nat → Int64} {P : Nat → Nat → Option Nat} {w : Nat} {qa : Nat} {qb : Nat}  {r : Int32 × (Nat → Nat → Int32)} (hs_w : isLw T P w) (hs_qa : T qa = some (20, lenT T qa)) (hs_qb : T qb = some (20, lenT T qb)) (hf : w_tell F T I w qa qb = some r) : Ct l D E B yX2_tell cX2_tell 9 (some .int) 1 0 0 [.ref w, .ref qa, .ref qb] (n, T, I, J, P) (Ret (some (.int r.1)) (n, T, r.2, J, P)) := by
  unfold w_tell at hf
  refine Ct.ofV (by decide) (Nat.le_of_ble_eq_true rfl) ?_
  refine V.iconst (v := 0) dX2_tell_0 (by decide) ?_
  refine V.istore_n dX2_tell_1 rfl (by decide) (by first | exact rfl | exact trivial) ?_
  refine V.iconst (v := 0) dX2_tell_2 (by decide) ?_
  refine V.istore dX2_tell_3 (by decide) (by first | exact rfl | exact trivial) ?_
  refine V.iconst (v := 0) dX2_tell_5 (by decide) ?_
  refine V.istore dX2_tell_6 (by decide) (by first | exact rfl | exact trivial) ?_
  obtain ⟨⟨m52, m53, m54, I55⟩, hk51, hf⟩ := bnd_some hf
  try dsimp only at hf
  refine V.lo [(0, some (.ref w)), (1, some (.ref qa)), (2, some (.ref qb)), (3, some (.int 0)), (4, some (.int 0)), (5, some (.int 0))] (by simp only [Subs]; repeat' first | exact trivial | constructor | rfl) (l_w_tell_8 hs_w hs_qa hs_qb _ F _ _ _ _ hk51 ?_)
  try dsimp only
  refine V.iload_n dX2_tell_219 rfl ?_
  refine V.iconst (v := 1) dX2_tell_220 (by decide) ?_
  refine V.icmp_lt 232 dX2_tell_221 (by decide) (fun c56 => ?_) (fun c56 => ?_)
  · rw [if_pos c56] at hf
    refine V.iconst (v := 0) dX2_tell_232 (by decide) ?_
    obtain rfl := Option.some.inj hf
    exact V.iret dX2_tell_233 rfl (Nat.le_refl _) (Nat.le_refl _) ⟨rfl, rfl⟩
  · rw [if_neg c56] at hf
    refine V.aload_n dX2_tell_224 rfl ?_
    refine V.iload_n dX2_tell_225 rfl ?_
    refine V.iconst (v := 1) dX2_tell_226 (by decide) ?_
    refine V.isub dX2_tell_227 ?_
    obtain ⟨hb57, hf⟩ := chk_some hf
    refine V.iald dX2_tell_228 hs_qb hb57 ?_
    refine V.goto 233 dX2_tell_229 (by decide) ?_
    obtain rfl := Option.some.inj hf
    exact V.iret dX2_tell_233 rfl (Nat.le_refl _) (Nat.le_refl _) ⟨rfl, rfl⟩
theorem dX2_looksAt_0 : decode cX2_looksAt 0 = .ok (.iconst 1, 1) := by decide +kernel
theorem dX2_looksAt_1 : decode cX2_looksAt 1 = .ok (.iload_n 1, 1) := by decide +kernel
theorem dX2_looksAt_2 : decode cX2_looksAt 2 = .ok (.invokestatic 23, 3) := by decide +kernel
theorem dX2_looksAt_5 : decode cX2_looksAt 5 = .ok (.istore_n 2, 1) := by decide +kernel
theorem dX2_looksAt_6 : decode cX2_looksAt 6 = .ok (.iconst 0, 1) := by decide +kernel
theorem dX2_looksAt_7 : decode cX2_looksAt 7 = .ok (.istore_n 3, 1) := by decide +kernel
theorem dX2_looksAt_8 : decode cX2_looksAt 8 = .ok (.iload_n 3, 1) := by decide +kernel
theorem dX2_looksAt_9 : decode cX2_looksAt 9 = .ok (.aload_n 0, 1) := by decide +kernel
theorem dX2_looksAt_10 : decode cX2_looksAt 10 = .ok (.getfield 7, 3) := by decide +kernel
theorem dX2_looksAt_13 : decode cX2_looksAt 13 = .ok (.arraylength, 1) := by decide +kernel
theorem dX2_looksAt_14 : decode cX2_looksAt 14 = .ok (.if_icmp .ge 21, 3) := by decide +kernel
theorem dX2_looksAt_17 : decode cX2_looksAt 17 = .ok (.aload_n 0, 1) := by decide +kernel
theorem dX2_looksAt_18 : decode cX2_looksAt 18 = .ok (.getfield 7, 3) := by decide +kernel
theorem dX2_looksAt_21 : decode cX2_looksAt 21 = .ok (.iload_n 3, 1) := by decide +kernel
theorem dX2_looksAt_22 : decode cX2_looksAt 22 = .ok (.iaload, 1) := by decide +kernel
theorem dX2_looksAt_23 : decode cX2_looksAt 23 = .ok (.iload_n 2, 1) := by decide +kernel
theorem dX2_looksAt_24 : decode cX2_looksAt 24 = .ok (.if_icmp .ne 5, 3) := by decide +kernel
theorem dX2_looksAt_27 : decode cX2_looksAt 27 = .ok (.iconst 1, 1) := by decide +kernel
theorem dX2_looksAt_28 : decode cX2_looksAt 28 = .ok (.ireturn, 1) := by decide +kernel
theorem dX2_looksAt_29 : decode cX2_looksAt 29 = .ok (.iinc 3 1, 3) := by decide +kernel
theorem dX2_looksAt_32 : decode cX2_looksAt 32 = .ok (.goto (-24), 3) := by decide +kernel
theorem dX2_looksAt_35 : decode cX2_looksAt 35 = .ok (.iconst 0, 1) := by decide +kernel
theorem dX2_looksAt_36 : decode cX2_looksAt 36 = .ok (.ireturn, 1) := by decide +kernel
def w_looksAt_8 (F : Nat) (T : Nat → Option (Nat × Nat)) (I : Nat → Nat → Int32) (w : Nat) (g1 : Int32) (g2 : Int32) : Nat → Int32 → Option ((Int32) ⊕ (Int32))
  | 0, _ => none
  | k + 1, l3 => if (nI (lenT T (w + 1))) ≤ l3 then (some (.inr l3)) else (chk l3 (lenT T (w + 1)) (if (I (w + 1) (Int32.toNatClampNeg l3)) = g2 then (some (.inl 1)) else (w_looksAt_8 F T I w g1 g2 k (l3 + 1))))
def w_looksAt (F : Nat) (T : Nat → Option (Nat × Nat)) (I : Nat → Nat → Int32) (w : Nat) (v1 : Int32) : Option (Int32) := let x1 := (w_step 1 v1); (w_looksAt_8 F T I w v1 x1 F 0).bind (fun q6 => match q6 with | .inl r0 => some r0 | .inr q0 => let m8 := q0; some 0)
theorem l_w_looksAt_8 {l : Launch} {D : va_G} {E : Nat → ClassId} {B : Nat → Prop} {n F : Nat} {Q : Option Value → HT → Prop} {T : Nat → Option (Nat × Nat)} {I : Nat → Nat → Int32} {J : Nat → Nat → Int64} {P : Nat → Nat → Option Nat} {w : Nat} {g1 : Int32} {g2 : Int32} (hs_w : isLw T P w)  (r : (Int32) ⊕ (Int32)) : ∀ (k : Nat) (l3 : Int32), w_looksAt_8 F T I w g1 g2 k l3 = some r → (match r with | .inl r => Q (some (.int r)) (n, T, I, J, P) | .inr r => V l D E B yX2_looksAt cX2_looksAt 4 (some .boolean) 1 0 0 Q 0 0 (n, T, I, J, P) 35 [(0, some (.ref w)), (1, some (.int g1)), (2, some (.int g2)), (3, some (.int r))] []) → V l D E B yX2_looksAt cX2_looksAt 4 (some .boolean) 1 0 0 Q 0 0 (n, T, I, J, P) 8 [(0, some (.ref w)), (1, some (.int g1)), (2, some (.int g2)), (3, some (.int l3))] [] := by
  intro k
  induction k with
  | zero =>
    intro l3 hf hk
    cases hf
  | succ k ih =>
    intro l3 hf hk
    unfold w_looksAt_8 at hf
    refine V.iload_n dX2_looksAt_8 rfl ?_
    refine V.aload_n dX2_looksAt_9 rfl ?_
    refine V.getr fl_X2_7 dX2_looksAt_10 hs_w.1 hs_w.2.2 (by decide) rfl ?_
    refine V.alen dX2_looksAt_13 hs_w.2.1 (by decide) ?_
    refine V.icmp_ge 35 dX2_looksAt_14 (by decide) (fun c3 => ?_) (fun c3 => ?_)
    · rw [if_pos c3] at hf
      obtain rfl := Option.some.inj hf
      exact V.lo [(0, some (.ref w)), (1, some (.int g1)), (2, some (.int g2)), (3, some (.int l3))] (by simp only [Subs]; repeat' first | exact trivial | constructor | rfl) hk
    · rw [if_neg c3] at hf
      refine V.aload_n dX2_looksAt_17 rfl ?_
      refine V.getr fl_X2_7 dX2_looksAt_18 hs_w.1 hs_w.2.2 (by decide) rfl ?_
      refine V.iload_n dX2_looksAt_21 rfl ?_
      obtain ⟨hb4, hf⟩ := chk_some hf
      refine V.iald dX2_looksAt_22 hs_w.2.1 hb4 ?_
      refine V.iload_n dX2_looksAt_23 rfl ?_
      refine V.icmp_ne 29 dX2_looksAt_24 (by decide) (fun c5 => ?_) (fun c5 => ?_)
      · rw [if_neg c5] at hf
        refine V.iinc (v := (l3 + 1)) dX2_looksAt_29 rfl rfl (by first | exact rfl | exact trivial) ?_
        refine V.goto 8 dX2_looksAt_32 (by decide) ?_
        exact V.lo [(0, some (.ref w)), (1, some (.int g1)), (2, some (.int g2)), (3, some (.int (l3 + 1)))] (by simp only [Subs]; repeat' first | exact trivial | constructor | rfl) (ih _ hf hk)
      · rw [if_pos c5] at hf
        refine V.iconst (v := 1) dX2_looksAt_27 (by decide) ?_
        obtain rfl := Option.some.inj hf
        exact V.zret dX2_looksAt_28 rfl rfl (Nat.le_refl _) (Nat.le_refl _) hk
theorem c_w_looksAt {l : Launch} {D : va_G} {E : Nat → ClassId} {B : Nat → Prop} {n F : Nat} {T : Nat → Option (Nat × Nat)} {I : Nat → Nat → Int32} {J : Nat → Nat → Int64} {P : Nat → Nat → Option Nat} {w : Nat} {v1 : Int32} {r : Int32} (hs_w : isLw T P w) (hf : w_looksAt F T I w v1 = some r) : Ct l D E B yX2_looksAt cX2_looksAt 4 (some .boolean) 1 0 0 [.ref w, .int v1] (n, T, I, J, P) (Ret (some (.int r)) (n, T, I, J, P)) := by
  unfold w_looksAt at hf
  refine Ct.ofV (by decide) (Nat.le_of_ble_eq_true rfl) ?_
  refine V.iconst (v := 1) dX2_looksAt_0 (by decide) ?_
  refine V.iload_n dX2_looksAt_1 rfl ?_
  refine V.ins cs_X2_23 (c_w_step) dX2_looksAt_2 rfl rfl (Nat.le_of_ble_eq_true rfl) (by decide) (by decide) (Nat.le_refl _) (Nat.le_refl _) (fun _ _ hq => ?_)
  obtain ⟨rfl, rfl⟩ := hq
  refine V.istore_n dX2_looksAt_5 rfl (by decide) (by first | exact rfl | exact trivial) ?_
  obtain ⟨x1, e2⟩ : ∃ zz_, zz_ = (w_step 1 v1) := ⟨_, rfl⟩
  rw [← e2] at hf ⊢
  try dsimp only at hf
  refine V.iconst (v := 0) dX2_looksAt_6 (by decide) ?_
  refine V.istore_n dX2_looksAt_7 rfl (by decide) (by first | exact rfl | exact trivial) ?_
  obtain ⟨q6, hk7, hf⟩ := bnd_some hf
  refine V.lo [(0, some (.ref w)), (1, some (.int v1)), (2, some (.int x1)), (3, some (.int 0))] (by simp only [Subs]; repeat' first | exact trivial | constructor | rfl) (l_w_looksAt_8 hs_w q6 F _ hk7 ?_)
  rcases q6 with r0 | m8
  · try dsimp only at hf ⊢
    obtain rfl := Option.some.inj hf
    exact ⟨rfl, rfl⟩
  · try dsimp only at hf ⊢
    refine V.iconst (v := 0) dX2_looksAt_35 (by decide) ?_
    obtain rfl := Option.some.inj hf
    exact V.zret dX2_looksAt_36 rfl rfl (Nat.le_refl _) (Nat.le_refl _) ⟨rfl, rfl⟩
theorem dX3_knows_0 : decode cX3_knows 0 = .ok (.aload_n 0, 1) := by decide +kernel
theorem dX3_knows_1 : decode cX3_knows 1 = .ok (.getfield 7, 3) := by decide +kernel
theorem dX3_knows_4 : decode cX3_knows 4 = .ok (.iconst 0, 1) := by decide +kernel
theorem dX3_knows_5 : decode cX3_knows 5 = .ok (.iaload, 1) := by decide +kernel
theorem dX3_knows_6 : decode cX3_knows 6 = .ok (.iload_n 1, 1) := by decide +kernel
theorem dX3_knows_7 : decode cX3_knows 7 = .ok (.if_icmp .ne 49, 3) := by decide +kernel
theorem dX3_knows_10 : decode cX3_knows 10 = .ok (.aload_n 0, 1) := by decide +kernel
theorem dX3_knows_11 : decode cX3_knows 11 = .ok (.getfield 7, 3) := by decide +kernel
theorem dX3_knows_14 : decode cX3_knows 14 = .ok (.iconst 1, 1) := by decide +kernel
theorem dX3_knows_15 : decode cX3_knows 15 = .ok (.iaload, 1) := by decide +kernel
theorem dX3_knows_16 : decode cX3_knows 16 = .ok (.iload_n 2, 1) := by decide +kernel
theorem dX3_knows_17 : decode cX3_knows 17 = .ok (.if_icmp .ne 39, 3) := by decide +kernel
theorem dX3_knows_20 : decode cX3_knows 20 = .ok (.aload_n 0, 1) := by decide +kernel
theorem dX3_knows_21 : decode cX3_knows 21 = .ok (.getfield 7, 3) := by decide +kernel
theorem dX3_knows_24 : decode cX3_knows 24 = .ok (.iconst 2, 1) := by decide +kernel
theorem dX3_knows_25 : decode cX3_knows 25 = .ok (.iaload, 1) := by decide +kernel
theorem dX3_knows_26 : decode cX3_knows 26 = .ok (.iload_n 3, 1) := by decide +kernel
theorem dX3_knows_27 : decode cX3_knows 27 = .ok (.if_icmp .ne 29, 3) := by decide +kernel
theorem dX3_knows_30 : decode cX3_knows 30 = .ok (.aload_n 0, 1) := by decide +kernel
theorem dX3_knows_31 : decode cX3_knows 31 = .ok (.getfield 7, 3) := by decide +kernel
theorem dX3_knows_34 : decode cX3_knows 34 = .ok (.iconst 3, 1) := by decide +kernel
theorem dX3_knows_35 : decode cX3_knows 35 = .ok (.iaload, 1) := by decide +kernel
theorem dX3_knows_36 : decode cX3_knows 36 = .ok (.iload 4, 2) := by decide +kernel
theorem dX3_knows_38 : decode cX3_knows 38 = .ok (.if_icmp .ne 18, 3) := by decide +kernel
theorem dX3_knows_41 : decode cX3_knows 41 = .ok (.aload_n 0, 1) := by decide +kernel
theorem dX3_knows_42 : decode cX3_knows 42 = .ok (.getfield 7, 3) := by decide +kernel
theorem dX3_knows_45 : decode cX3_knows 45 = .ok (.iconst 4, 1) := by decide +kernel
theorem dX3_knows_46 : decode cX3_knows 46 = .ok (.iaload, 1) := by decide +kernel
theorem dX3_knows_47 : decode cX3_knows 47 = .ok (.iload 5, 2) := by decide +kernel
theorem dX3_knows_49 : decode cX3_knows 49 = .ok (.if_icmp .ne 7, 3) := by decide +kernel
theorem dX3_knows_52 : decode cX3_knows 52 = .ok (.iconst 1, 1) := by decide +kernel
theorem dX3_knows_53 : decode cX3_knows 53 = .ok (.goto 4, 3) := by decide +kernel
theorem dX3_knows_56 : decode cX3_knows 56 = .ok (.iconst 0, 1) := by decide +kernel
theorem dX3_knows_57 : decode cX3_knows 57 = .ok (.istore 6, 2) := by decide +kernel
theorem dX3_knows_59 : decode cX3_knows 59 = .ok (.aload_n 0, 1) := by decide +kernel
theorem dX3_knows_60 : decode cX3_knows 60 = .ok (.getfield 7, 3) := by decide +kernel
theorem dX3_knows_63 : decode cX3_knows 63 = .ok (.iconst 0, 1) := by decide +kernel
theorem dX3_knows_64 : decode cX3_knows 64 = .ok (.iload_n 1, 1) := by decide +kernel
theorem dX3_knows_65 : decode cX3_knows 65 = .ok (.iastore, 1) := by decide +kernel
theorem dX3_knows_66 : decode cX3_knows 66 = .ok (.aload_n 0, 1) := by decide +kernel
theorem dX3_knows_67 : decode cX3_knows 67 = .ok (.getfield 7, 3) := by decide +kernel
theorem dX3_knows_70 : decode cX3_knows 70 = .ok (.iconst 1, 1) := by decide +kernel
theorem dX3_knows_71 : decode cX3_knows 71 = .ok (.iload_n 2, 1) := by decide +kernel
theorem dX3_knows_72 : decode cX3_knows 72 = .ok (.iastore, 1) := by decide +kernel
theorem dX3_knows_73 : decode cX3_knows 73 = .ok (.aload_n 0, 1) := by decide +kernel
theorem dX3_knows_74 : decode cX3_knows 74 = .ok (.getfield 7, 3) := by decide +kernel
theorem dX3_knows_77 : decode cX3_knows 77 = .ok (.iconst 2, 1) := by decide +kernel
theorem dX3_knows_78 : decode cX3_knows 78 = .ok (.iload_n 3, 1) := by decide +kernel
theorem dX3_knows_79 : decode cX3_knows 79 = .ok (.iastore, 1) := by decide +kernel
theorem dX3_knows_80 : decode cX3_knows 80 = .ok (.aload_n 0, 1) := by decide +kernel
theorem dX3_knows_81 : decode cX3_knows 81 = .ok (.getfield 7, 3) := by decide +kernel
theorem dX3_knows_84 : decode cX3_knows 84 = .ok (.iconst 3, 1) := by decide +kernel
theorem dX3_knows_85 : decode cX3_knows 85 = .ok (.iload 4, 2) := by decide +kernel
theorem dX3_knows_87 : decode cX3_knows 87 = .ok (.iastore, 1) := by decide +kernel
theorem dX3_knows_88 : decode cX3_knows 88 = .ok (.aload_n 0, 1) := by decide +kernel
theorem dX3_knows_89 : decode cX3_knows 89 = .ok (.getfield 7, 3) := by decide +kernel
theorem dX3_knows_92 : decode cX3_knows 92 = .ok (.iconst 4, 1) := by decide +kernel
theorem dX3_knows_93 : decode cX3_knows 93 = .ok (.iload 5, 2) := by decide +kernel
theorem dX3_knows_95 : decode cX3_knows 95 = .ok (.iastore, 1) := by decide +kernel
theorem dX3_knows_96 : decode cX3_knows 96 = .ok (.iload 6, 2) := by decide +kernel
theorem dX3_knows_98 : decode cX3_knows 98 = .ok (.ireturn, 1) := by decide +kernel
def mm_knows (I : Nat → Nat → Int32) (mm : Nat) (v1 : Int32) (v2 : Int32) (v3 : Int32) (v4 : Int32) (v5 : Int32) : Option (Int32 × (Nat → Nat → Int32)) := if (I (mm + 1) (Int32.toNatClampNeg 0)) = v1 then (if (I (mm + 1) (Int32.toNatClampNeg 1)) = v2 then (if (I (mm + 1) (Int32.toNatClampNeg 2)) = v3 then (if (I (mm + 1) (Int32.toNatClampNeg 3)) = v4 then (if (I (mm + 1) (Int32.toNatClampNeg 4)) = v5 then (let I56 := uI I (mm + 1) (Int32.toNatClampNeg 0) v1; let I58 := uI I56 (mm + 1) (Int32.toNatClampNeg 1) v2; let I60 := uI I58 (mm + 1) (Int32.toNatClampNeg 2) v3; let I62 := uI I60 (mm + 1) (Int32.toNatClampNeg 3) v4; let I64 := uI I62 (mm + 1) (Int32.toNatClampNeg 4) v5; some (1, I64)) else (let I46 := uI I (mm + 1) (Int32.toNatClampNeg 0) v1; let I48 := uI I46 (mm + 1) (Int32.toNatClampNeg 1) v2; let I50 := uI I48 (mm + 1) (Int32.toNatClampNeg 2) v3; let I52 := uI I50 (mm + 1) (Int32.toNatClampNeg 3) v4; let I54 := uI I52 (mm + 1) (Int32.toNatClampNeg 4) v5; some (0, I54))) else (let I35 := uI I (mm + 1) (Int32.toNatClampNeg 0) v1; let I37 := uI I35 (mm + 1) (Int32.toNatClampNeg 1) v2; let I39 := uI I37 (mm + 1) (Int32.toNatClampNeg 2) v3; let I41 := uI I39 (mm + 1) (Int32.toNatClampNeg 3) v4; let I43 := uI I41 (mm + 1) (Int32.toNatClampNeg 4) v5; some (0, I43))) else (let I24 := uI I (mm + 1) (Int32.toNatClampNeg 0) v1; let I26 := uI I24 (mm + 1) (Int32.toNatClampNeg 1) v2; let I28 := uI I26 (mm + 1) (Int32.toNatClampNeg 2) v3; let I30 := uI I28 (mm + 1) (Int32.toNatClampNeg 3) v4; let I32 := uI I30 (mm + 1) (Int32.toNatClampNeg 4) v5; some (0, I32))) else (let I13 := uI I (mm + 1) (Int32.toNatClampNeg 0) v1; let I15 := uI I13 (mm + 1) (Int32.toNatClampNeg 1) v2; let I17 := uI I15 (mm + 1) (Int32.toNatClampNeg 2) v3; let I19 := uI I17 (mm + 1) (Int32.toNatClampNeg 3) v4; let I21 := uI I19 (mm + 1) (Int32.toNatClampNeg 4) v5; some (0, I21))) else (let I2 := uI I (mm + 1) (Int32.toNatClampNeg 0) v1; let I4 := uI I2 (mm + 1) (Int32.toNatClampNeg 1) v2; let I6 := uI I4 (mm + 1) (Int32.toNatClampNeg 2) v3; let I8 := uI I6 (mm + 1) (Int32.toNatClampNeg 3) v4; let I10 := uI I8 (mm + 1) (Int32.toNatClampNeg 4) v5; some (0, I10))
theorem c_mm_knows {l : Launch} {D : va_G} {E : Nat → ClassId} {B : Nat → Prop} {n : Nat} {T : Nat → Option (Nat × Nat)} {I : Nat → Nat → Int32} {J : Nat → Nat → Int64} {P : Nat → Nat → Option Nat} {mm : Nat} {v1 : Int32} {v2 : Int32} {v3 : Int32} {v4 : Int32} {v5 : Int32} {r : Int32 × (Nat → Nat → Int32)} (hs_mm : isMm T P mm) (hf : mm_knows I mm v1 v2 v3 v4 v5 = some r) : Ct l D E B yX3_knows cX3_knows 7 (some .boolean) 0 0 0 [.ref mm, .int v1, .int v2, .int v3, .int v4, .int v5] (n, T, I, J, P) (Ret (some (.int r.1)) (n, T, r.2, J, P)) := by
  unfold mm_knows at hf
  refine Ct.ofV (by decide) (Nat.le_of_ble_eq_true rfl) ?_
  refine V.aload_n dX3_knows_0 rfl ?_
  refine V.getr fl_X3_7 dX3_knows_1 (hs_mm.1 0 (3, 0) rfl) (hs_mm.2 0 0 1 rfl) (by decide) rfl ?_
  refine V.iconst (v := 0) dX3_knows_4 (by decide) ?_
  refine V.iald dX3_knows_5 (hs_mm.1 1 (20, 5) rfl) (vp_lit (by decide)) ?_
  refine V.iload_n dX3_knows_6 rfl ?_
  refine V.icmp_ne 56 dX3_knows_7 (by decide) (fun c1 => ?_) (fun c1 => ?_)
  · rw [if_neg c1] at hf
    refine V.iconst (v := 0) dX3_knows_56 (by decide) ?_
    refine V.istore dX3_knows_57 (by decide) (by first | exact rfl | exact trivial) ?_
    refine V.aload_n dX3_knows_59 rfl ?_
    refine V.getr fl_X3_7 dX3_knows_60 (hs_mm.1 0 (3, 0) rfl) (hs_mm.2 0 0 1 rfl) (by decide) rfl ?_
    refine V.iconst (v := 0) dX3_knows_63 (by decide) ?_
    refine V.iload_n dX3_knows_64 rfl ?_
    refine V.iastE dX3_knows_65 (hs_mm.1 1 (20, 5) rfl) (vp_lit (by decide)) (fun I2 e3 => ?_)
    rw [← e3] at hf
    try dsimp only at hf
    clear e3
    refine V.aload_n dX3_knows_66 rfl ?_
    refine V.getr fl_X3_7 dX3_knows_67 (hs_mm.1 0 (3, 0) rfl) (hs_mm.2 0 0 1 rfl) (by decide) rfl ?_
    refine V.iconst (v := 1) dX3_knows_70 (by decide) ?_
    refine V.iload_n dX3_knows_71 rfl ?_
    refine V.iastE dX3_knows_72 (hs_mm.1 1 (20, 5) rfl) (vp_lit (by decide)) (fun I4 e5 => ?_)
    rw [← e5] at hf
    try dsimp only at hf
    clear e5
    refine V.aload_n dX3_knows_73 rfl ?_
    refine V.getr fl_X3_7 dX3_knows_74 (hs_mm.1 0 (3, 0) rfl) (hs_mm.2 0 0 1 rfl) (by decide) rfl ?_
    refine V.iconst (v := 2) dX3_knows_77 (by decide) ?_
    refine V.iload_n dX3_knows_78 rfl ?_
    refine V.iastE dX3_knows_79 (hs_mm.1 1 (20, 5) rfl) (vp_lit (by decide)) (fun I6 e7 => ?_)
    rw [← e7] at hf
    try dsimp only at hf
    clear e7
    refine V.aload_n dX3_knows_80 rfl ?_
    refine V.getr fl_X3_7 dX3_knows_81 (hs_mm.1 0 (3, 0) rfl) (hs_mm.2 0 0 1 rfl) (by decide) rfl ?_
    refine V.iconst (v := 3) dX3_knows_84 (by decide) ?_
    refine V.iload dX3_knows_85 rfl ?_
    refine V.iastE dX3_knows_87 (hs_mm.1 1 (20, 5) rfl) (vp_lit (by decide)) (fun I8 e9 => ?_)
    rw [← e9] at hf
    try dsimp only at hf
    clear e9
    refine V.aload_n dX3_knows_88 rfl ?_
    refine V.getr fl_X3_7 dX3_knows_89 (hs_mm.1 0 (3, 0) rfl) (hs_mm.2 0 0 1 rfl) (by decide) rfl ?_
    refine V.iconst (v := 4) dX3_knows_92 (by decide) ?_
    refine V.iload dX3_knows_93 rfl ?_
    refine V.iastE dX3_knows_95 (hs_mm.1 1 (20, 5) rfl) (vp_lit (by decide)) (fun I10 e11 => ?_)
    rw [← e11] at hf
    try dsimp only at hf
    clear e11
    refine V.iload dX3_knows_96 rfl ?_
    obtain rfl := Option.some.inj hf
    exact V.zret dX3_knows_98 rfl rfl (Nat.le_refl _) (Nat.le_refl _) ⟨rfl, rfl⟩
  · rw [if_pos c1] at hf
    refine V.aload_n dX3_knows_10 rfl ?_
    refine V.getr fl_X3_7 dX3_knows_11 (hs_mm.1 0 (3, 0) rfl) (hs_mm.2 0 0 1 rfl) (by decide) rfl ?_
    refine V.iconst (v := 1) dX3_knows_14 (by decide) ?_
    refine V.iald dX3_knows_15 (hs_mm.1 1 (20, 5) rfl) (vp_lit (by decide)) ?_
    refine V.iload_n dX3_knows_16 rfl ?_
    refine V.icmp_ne 56 dX3_knows_17 (by decide) (fun c12 => ?_) (fun c12 => ?_)
    · rw [if_neg c12] at hf
      refine V.iconst (v := 0) dX3_knows_56 (by decide) ?_
      refine V.istore dX3_knows_57 (by decide) (by first | exact rfl | exact trivial) ?_
      refine V.aload_n dX3_knows_59 rfl ?_
      refine V.getr fl_X3_7 dX3_knows_60 (hs_mm.1 0 (3, 0) rfl) (hs_mm.2 0 0 1 rfl) (by decide) rfl ?_
      refine V.iconst (v := 0) dX3_knows_63 (by decide) ?_
      refine V.iload_n dX3_knows_64 rfl ?_
      refine V.iastE dX3_knows_65 (hs_mm.1 1 (20, 5) rfl) (vp_lit (by decide)) (fun I13 e14 => ?_)
      rw [← e14] at hf
      try dsimp only at hf
      clear e14
      refine V.aload_n dX3_knows_66 rfl ?_
      refine V.getr fl_X3_7 dX3_knows_67 (hs_mm.1 0 (3, 0) rfl) (hs_mm.2 0 0 1 rfl) (by decide) rfl ?_
      refine V.iconst (v := 1) dX3_knows_70 (by decide) ?_
      refine V.iload_n dX3_knows_71 rfl ?_
      refine V.iastE dX3_knows_72 (hs_mm.1 1 (20, 5) rfl) (vp_lit (by decide)) (fun I15 e16 => ?_)
      rw [← e16] at hf
      try dsimp only at hf
      clear e16
      refine V.aload_n dX3_knows_73 rfl ?_
      refine V.getr fl_X3_7 dX3_knows_74 (hs_mm.1 0 (3, 0) rfl) (hs_mm.2 0 0 1 rfl) (by decide) rfl ?_
      refine V.iconst (v := 2) dX3_knows_77 (by decide) ?_
      refine V.iload_n dX3_knows_78 rfl ?_
      refine V.iastE dX3_knows_79 (hs_mm.1 1 (20, 5) rfl) (vp_lit (by decide)) (fun I17 e18 => ?_)
      rw [← e18] at hf
      try dsimp only at hf
      clear e18
      refine V.aload_n dX3_knows_80 rfl ?_
      refine V.getr fl_X3_7 dX3_knows_81 (hs_mm.1 0 (3, 0) rfl) (hs_mm.2 0 0 1 rfl) (by decide) rfl ?_
      refine V.iconst (v := 3) dX3_knows_84 (by decide) ?_
      refine V.iload dX3_knows_85 rfl ?_
      refine V.iastE dX3_knows_87 (hs_mm.1 1 (20, 5) rfl) (vp_lit (by decide)) (fun I19 e20 => ?_)
      rw [← e20] at hf
      try dsimp only at hf
      clear e20
      refine V.aload_n dX3_knows_88 rfl ?_
      refine V.getr fl_X3_7 dX3_knows_89 (hs_mm.1 0 (3, 0) rfl) (hs_mm.2 0 0 1 rfl) (by decide) rfl ?_
      refine V.iconst (v := 4) dX3_knows_92 (by decide) ?_
      refine V.iload dX3_knows_93 rfl ?_
      refine V.iastE dX3_knows_95 (hs_mm.1 1 (20, 5) rfl) (vp_lit (by decide)) (fun I21 e22 => ?_)
      rw [← e22] at hf
      try dsimp only at hf
      clear e22
      refine V.iload dX3_knows_96 rfl ?_
      obtain rfl := Option.some.inj hf
      exact V.zret dX3_knows_98 rfl rfl (Nat.le_refl _) (Nat.le_refl _) ⟨rfl, rfl⟩
    · rw [if_pos c12] at hf
      refine V.aload_n dX3_knows_20 rfl ?_
      refine V.getr fl_X3_7 dX3_knows_21 (hs_mm.1 0 (3, 0) rfl) (hs_mm.2 0 0 1 rfl) (by decide) rfl ?_
      refine V.iconst (v := 2) dX3_knows_24 (by decide) ?_
      refine V.iald dX3_knows_25 (hs_mm.1 1 (20, 5) rfl) (vp_lit (by decide)) ?_
      refine V.iload_n dX3_knows_26 rfl ?_
      refine V.icmp_ne 56 dX3_knows_27 (by decide) (fun c23 => ?_) (fun c23 => ?_)
      · rw [if_neg c23] at hf
        refine V.iconst (v := 0) dX3_knows_56 (by decide) ?_
        refine V.istore dX3_knows_57 (by decide) (by first | exact rfl | exact trivial) ?_
        refine V.aload_n dX3_knows_59 rfl ?_
        refine V.getr fl_X3_7 dX3_knows_60 (hs_mm.1 0 (3, 0) rfl) (hs_mm.2 0 0 1 rfl) (by decide) rfl ?_
        refine V.iconst (v := 0) dX3_knows_63 (by decide) ?_
        refine V.iload_n dX3_knows_64 rfl ?_
        refine V.iastE dX3_knows_65 (hs_mm.1 1 (20, 5) rfl) (vp_lit (by decide)) (fun I24 e25 => ?_)
        rw [← e25] at hf
        try dsimp only at hf
        clear e25
        refine V.aload_n dX3_knows_66 rfl ?_
        refine V.getr fl_X3_7 dX3_knows_67 (hs_mm.1 0 (3, 0) rfl) (hs_mm.2 0 0 1 rfl) (by decide) rfl ?_
        refine V.iconst (v := 1) dX3_knows_70 (by decide) ?_
        refine V.iload_n dX3_knows_71 rfl ?_
        refine V.iastE dX3_knows_72 (hs_mm.1 1 (20, 5) rfl) (vp_lit (by decide)) (fun I26 e27 => ?_)
        rw [← e27] at hf
        try dsimp only at hf
        clear e27
        refine V.aload_n dX3_knows_73 rfl ?_
        refine V.getr fl_X3_7 dX3_knows_74 (hs_mm.1 0 (3, 0) rfl) (hs_mm.2 0 0 1 rfl) (by decide) rfl ?_
        refine V.iconst (v := 2) dX3_knows_77 (by decide) ?_
        refine V.iload_n dX3_knows_78 rfl ?_
        refine V.iastE dX3_knows_79 (hs_mm.1 1 (20, 5) rfl) (vp_lit (by decide)) (fun I28 e29 => ?_)
        rw [← e29] at hf
        try dsimp only at hf
        clear e29
        refine V.aload_n dX3_knows_80 rfl ?_
        refine V.getr fl_X3_7 dX3_knows_81 (hs_mm.1 0 (3, 0) rfl) (hs_mm.2 0 0 1 rfl) (by decide) rfl ?_
        refine V.iconst (v := 3) dX3_knows_84 (by decide) ?_
        refine V.iload dX3_knows_85 rfl ?_
        refine V.iastE dX3_knows_87 (hs_mm.1 1 (20, 5) rfl) (vp_lit (by decide)) (fun I30 e31 => ?_)
        rw [← e31] at hf
        try dsimp only at hf
        clear e31
        refine V.aload_n dX3_knows_88 rfl ?_
        refine V.getr fl_X3_7 dX3_knows_89 (hs_mm.1 0 (3, 0) rfl) (hs_mm.2 0 0 1 rfl) (by decide) rfl ?_
        refine V.iconst (v := 4) dX3_knows_92 (by decide) ?_
        refine V.iload dX3_knows_93 rfl ?_
        refine V.iastE dX3_knows_95 (hs_mm.1 1 (20, 5) rfl) (vp_lit (by decide)) (fun I32 e33 => ?_)
        rw [← e33] at hf
        try dsimp only at hf
        clear e33
        refine V.iload dX3_knows_96 rfl ?_
        obtain rfl := Option.some.inj hf
        exact V.zret dX3_knows_98 rfl rfl (Nat.le_refl _) (Nat.le_refl _) ⟨rfl, rfl⟩
      · rw [if_pos c23] at hf
        refine V.aload_n dX3_knows_30 rfl ?_
        refine V.getr fl_X3_7 dX3_knows_31 (hs_mm.1 0 (3, 0) rfl) (hs_mm.2 0 0 1 rfl) (by decide) rfl ?_
        refine V.iconst (v := 3) dX3_knows_34 (by decide) ?_
        refine V.iald dX3_knows_35 (hs_mm.1 1 (20, 5) rfl) (vp_lit (by decide)) ?_
        refine V.iload dX3_knows_36 rfl ?_
        refine V.icmp_ne 56 dX3_knows_38 (by decide) (fun c34 => ?_) (fun c34 => ?_)
        · rw [if_neg c34] at hf
          refine V.iconst (v := 0) dX3_knows_56 (by decide) ?_
          refine V.istore dX3_knows_57 (by decide) (by first | exact rfl | exact trivial) ?_
          refine V.aload_n dX3_knows_59 rfl ?_
          refine V.getr fl_X3_7 dX3_knows_60 (hs_mm.1 0 (3, 0) rfl) (hs_mm.2 0 0 1 rfl) (by decide) rfl ?_
          refine V.iconst (v := 0) dX3_knows_63 (by decide) ?_
          refine V.iload_n dX3_knows_64 rfl ?_
          refine V.iastE dX3_knows_65 (hs_mm.1 1 (20, 5) rfl) (vp_lit (by decide)) (fun I35 e36 => ?_)
          rw [← e36] at hf
          try dsimp only at hf
          clear e36
          refine V.aload_n dX3_knows_66 rfl ?_
          refine V.getr fl_X3_7 dX3_knows_67 (hs_mm.1 0 (3, 0) rfl) (hs_mm.2 0 0 1 rfl) (by decide) rfl ?_
          refine V.iconst (v := 1) dX3_knows_70 (by decide) ?_
          refine V.iload_n dX3_knows_71 rfl ?_
          refine V.iastE dX3_knows_72 (hs_mm.1 1 (20, 5) rfl) (vp_lit (by decide)) (fun I37 e38 => ?_)
          rw [← e38] at hf
          try dsimp only at hf
          clear e38
          refine V.aload_n dX3_knows_73 rfl ?_
          refine V.getr fl_X3_7 dX3_knows_74 (hs_mm.1 0 (3, 0) rfl) (hs_mm.2 0 0 1 rfl) (by decide) rfl ?_
          refine V.iconst (v := 2) dX3_knows_77 (by decide) ?_
          refine V.iload_n dX3_knows_78 rfl ?_
          refine V.iastE dX3_knows_79 (hs_mm.1 1 (20, 5) rfl) (vp_lit (by decide)) (fun I39 e40 => ?_)
          rw [← e40] at hf
          try dsimp only at hf
          clear e40
          refine V.aload_n dX3_knows_80 rfl ?_
          refine V.getr fl_X3_7 dX3_knows_81 (hs_mm.1 0 (3, 0) rfl) (hs_mm.2 0 0 1 rfl) (by decide) rfl ?_
          refine V.iconst (v := 3) dX3_knows_84 (by decide) ?_
          refine V.iload dX3_knows_85 rfl ?_
          refine V.iastE dX3_knows_87 (hs_mm.1 1 (20, 5) rfl) (vp_lit (by decide)) (fun I41 e42 => ?_)
          rw [← e42] at hf
          try dsimp only at hf
          clear e42
          refine V.aload_n dX3_knows_88 rfl ?_
          refine V.getr fl_X3_7 dX3_knows_89 (hs_mm.1 0 (3, 0) rfl) (hs_mm.2 0 0 1 rfl) (by decide) rfl ?_
          refine V.iconst (v := 4) dX3_knows_92 (by decide) ?_
          refine V.iload dX3_knows_93 rfl ?_
          refine V.iastE dX3_knows_95 (hs_mm.1 1 (20, 5) rfl) (vp_lit (by decide)) (fun I43 e44 => ?_)
          rw [← e44] at hf
          try dsimp only at hf
          clear e44
          refine V.iload dX3_knows_96 rfl ?_
          obtain rfl := Option.some.inj hf
          exact V.zret dX3_knows_98 rfl rfl (Nat.le_refl _) (Nat.le_refl _) ⟨rfl, rfl⟩
        · rw [if_pos c34] at hf
          refine V.aload_n dX3_knows_41 rfl ?_
          refine V.getr fl_X3_7 dX3_knows_42 (hs_mm.1 0 (3, 0) rfl) (hs_mm.2 0 0 1 rfl) (by decide) rfl ?_
          refine V.iconst (v := 4) dX3_knows_45 (by decide) ?_
          refine V.iald dX3_knows_46 (hs_mm.1 1 (20, 5) rfl) (vp_lit (by decide)) ?_
          refine V.iload dX3_knows_47 rfl ?_
          refine V.icmp_ne 56 dX3_knows_49 (by decide) (fun c45 => ?_) (fun c45 => ?_)
          · rw [if_neg c45] at hf
            refine V.iconst (v := 0) dX3_knows_56 (by decide) ?_
            refine V.istore dX3_knows_57 (by decide) (by first | exact rfl | exact trivial) ?_
            refine V.aload_n dX3_knows_59 rfl ?_
            refine V.getr fl_X3_7 dX3_knows_60 (hs_mm.1 0 (3, 0) rfl) (hs_mm.2 0 0 1 rfl) (by decide) rfl ?_
            refine V.iconst (v := 0) dX3_knows_63 (by decide) ?_
            refine V.iload_n dX3_knows_64 rfl ?_
            refine V.iastE dX3_knows_65 (hs_mm.1 1 (20, 5) rfl) (vp_lit (by decide)) (fun I46 e47 => ?_)
            rw [← e47] at hf
            try dsimp only at hf
            clear e47
            refine V.aload_n dX3_knows_66 rfl ?_
            refine V.getr fl_X3_7 dX3_knows_67 (hs_mm.1 0 (3, 0) rfl) (hs_mm.2 0 0 1 rfl) (by decide) rfl ?_
            refine V.iconst (v := 1) dX3_knows_70 (by decide) ?_
            refine V.iload_n dX3_knows_71 rfl ?_
            refine V.iastE dX3_knows_72 (hs_mm.1 1 (20, 5) rfl) (vp_lit (by decide)) (fun I48 e49 => ?_)
            rw [← e49] at hf
            try dsimp only at hf
            clear e49
            refine V.aload_n dX3_knows_73 rfl ?_
            refine V.getr fl_X3_7 dX3_knows_74 (hs_mm.1 0 (3, 0) rfl) (hs_mm.2 0 0 1 rfl) (by decide) rfl ?_
            refine V.iconst (v := 2) dX3_knows_77 (by decide) ?_
            refine V.iload_n dX3_knows_78 rfl ?_
            refine V.iastE dX3_knows_79 (hs_mm.1 1 (20, 5) rfl) (vp_lit (by decide)) (fun I50 e51 => ?_)
            rw [← e51] at hf
            try dsimp only at hf
            clear e51
            refine V.aload_n dX3_knows_80 rfl ?_
            refine V.getr fl_X3_7 dX3_knows_81 (hs_mm.1 0 (3, 0) rfl) (hs_mm.2 0 0 1 rfl) (by decide) rfl ?_
            refine V.iconst (v := 3) dX3_knows_84 (by decide) ?_
            refine V.iload dX3_knows_85 rfl ?_
            refine V.iastE dX3_knows_87 (hs_mm.1 1 (20, 5) rfl) (vp_lit (by decide)) (fun I52 e53 => ?_)
            rw [← e53] at hf
            try dsimp only at hf
            clear e53
            refine V.aload_n dX3_knows_88 rfl ?_
            refine V.getr fl_X3_7 dX3_knows_89 (hs_mm.1 0 (3, 0) rfl) (hs_mm.2 0 0 1 rfl) (by decide) rfl ?_
            refine V.iconst (v := 4) dX3_knows_92 (by decide) ?_
            refine V.iload dX3_knows_93 rfl ?_
            refine V.iastE dX3_knows_95 (hs_mm.1 1 (20, 5) rfl) (vp_lit (by decide)) (fun I54 e55 => ?_)
            rw [← e55] at hf
            try dsimp only at hf
            clear e55
            refine V.iload dX3_knows_96 rfl ?_
            obtain rfl := Option.some.inj hf
            exact V.zret dX3_knows_98 rfl rfl (Nat.le_refl _) (Nat.le_refl _) ⟨rfl, rfl⟩
          · rw [if_pos c45] at hf
            refine V.iconst (v := 1) dX3_knows_52 (by decide) ?_
            refine V.goto 57 dX3_knows_53 (by decide) ?_
            refine V.istore dX3_knows_57 (by decide) (by first | exact rfl | exact trivial) ?_
            refine V.aload_n dX3_knows_59 rfl ?_
            refine V.getr fl_X3_7 dX3_knows_60 (hs_mm.1 0 (3, 0) rfl) (hs_mm.2 0 0 1 rfl) (by decide) rfl ?_
            refine V.iconst (v := 0) dX3_knows_63 (by decide) ?_
            refine V.iload_n dX3_knows_64 rfl ?_
            refine V.iastE dX3_knows_65 (hs_mm.1 1 (20, 5) rfl) (vp_lit (by decide)) (fun I56 e57 => ?_)
            rw [← e57] at hf
            try dsimp only at hf
            clear e57
            refine V.aload_n dX3_knows_66 rfl ?_
            refine V.getr fl_X3_7 dX3_knows_67 (hs_mm.1 0 (3, 0) rfl) (hs_mm.2 0 0 1 rfl) (by decide) rfl ?_
            refine V.iconst (v := 1) dX3_knows_70 (by decide) ?_
            refine V.iload_n dX3_knows_71 rfl ?_
            refine V.iastE dX3_knows_72 (hs_mm.1 1 (20, 5) rfl) (vp_lit (by decide)) (fun I58 e59 => ?_)
            rw [← e59] at hf
            try dsimp only at hf
            clear e59
            refine V.aload_n dX3_knows_73 rfl ?_
            refine V.getr fl_X3_7 dX3_knows_74 (hs_mm.1 0 (3, 0) rfl) (hs_mm.2 0 0 1 rfl) (by decide) rfl ?_
            refine V.iconst (v := 2) dX3_knows_77 (by decide) ?_
            refine V.iload_n dX3_knows_78 rfl ?_
            refine V.iastE dX3_knows_79 (hs_mm.1 1 (20, 5) rfl) (vp_lit (by decide)) (fun I60 e61 => ?_)
            rw [← e61] at hf
            try dsimp only at hf
            clear e61
            refine V.aload_n dX3_knows_80 rfl ?_
            refine V.getr fl_X3_7 dX3_knows_81 (hs_mm.1 0 (3, 0) rfl) (hs_mm.2 0 0 1 rfl) (by decide) rfl ?_
            refine V.iconst (v := 3) dX3_knows_84 (by decide) ?_
            refine V.iload dX3_knows_85 rfl ?_
            refine V.iastE dX3_knows_87 (hs_mm.1 1 (20, 5) rfl) (vp_lit (by decide)) (fun I62 e63 => ?_)
            rw [← e63] at hf
            try dsimp only at hf
            clear e63
            refine V.aload_n dX3_knows_88 rfl ?_
            refine V.getr fl_X3_7 dX3_knows_89 (hs_mm.1 0 (3, 0) rfl) (hs_mm.2 0 0 1 rfl) (by decide) rfl ?_
            refine V.iconst (v := 4) dX3_knows_92 (by decide) ?_
            refine V.iload dX3_knows_93 rfl ?_
            refine V.iastE dX3_knows_95 (hs_mm.1 1 (20, 5) rfl) (vp_lit (by decide)) (fun I64 e65 => ?_)
            rw [← e65] at hf
            try dsimp only at hf
            clear e65
            refine V.iload dX3_knows_96 rfl ?_
            obtain rfl := Option.some.inj hf
            exact V.zret dX3_knows_98 rfl rfl (Nat.le_refl _) (Nat.le_refl _) ⟨rfl, rfl⟩
theorem dX9_isMissing_0 : decode cX9_isMissing 0 = .ok (.aload_n 0, 1) := by decide +kernel
theorem dX9_isMissing_1 : decode cX9_isMissing 1 = .ok (.getfield 15, 3) := by decide +kernel
theorem dX9_isMissing_4 : decode cX9_isMissing 4 = .ok (.iconst (-1), 1) := by decide +kernel
theorem dX9_isMissing_5 : decode cX9_isMissing 5 = .ok (.if_icmp .ne 7, 3) := by decide +kernel
theorem dX9_isMissing_8 : decode cX9_isMissing 8 = .ok (.iconst 1, 1) := by decide +kernel
theorem dX9_isMissing_9 : decode cX9_isMissing 9 = .ok (.goto 4, 3) := by decide +kernel
theorem dX9_isMissing_12 : decode cX9_isMissing 12 = .ok (.iconst 0, 1) := by decide +kernel
theorem dX9_isMissing_13 : decode cX9_isMissing 13 = .ok (.ireturn, 1) := by decide +kernel
def ty_isMissing (I : Nat → Nat → Int32) (ty : Nat) : Int32 := if (I ty 2) = (-1) then (1) else (0)
theorem c_ty_isMissing {l : Launch} {D : va_G} {E : Nat → ClassId} {B : Nat → Prop} {n : Nat} {T : Nat → Option (Nat × Nat)} {I : Nat → Nat → Int32} {J : Nat → Nat → Int64} {P : Nat → Nat → Option Nat} {ty : Nat}  (hs_ty : isTy T P ty) : Ct l D E B yX9_isMissing cX9_isMissing 1 (some .boolean) 0 0 0 [.ref ty] (n, T, I, J, P) (Ret (some (.int (ty_isMissing I ty))) (n, T, I, J, P)) := by
  obtain ⟨r, hf⟩ : ∃ r, ty_isMissing I ty = r := ⟨_, rfl⟩
  rw [hf]
  unfold ty_isMissing at hf
  refine Ct.ofV (by decide) (Nat.le_of_ble_eq_true rfl) ?_
  refine V.aload_n dX9_isMissing_0 rfl ?_
  refine V.getf fl_X9_15 dX9_isMissing_1 (hs_ty.1 0 (9, 0) rfl) (by decide) rfl ?_
  refine V.iconst (v := -1) dX9_isMissing_4 (by decide) ?_
  refine V.icmp_ne 12 dX9_isMissing_5 (by decide) (fun c1 => ?_) (fun c1 => ?_)
  · rw [if_neg c1] at hf
    refine V.iconst (v := 0) dX9_isMissing_12 (by decide) ?_
    subst hf
    exact V.zret dX9_isMissing_13 rfl rfl (Nat.le_refl _) (Nat.le_refl _) ⟨rfl, rfl⟩
  · rw [if_pos c1] at hf
    refine V.iconst (v := 1) dX9_isMissing_8 (by decide) ?_
    refine V.goto 13 dX9_isMissing_9 (by decide) ?_
    subst hf
    exact V.zret dX9_isMissing_13 rfl rfl (Nat.le_refl _) (Nat.le_refl _) ⟨rfl, rfl⟩
theorem dX9_begin_0 : decode cX9_begin 0 = .ok (.aload_n 0, 1) := by decide +kernel
theorem dX9_begin_1 : decode cX9_begin 1 = .ok (.iload_n 1, 1) := by decide +kernel
theorem dX9_begin_2 : decode cX9_begin 2 = .ok (.putfield 15, 3) := by decide +kernel
theorem dX9_begin_5 : decode cX9_begin 5 = .ok (.aload_n 0, 1) := by decide +kernel
theorem dX9_begin_6 : decode cX9_begin 6 = .ok (.iload_n 2, 1) := by decide +kernel
theorem dX9_begin_7 : decode cX9_begin 7 = .ok (.putfield 19, 3) := by decide +kernel
theorem dX9_begin_10 : decode cX9_begin 10 = .ok (.aload_n 0, 1) := by decide +kernel
theorem dX9_begin_11 : decode cX9_begin 11 = .ok (.getfield 9, 3) := by decide +kernel
theorem dX9_begin_14 : decode cX9_begin 14 = .ok (.lconst 0, 1) := by decide +kernel
theorem dX9_begin_15 : decode cX9_begin 15 = .ok (.invokestatic 22, 3) := by decide +kernel
theorem dX9_begin_18 : decode cX9_begin 18 = .ok (.return_, 1) := by decide +kernel
def ty_begin (F : Nat) (T : Nat → Option (Nat × Nat)) (I : Nat → Nat → Int32) (J : Nat → Nat → Int64) (ty : Nat) (v1 : Int32) (v2 : Int32) : Option ((Nat → Nat → Int32) × (Nat → Nat → Int64)) := let I1 := uI I ty 2 v1; let I3 := uI I1 ty 1 v2; (fillJ F T J (ty + 1) 0).bind (fun q5 => let J7 := q5; some (I3, J7))
theorem c_ty_begin {l : Launch} {D : va_G} {E : Nat → ClassId} {B : Nat → Prop} {n F : Nat} {T : Nat → Option (Nat × Nat)} {I : Nat → Nat → Int32} {J : Nat → Nat → Int64} {P : Nat → Nat → Option Nat} {ty : Nat} {v1 : Int32} {v2 : Int32} {r : (Nat → Nat → Int32) × (Nat → Nat → Int64)} (hs_ty : isTy T P ty) (hf : ty_begin F T I J ty v1 v2 = some r) : Ct l D E B yX9_begin cX9_begin 3 none 1 0 0 [.ref ty, .int v1, .int v2] (n, T, I, J, P) (Ret (none) (n, T, r.1, r.2, P)) := by
  unfold ty_begin at hf
  refine Ct.ofV (by decide) (Nat.le_of_ble_eq_true rfl) ?_
  refine V.aload_n dX9_begin_0 rfl ?_
  refine V.iload_n dX9_begin_1 rfl ?_
  refine V.putiE fl_X9_15 dX9_begin_2 (hs_ty.1 0 (9, 0) rfl) (by decide) (fun h => by cases h) rfl rfl rfl (Nat.le_of_ble_eq_true rfl) (fun I1 e2 => ?_)
  rw [← e2] at hf
  try dsimp only at hf
  clear e2
  refine V.aload_n dX9_begin_5 rfl ?_
  refine V.iload_n dX9_begin_6 rfl ?_
  refine V.putiE fl_X9_19 dX9_begin_7 (hs_ty.1 0 (9, 0) rfl) (by decide) (fun h => by cases h) rfl rfl rfl (Nat.le_of_ble_eq_true rfl) (fun I3 e4 => ?_)
  rw [← e4] at hf
  try dsimp only at hf
  clear e4
  refine V.aload_n dX9_begin_10 rfl ?_
  refine V.getr fl_X9_9 dX9_begin_11 (hs_ty.1 0 (9, 0) rfl) (hs_ty.2 0 0 1 rfl) (by decide) rfl ?_
  refine V.lconst (v := 0) dX9_begin_14 (by decide) ?_
  obtain ⟨J7, hk6, hf⟩ := bnd_some hf
  try dsimp only at hf
  refine V.ins cs_X9_22 (c_fillJ (lenT_of (hs_ty.1 1 (22, 40) rfl)) hk6) dX9_begin_15 rfl rfl (Nat.le_of_ble_eq_true rfl) (by decide) (by decide) (Nat.le_refl _) (Nat.le_refl _) (fun _ _ hq => ?_)
  obtain ⟨rfl, rfl⟩ := hq
  obtain rfl := Option.some.inj hf
  exact V.vret dX9_begin_18 rfl (Nat.le_refl _) (Nat.le_refl _) ⟨rfl, rfl⟩
theorem dX9_cut_0 : decode cX9_cut 0 = .ok (.aload_n 0, 1) := by decide +kernel
theorem dX9_cut_1 : decode cX9_cut 1 = .ok (.getfield 15, 3) := by decide +kernel
theorem dX9_cut_4 : decode cX9_cut 4 = .ok (.tableswitch 42 0 2 #[28, 33, 38], 28) := by decide +kernel
theorem dX9_cut_32 : decode cX9_cut 32 = .ok (.lload_n 1, 1) := by decide +kernel
theorem dX9_cut_33 : decode cX9_cut 33 = .ok (.l2i, 1) := by decide +kernel
theorem dX9_cut_34 : decode cX9_cut 34 = .ok (.i2b, 1) := by decide +kernel
theorem dX9_cut_35 : decode cX9_cut 35 = .ok (.i2l, 1) := by decide +kernel
theorem dX9_cut_36 : decode cX9_cut 36 = .ok (.lreturn, 1) := by decide +kernel
theorem dX9_cut_37 : decode cX9_cut 37 = .ok (.lload_n 1, 1) := by decide +kernel
theorem dX9_cut_38 : decode cX9_cut 38 = .ok (.l2i, 1) := by decide +kernel
theorem dX9_cut_39 : decode cX9_cut 39 = .ok (.i2s, 1) := by decide +kernel
theorem dX9_cut_40 : decode cX9_cut 40 = .ok (.i2l, 1) := by decide +kernel
theorem dX9_cut_41 : decode cX9_cut 41 = .ok (.lreturn, 1) := by decide +kernel
theorem dX9_cut_42 : decode cX9_cut 42 = .ok (.lload_n 1, 1) := by decide +kernel
theorem dX9_cut_43 : decode cX9_cut 43 = .ok (.l2i, 1) := by decide +kernel
theorem dX9_cut_44 : decode cX9_cut 44 = .ok (.i2l, 1) := by decide +kernel
theorem dX9_cut_45 : decode cX9_cut 45 = .ok (.lreturn, 1) := by decide +kernel
theorem dX9_cut_46 : decode cX9_cut 46 = .ok (.lload_n 1, 1) := by decide +kernel
theorem dX9_cut_47 : decode cX9_cut 47 = .ok (.lreturn, 1) := by decide +kernel
def ty_cut (I : Nat → Nat → Int32) (ty : Nat) (v1 : Int64) : Int64 := if (I ty 2) = 0 then ((Int32.toInt64 ((Int32.toInt8 (Int64.toInt32 v1)).toInt32))) else (if (I ty 2) = 1 then ((Int32.toInt64 ((Int32.toInt16 (Int64.toInt32 v1)).toInt32))) else (if (I ty 2) = 2 then ((Int32.toInt64 (Int64.toInt32 v1))) else (v1)))
theorem c_ty_cut {l : Launch} {D : va_G} {E : Nat → ClassId} {B : Nat → Prop} {n : Nat} {T : Nat → Option (Nat × Nat)} {I : Nat → Nat → Int32} {J : Nat → Nat → Int64} {P : Nat → Nat → Option Nat} {ty : Nat} {v1 : Int64} (hs_ty : isTy T P ty) : Ct l D E B yX9_cut cX9_cut 3 (some .long) 0 0 0 [.ref ty, .long v1] (n, T, I, J, P) (Ret (some (.long (ty_cut I ty v1))) (n, T, I, J, P)) := by
  obtain ⟨r, hf⟩ : ∃ r, ty_cut I ty v1 = r := ⟨_, rfl⟩
  rw [hf]
  unfold ty_cut at hf
  refine Ct.ofV (by decide) (Nat.le_of_ble_eq_true rfl) ?_
  refine V.aload_n dX9_cut_0 rfl ?_
  refine V.getf fl_X9_15 dX9_cut_1 (hs_ty.1 0 (9, 0) rfl) (by decide) rfl ?_
  by_cases c1 : (I ty 2) = 0
  · rw [if_pos c1] at hf
    refine V.tabIn (off := 28) 32 dX9_cut_4 (by rw [c1]; decide) (by rw [c1]; decide) (by rw [c1]; rfl) (by decide) ?_
    refine V.lload_n dX9_cut_32 rfl ?_
    refine V.l2i dX9_cut_33 ?_
    refine V.i2b dX9_cut_34 ?_
    refine V.i2l dX9_cut_35 ?_
    subst hf
    exact V.lret dX9_cut_36 rfl (Nat.le_refl _) (Nat.le_refl _) ⟨rfl, rfl⟩
  rw [if_neg c1] at hf
  by_cases c2 : (I ty 2) = 1
  · rw [if_pos c2] at hf
    refine V.tabIn (off := 33) 37 dX9_cut_4 (by rw [c2]; decide) (by rw [c2]; decide) (by rw [c2]; rfl) (by decide) ?_
    refine V.lload_n dX9_cut_37 rfl ?_
    refine V.l2i dX9_cut_38 ?_
    refine V.i2s dX9_cut_39 ?_
    refine V.i2l dX9_cut_40 ?_
    subst hf
    exact V.lret dX9_cut_41 rfl (Nat.le_refl _) (Nat.le_refl _) ⟨rfl, rfl⟩
  rw [if_neg c2] at hf
  by_cases c3 : (I ty 2) = 2
  · rw [if_pos c3] at hf
    refine V.tabIn (off := 38) 42 dX9_cut_4 (by rw [c3]; decide) (by rw [c3]; decide) (by rw [c3]; rfl) (by decide) ?_
    refine V.lload_n dX9_cut_42 rfl ?_
    refine V.l2i dX9_cut_43 ?_
    refine V.i2l dX9_cut_44 ?_
    subst hf
    exact V.lret dX9_cut_45 rfl (Nat.le_refl _) (Nat.le_refl _) ⟨rfl, rfl⟩
  rw [if_neg c3] at hf
  refine V.tabOut 46 dX9_cut_4 (by have c1_ := sw_ne c1 (j := 0) (by decide); have c2_ := sw_ne c2 (j := 1) (by decide); have c3_ := sw_ne c3 (j := 2) (by decide); omega) (by decide) ?_
  refine V.lload_n dX9_cut_46 rfl ?_
  subst hf
  exact V.lret dX9_cut_47 rfl (Nat.le_refl _) (Nat.le_refl _) ⟨rfl, rfl⟩
theorem dX1_lookAtMinute_0 : decode cX1_lookAtMinute 0 = .ok (.aload_n 0, 1) := by decide +kernel
theorem dX1_lookAtMinute_1 : decode cX1_lookAtMinute 1 = .ok (.getfield 24, 3) := by decide +kernel
theorem dX1_lookAtMinute_4 : decode cX1_lookAtMinute 4 = .ok (.iconst 3, 1) := by decide +kernel
theorem dX1_lookAtMinute_5 : decode cX1_lookAtMinute 5 = .ok (.iload_n 2, 1) := by decide +kernel
theorem dX1_lookAtMinute_6 : decode cX1_lookAtMinute 6 = .ok (.iastore, 1) := by decide +kernel
theorem dX1_lookAtMinute_7 : decode cX1_lookAtMinute 7 = .ok (.aload_n 0, 1) := by decide +kernel
theorem dX1_lookAtMinute_8 : decode cX1_lookAtMinute 8 = .ok (.getfield 24, 3) := by decide +kernel
theorem dX1_lookAtMinute_11 : decode cX1_lookAtMinute 11 = .ok (.iconst 5, 1) := by decide +kernel
theorem dX1_lookAtMinute_12 : decode cX1_lookAtMinute 12 = .ok (.aload_n 1, 1) := by decide +kernel
theorem dX1_lookAtMinute_13 : decode cX1_lookAtMinute 13 = .ok (.invokevirtual 46, 3) := by decide +kernel
theorem dX1_lookAtMinute_16 : decode cX1_lookAtMinute 16 = .ok (.iastore, 1) := by decide +kernel
theorem dX1_lookAtMinute_17 : decode cX1_lookAtMinute 17 = .ok (.aload_n 0, 1) := by decide +kernel
theorem dX1_lookAtMinute_18 : decode cX1_lookAtMinute 18 = .ok (.getfield 24, 3) := by decide +kernel
theorem dX1_lookAtMinute_21 : decode cX1_lookAtMinute 21 = .ok (.bipush 6, 2) := by decide +kernel
theorem dX1_lookAtMinute_23 : decode cX1_lookAtMinute 23 = .ok (.aload_n 1, 1) := by decide +kernel
theorem dX1_lookAtMinute_24 : decode cX1_lookAtMinute 24 = .ok (.getfield 51, 3) := by decide +kernel
theorem dX1_lookAtMinute_27 : decode cX1_lookAtMinute 27 = .ok (.bipush 99, 2) := by decide +kernel
theorem dX1_lookAtMinute_29 : decode cX1_lookAtMinute 29 = .ok (.invokestatic 55, 3) := by decide +kernel
theorem dX1_lookAtMinute_32 : decode cX1_lookAtMinute 32 = .ok (.iastore, 1) := by decide +kernel
theorem dX1_lookAtMinute_33 : decode cX1_lookAtMinute 33 = .ok (.return_, 1) := by decide +kernel
def ct_lookAtMinute (I : Nat → Nat → Int32) (c : Nat) (a : Nat) (v2 : Int32) : Option ((Nat → Nat → Int32)) := let I1 := uI I (c + 5) (Int32.toNatClampNeg 3) v2; let I3 := uI I1 (c + 5) (Int32.toNatClampNeg 5) (s_howManyUp I1 a); let I5 := uI I3 (c + 5) (Int32.toNatClampNeg 6) (imin (I3 a 2) 99); some I5
theorem c_ct_lookAtMinute {l : Launch} {D : va_G} {E : Nat → ClassId} {B : Nat → Prop} {n : Nat} {T : Nat → Option (Nat × Nat)} {I : Nat → Nat → Int32} {J : Nat → Nat → Int64} {P : Nat → Nat → Option Nat} {c : Nat} {a : Nat} {v2 : Int32} {r : (Nat → Nat → Int32)} (hs_c : isCt T P c) (hs_a : isSt T P a) (hf : ct_lookAtMinute I c a v2 = some r) : Ct l D E B yX1_lookAtMinute cX1_lookAtMinute 3 none 2 0 0 [.ref c, .ref a, .int v2] (n, T, I, J, P) (Ret (none) (n, T, r, J, P)) := by
  unfold ct_lookAtMinute at hf
  refine Ct.ofV (by decide) (Nat.le_of_ble_eq_true rfl) ?_
  refine V.aload_n dX1_lookAtMinute_0 rfl ?_
  refine V.getr fl_X1_24 dX1_lookAtMinute_1 (hs_c.1.1 0 (1, 0) rfl) (hs_c.1.2 0 10 5 rfl) (by decide) rfl ?_
  refine V.iconst (v := 3) dX1_lookAtMinute_4 (by decide) ?_
  refine V.iload_n dX1_lookAtMinute_5 rfl ?_
  refine V.iastE dX1_lookAtMinute_6 (hs_c.1.1 5 (20, 7) rfl) (vp_lit (by decide)) (fun I1 e2 => ?_)
  rw [← e2] at hf
  try dsimp only at hf
  clear e2
  refine V.aload_n dX1_lookAtMinute_7 rfl ?_
  refine V.getr fl_X1_24 dX1_lookAtMinute_8 (hs_c.1.1 0 (1, 0) rfl) (hs_c.1.2 0 10 5 rfl) (by decide) rfl ?_
  refine V.iconst (v := 5) dX1_lookAtMinute_11 (by decide) ?_
  refine V.aload_n dX1_lookAtMinute_12 rfl ?_
  refine V.inv cv_X1_46 (c_s_howManyUp hs_a) dX1_lookAtMinute_13 (hs_a.1 0 (8, 0) rfl) (by decide) rfl rfl rfl (Nat.le_of_ble_eq_true rfl) (by decide) (by decide) (Nat.le_refl _) (Nat.le_refl _) (fun _ _ hq => ?_)
  obtain ⟨rfl, rfl⟩ := hq
  refine V.iastE dX1_lookAtMinute_16 (hs_c.1.1 5 (20, 7) rfl) (vp_lit (by decide)) (fun I3 e4 => ?_)
  rw [← e4] at hf
  try dsimp only at hf
  clear e4
  refine V.aload_n dX1_lookAtMinute_17 rfl ?_
  refine V.getr fl_X1_24 dX1_lookAtMinute_18 (hs_c.1.1 0 (1, 0) rfl) (hs_c.1.2 0 10 5 rfl) (by decide) rfl ?_
  refine V.bipush (v := 6) dX1_lookAtMinute_21 (by decide) ?_
  refine V.aload_n dX1_lookAtMinute_23 rfl ?_
  refine V.getf fl_X1_51 dX1_lookAtMinute_24 (hs_a.1 0 (8, 0) rfl) (by decide) rfl ?_
  refine V.bipush (v := 99) dX1_lookAtMinute_27 (by decide) ?_
  refine V.ins cs_X1_55 (c_imin) dX1_lookAtMinute_29 rfl rfl (Nat.le_of_ble_eq_true rfl) (by decide) (by decide) (Nat.le_refl _) (Nat.le_refl _) (fun _ _ hq => ?_)
  obtain ⟨rfl, rfl⟩ := hq
  refine V.iastE dX1_lookAtMinute_32 (hs_c.1.1 5 (20, 7) rfl) (vp_lit (by decide)) (fun I5 e6 => ?_)
  rw [← e6] at hf
  try dsimp only at hf
  clear e6
  obtain rfl := Option.some.inj hf
  exact V.vret dX1_lookAtMinute_33 rfl (Nat.le_refl _) (Nat.le_refl _) ⟨rfl, rfl⟩
theorem dX1_lookAtPerson_0 : decode cX1_lookAtPerson 0 = .ok (.aload_n 0, 1) := by decide +kernel
theorem dX1_lookAtPerson_1 : decode cX1_lookAtPerson 1 = .ok (.getfield 24, 3) := by decide +kernel
theorem dX1_lookAtPerson_4 : decode cX1_lookAtPerson 4 = .ok (.iconst 0, 1) := by decide +kernel
theorem dX1_lookAtPerson_5 : decode cX1_lookAtPerson 5 = .ok (.iload_n 2, 1) := by decide +kernel
theorem dX1_lookAtPerson_6 : decode cX1_lookAtPerson 6 = .ok (.iastore, 1) := by decide +kernel
theorem dX1_lookAtPerson_7 : decode cX1_lookAtPerson 7 = .ok (.aload_n 0, 1) := by decide +kernel
theorem dX1_lookAtPerson_8 : decode cX1_lookAtPerson 8 = .ok (.getfield 24, 3) := by decide +kernel
theorem dX1_lookAtPerson_11 : decode cX1_lookAtPerson 11 = .ok (.iconst 1, 1) := by decide +kernel
theorem dX1_lookAtPerson_12 : decode cX1_lookAtPerson 12 = .ok (.aload_n 0, 1) := by decide +kernel
theorem dX1_lookAtPerson_13 : decode cX1_lookAtPerson 13 = .ok (.getfield 15, 3) := by decide +kernel
theorem dX1_lookAtPerson_16 : decode cX1_lookAtPerson 16 = .ok (.iload_n 2, 1) := by decide +kernel
theorem dX1_lookAtPerson_17 : decode cX1_lookAtPerson 17 = .ok (.iaload, 1) := by decide +kernel
theorem dX1_lookAtPerson_18 : decode cX1_lookAtPerson 18 = .ok (.iastore, 1) := by decide +kernel
theorem dX1_lookAtPerson_19 : decode cX1_lookAtPerson 19 = .ok (.aload_n 0, 1) := by decide +kernel
theorem dX1_lookAtPerson_20 : decode cX1_lookAtPerson 20 = .ok (.getfield 24, 3) := by decide +kernel
theorem dX1_lookAtPerson_23 : decode cX1_lookAtPerson 23 = .ok (.iconst 2, 1) := by decide +kernel
theorem dX1_lookAtPerson_24 : decode cX1_lookAtPerson 24 = .ok (.aload_n 1, 1) := by decide +kernel
theorem dX1_lookAtPerson_25 : decode cX1_lookAtPerson 25 = .ok (.getfield 61, 3) := by decide +kernel
theorem dX1_lookAtPerson_28 : decode cX1_lookAtPerson 28 = .ok (.iload_n 2, 1) := by decide +kernel
theorem dX1_lookAtPerson_29 : decode cX1_lookAtPerson 29 = .ok (.iaload, 1) := by decide +kernel
theorem dX1_lookAtPerson_30 : decode cX1_lookAtPerson 30 = .ok (.iastore, 1) := by decide +kernel
theorem dX1_lookAtPerson_31 : decode cX1_lookAtPerson 31 = .ok (.aload_n 0, 1) := by decide +kernel
theorem dX1_lookAtPerson_32 : decode cX1_lookAtPerson 32 = .ok (.getfield 24, 3) := by decide +kernel
theorem dX1_lookAtPerson_35 : decode cX1_lookAtPerson 35 = .ok (.iconst 4, 1) := by decide +kernel
theorem dX1_lookAtPerson_36 : decode cX1_lookAtPerson 36 = .ok (.aload_n 1, 1) := by decide +kernel
theorem dX1_lookAtPerson_37 : decode cX1_lookAtPerson 37 = .ok (.iload_n 2, 1) := by decide +kernel
theorem dX1_lookAtPerson_38 : decode cX1_lookAtPerson 38 = .ok (.invokevirtual 62, 3) := by decide +kernel
theorem dX1_lookAtPerson_41 : decode cX1_lookAtPerson 41 = .ok (.iastore, 1) := by decide +kernel
theorem dX1_lookAtPerson_42 : decode cX1_lookAtPerson 42 = .ok (.return_, 1) := by decide +kernel
def ct_lookAtPerson (I : Nat → Nat → Int32) (c : Nat) (a : Nat) (v2 : Int32) : Option ((Nat → Nat → Int32)) := let I1 := uI I (c + 5) (Int32.toNatClampNeg 0) v2; chk v2 6 (let I4 := uI I1 (c + 5) (Int32.toNatClampNeg 1) (I1 (c + 2) (Int32.toNatClampNeg v2)); let I6 := uI I4 (c + 5) (Int32.toNatClampNeg 2) (I4 (a + 1) (Int32.toNatClampNeg v2)); (s_besides I6 a v2).bind (fun q8 => let u10 := q8; let I11 := uI I6 (c + 5) (Int32.toNatClampNeg 4) u10; some I11))
theorem c_ct_lookAtPerson {l : Launch} {D : va_G} {E : Nat → ClassId} {B : Nat → Prop} {n : Nat} {T : Nat → Option (Nat × Nat)} {I : Nat → Nat → Int32} {J : Nat → Nat → Int64} {P : Nat → Nat → Option Nat} {c : Nat} {a : Nat} {v2 : Int32} {r : (Nat → Nat → Int32)} (hs_c : isCt T P c) (hs_a : isSt T P a) (hf : ct_lookAtPerson I c a v2 = some r) : Ct l D E B yX1_lookAtPerson cX1_lookAtPerson 3 none 2 0 0 [.ref c, .ref a, .int v2] (n, T, I, J, P) (Ret (none) (n, T, r, J, P)) := by
  unfold ct_lookAtPerson at hf
  refine Ct.ofV (by decide) (Nat.le_of_ble_eq_true rfl) ?_
  refine V.aload_n dX1_lookAtPerson_0 rfl ?_
  refine V.getr fl_X1_24 dX1_lookAtPerson_1 (hs_c.1.1 0 (1, 0) rfl) (hs_c.1.2 0 10 5 rfl) (by decide) rfl ?_
  refine V.iconst (v := 0) dX1_lookAtPerson_4 (by decide) ?_
  refine V.iload_n dX1_lookAtPerson_5 rfl ?_
  refine V.iastE dX1_lookAtPerson_6 (hs_c.1.1 5 (20, 7) rfl) (vp_lit (by decide)) (fun I1 e2 => ?_)
  rw [← e2] at hf
  try dsimp only at hf
  clear e2
  refine V.aload_n dX1_lookAtPerson_7 rfl ?_
  refine V.getr fl_X1_24 dX1_lookAtPerson_8 (hs_c.1.1 0 (1, 0) rfl) (hs_c.1.2 0 10 5 rfl) (by decide) rfl ?_
  refine V.iconst (v := 1) dX1_lookAtPerson_11 (by decide) ?_
  refine V.aload_n dX1_lookAtPerson_12 rfl ?_
  refine V.getr fl_X1_15 dX1_lookAtPerson_13 (hs_c.1.1 0 (1, 0) rfl) (hs_c.1.2 0 5 2 rfl) (by decide) rfl ?_
  refine V.iload_n dX1_lookAtPerson_16 rfl ?_
  obtain ⟨hb3, hf⟩ := chk_some hf
  refine V.iald dX1_lookAtPerson_17 (hs_c.1.1 2 (20, 6) rfl) hb3 ?_
  refine V.iastE dX1_lookAtPerson_18 (hs_c.1.1 5 (20, 7) rfl) (vp_lit (by decide)) (fun I4 e5 => ?_)
  rw [← e5] at hf
  try dsimp only at hf
  clear e5
  refine V.aload_n dX1_lookAtPerson_19 rfl ?_
  refine V.getr fl_X1_24 dX1_lookAtPerson_20 (hs_c.1.1 0 (1, 0) rfl) (hs_c.1.2 0 10 5 rfl) (by decide) rfl ?_
  refine V.iconst (v := 2) dX1_lookAtPerson_23 (by decide) ?_
  refine V.aload_n dX1_lookAtPerson_24 rfl ?_
  refine V.getr fl_X1_61 dX1_lookAtPerson_25 (hs_a.1 0 (8, 0) rfl) (hs_a.2 0 4 1 rfl) (by decide) rfl ?_
  refine V.iload_n dX1_lookAtPerson_28 rfl ?_
  refine V.iald dX1_lookAtPerson_29 (hs_a.1 1 (20, 6) rfl) hb3 ?_
  refine V.iastE dX1_lookAtPerson_30 (hs_c.1.1 5 (20, 7) rfl) (vp_lit (by decide)) (fun I6 e7 => ?_)
  rw [← e7] at hf
  try dsimp only at hf
  clear e7
  refine V.aload_n dX1_lookAtPerson_31 rfl ?_
  refine V.getr fl_X1_24 dX1_lookAtPerson_32 (hs_c.1.1 0 (1, 0) rfl) (hs_c.1.2 0 10 5 rfl) (by decide) rfl ?_
  refine V.iconst (v := 4) dX1_lookAtPerson_35 (by decide) ?_
  refine V.aload_n dX1_lookAtPerson_36 rfl ?_
  refine V.iload_n dX1_lookAtPerson_37 rfl ?_
  obtain ⟨u10, hk9, hf⟩ := bnd_some hf
  try dsimp only at hf
  refine V.inv cv_X1_62 (c_s_besides hs_a hk9) dX1_lookAtPerson_38 (hs_a.1 0 (8, 0) rfl) (by decide) rfl rfl rfl (Nat.le_of_ble_eq_true rfl) (by decide) (by decide) (Nat.le_refl _) (Nat.le_refl _) (fun _ _ hq => ?_)
  obtain ⟨rfl, rfl⟩ := hq
  refine V.iastE dX1_lookAtPerson_41 (hs_c.1.1 5 (20, 7) rfl) (vp_lit (by decide)) (fun I11 e12 => ?_)
  rw [← e12] at hf
  try dsimp only at hf
  clear e12
  obtain rfl := Option.some.inj hf
  exact V.vret dX1_lookAtPerson_42 rfl (Nat.le_refl _) (Nat.le_refl _) ⟨rfl, rfl⟩
theorem dX1_lossNow_0 : decode cX1_lossNow 0 = .ok (.aload_n 0, 1) := by decide +kernel
theorem dX1_lossNow_1 : decode cX1_lossNow 1 = .ok (.getfield 66, 3) := by decide +kernel
theorem dX1_lossNow_4 : decode cX1_lossNow 4 = .ok (.ifnonnull 5, 3) := by decide +kernel
theorem dX1_lossNow_7 : decode cX1_lossNow 7 = .ok (.iconst 1, 1) := by decide +kernel
theorem dX1_lossNow_8 : decode cX1_lossNow 8 = .ok (.ireturn, 1) := by decide +kernel
theorem dX1_lossNow_9 : decode cX1_lossNow 9 = .ok (.iconst 0, 1) := by decide +kernel
theorem dX1_lossNow_10 : decode cX1_lossNow 10 = .ok (.bipush 99, 2) := by decide +kernel
theorem dX1_lossNow_12 : decode cX1_lossNow 12 = .ok (.aload_n 0, 1) := by decide +kernel
theorem dX1_lossNow_13 : decode cX1_lossNow 13 = .ok (.getfield 66, 3) := by decide +kernel
theorem dX1_lossNow_16 : decode cX1_lossNow 16 = .ok (.aload_n 0, 1) := by decide +kernel
theorem dX1_lossNow_17 : decode cX1_lossNow 17 = .ok (.getfield 24, 3) := by decide +kernel
theorem dX1_lossNow_20 : decode cX1_lossNow 20 = .ok (.aload_n 0, 1) := by decide +kernel
theorem dX1_lossNow_21 : decode cX1_lossNow 21 = .ok (.getfield 29, 3) := by decide +kernel
theorem dX1_lossNow_24 : decode cX1_lossNow 24 = .ok (.invokevirtual 70, 3) := by decide +kernel
theorem dX1_lossNow_27 : decode cX1_lossNow 27 = .ok (.invokestatic 55, 3) := by decide +kernel
theorem dX1_lossNow_30 : decode cX1_lossNow 30 = .ok (.invokestatic 74, 3) := by decide +kernel
theorem dX1_lossNow_33 : decode cX1_lossNow 33 = .ok (.ireturn, 1) := by decide +kernel
def ct_lossNow (F : Nat) (T : Nat → Option (Nat × Nat)) (I : Nat → Nat → Int32) (P : Nat → Nat → Option Nat) (c : Nat) : Option (Int32 × (Nat → Nat → Int32)) := match (P c 8) with | none => (some (1, I)) | some w2 => ((w_tell F T I w2 (c + 5) (c + 6)).bind (fun q5 => let u7 := q5.1; let I8 := q5.2; some ((imax 0 (imin 99 u7)), I8)))
theorem c_ct_lossNow {l : Launch} {D : va_G} {E : Nat → ClassId} {B : Nat → Prop} {n F : Nat} {T : Nat → Option (Nat × Nat)} {I : Nat → Nat → Int32} {J : Nat → Nat → Int64} {P : Nat → Nat → Option Nat} {c : Nat}  {r : Int32 × (Nat → Nat → Int32)} (hs_c : isCt T P c) (hf : ct_lossNow F T I P c = some r) : Ct l D E B yX1_lossNow cX1_lossNow 1 (some .int) 2 0 0 [.ref c] (n, T, I, J, P) (Ret (some (.int r.1)) (n, T, r.2, J, P)) := by
  unfold ct_lossNow at hf
  refine Ct.ofV (by decide) (Nat.le_of_ble_eq_true rfl) ?_
  refine V.aload_n dX1_lossNow_0 rfl ?_
  refine V.getf fl_X1_66 dX1_lossNow_1 (hs_c.1.1 0 (1, 0) rfl) (by decide) rfl ?_
  refine V.nnQ 9 dX1_lossNow_4 (by decide) (fun c1 => ?_) (fun w2 c1 => ?_)
  · rw [c1] at hf
    try dsimp only at hf
    refine V.iconst (v := 1) dX1_lossNow_7 (by decide) ?_
    obtain rfl := Option.some.inj hf
    exact V.iret dX1_lossNow_8 rfl (Nat.le_refl _) (Nat.le_refl _) ⟨rfl, rfl⟩
  · rw [c1] at hf
    try dsimp only at hf
    refine V.iconst (v := 0) dX1_lossNow_9 (by decide) ?_
    refine V.bipush (v := 99) dX1_lossNow_10 (by decide) ?_
    refine V.aload_n dX1_lossNow_12 rfl ?_
    refine V.getr fl_X1_66 dX1_lossNow_13 (hs_c.1.1 0 (1, 0) rfl) c1 (by decide) rfl ?_
    refine V.aload_n dX1_lossNow_16 rfl ?_
    refine V.getr fl_X1_24 dX1_lossNow_17 (hs_c.1.1 0 (1, 0) rfl) (hs_c.1.2 0 10 5 rfl) (by decide) rfl ?_
    refine V.aload_n dX1_lossNow_20 rfl ?_
    refine V.getr fl_X1_29 dX1_lossNow_21 (hs_c.1.1 0 (1, 0) rfl) (hs_c.1.2 0 11 6 rfl) (by decide) rfl ?_
    obtain ⟨⟨u7, I8⟩, hk6, hf⟩ := bnd_some hf
    try dsimp only at hf
    refine V.inv cv_X1_70 (c_w_tell (hs_c.2.1 _ c1) (lenT_of (hs_c.1.1 5 (20, 7) rfl)) (lenT_of (hs_c.1.1 6 (20, 64) rfl)) hk6) dX1_lossNow_24 (hs_c.2.1 _ c1).1 (by decide) rfl rfl rfl (Nat.le_of_ble_eq_true rfl) (by decide) (by decide) (Nat.le_refl _) (Nat.le_refl _) (fun _ _ hq => ?_)
    obtain ⟨rfl, rfl⟩ := hq
    try dsimp only
    refine V.ins cs_X1_55 (c_imin) dX1_lossNow_27 rfl rfl (Nat.le_of_ble_eq_true rfl) (by decide) (by decide) (Nat.le_refl _) (Nat.le_refl _) (fun _ _ hq => ?_)
    obtain ⟨rfl, rfl⟩ := hq
    refine V.ins cs_X1_74 (c_imax) dX1_lossNow_30 rfl rfl (Nat.le_of_ble_eq_true rfl) (by decide) (by decide) (Nat.le_refl _) (Nat.le_refl _) (fun _ _ hq => ?_)
    obtain ⟨rfl, rfl⟩ := hq
    obtain rfl := Option.some.inj hf
    exact V.iret dX1_lossNow_33 rfl (Nat.le_refl _) (Nat.le_refl _) ⟨rfl, rfl⟩
theorem dX1_painNow_0 : decode cX1_painNow 0 = .ok (.aload_n 0, 1) := by decide +kernel
theorem dX1_painNow_1 : decode cX1_painNow 1 = .ok (.getfield 77, 3) := by decide +kernel
theorem dX1_painNow_4 : decode cX1_painNow 4 = .ok (.ifnonnull 5, 3) := by decide +kernel
theorem dX1_painNow_7 : decode cX1_painNow 7 = .ok (.iconst 1, 1) := by decide +kernel
theorem dX1_painNow_8 : decode cX1_painNow 8 = .ok (.ireturn, 1) := by decide +kernel
theorem dX1_painNow_9 : decode cX1_painNow 9 = .ok (.bipush (-99), 2) := by decide +kernel
theorem dX1_painNow_11 : decode cX1_painNow 11 = .ok (.bipush 99, 2) := by decide +kernel
theorem dX1_painNow_13 : decode cX1_painNow 13 = .ok (.aload_n 0, 1) := by decide +kernel
theorem dX1_painNow_14 : decode cX1_painNow 14 = .ok (.getfield 77, 3) := by decide +kernel
theorem dX1_painNow_17 : decode cX1_painNow 17 = .ok (.aload_n 0, 1) := by decide +kernel
theorem dX1_painNow_18 : decode cX1_painNow 18 = .ok (.getfield 24, 3) := by decide +kernel
theorem dX1_painNow_21 : decode cX1_painNow 21 = .ok (.aload_n 0, 1) := by decide +kernel
theorem dX1_painNow_22 : decode cX1_painNow 22 = .ok (.getfield 29, 3) := by decide +kernel
theorem dX1_painNow_25 : decode cX1_painNow 25 = .ok (.invokevirtual 70, 3) := by decide +kernel
theorem dX1_painNow_28 : decode cX1_painNow 28 = .ok (.invokestatic 55, 3) := by decide +kernel
theorem dX1_painNow_31 : decode cX1_painNow 31 = .ok (.invokestatic 74, 3) := by decide +kernel
theorem dX1_painNow_34 : decode cX1_painNow 34 = .ok (.ireturn, 1) := by decide +kernel
def ct_painNow (F : Nat) (T : Nat → Option (Nat × Nat)) (I : Nat → Nat → Int32) (P : Nat → Nat → Option Nat) (c : Nat) : Option (Int32 × (Nat → Nat → Int32)) := match (P c 9) with | none => (some (1, I)) | some w2 => ((w_tell F T I w2 (c + 5) (c + 6)).bind (fun q5 => let u7 := q5.1; let I8 := q5.2; some ((imax (-99) (imin 99 u7)), I8)))
theorem c_ct_painNow {l : Launch} {D : va_G} {E : Nat → ClassId} {B : Nat → Prop} {n F : Nat} {T : Nat → Option (Nat × Nat)} {I : Nat → Nat → Int32} {J : Nat → Nat → Int64} {P : Nat → Nat → Option Nat} {c : Nat}  {r : Int32 × (Nat → Nat → Int32)} (hs_c : isCt T P c) (hf : ct_painNow F T I P c = some r) : Ct l D E B yX1_painNow cX1_painNow 1 (some .int) 2 0 0 [.ref c] (n, T, I, J, P) (Ret (some (.int r.1)) (n, T, r.2, J, P)) := by
  unfold ct_painNow at hf
  refine Ct.ofV (by decide) (Nat.le_of_ble_eq_true rfl) ?_
  refine V.aload_n dX1_painNow_0 rfl ?_
  refine V.getf fl_X1_77 dX1_painNow_1 (hs_c.1.1 0 (1, 0) rfl) (by decide) rfl ?_
  refine V.nnQ 9 dX1_painNow_4 (by decide) (fun c1 => ?_) (fun w2 c1 => ?_)
  · rw [c1] at hf
    try dsimp only at hf
    refine V.iconst (v := 1) dX1_painNow_7 (by decide) ?_
    obtain rfl := Option.some.inj hf
    exact V.iret dX1_painNow_8 rfl (Nat.le_refl _) (Nat.le_refl _) ⟨rfl, rfl⟩
  · rw [c1] at hf
    try dsimp only at hf
    refine V.bipush (v := -99) dX1_painNow_9 (by decide) ?_
    refine V.bipush (v := 99) dX1_painNow_11 (by decide) ?_
    refine V.aload_n dX1_painNow_13 rfl ?_
    refine V.getr fl_X1_77 dX1_painNow_14 (hs_c.1.1 0 (1, 0) rfl) c1 (by decide) rfl ?_
    refine V.aload_n dX1_painNow_17 rfl ?_
    refine V.getr fl_X1_24 dX1_painNow_18 (hs_c.1.1 0 (1, 0) rfl) (hs_c.1.2 0 10 5 rfl) (by decide) rfl ?_
    refine V.aload_n dX1_painNow_21 rfl ?_
    refine V.getr fl_X1_29 dX1_painNow_22 (hs_c.1.1 0 (1, 0) rfl) (hs_c.1.2 0 11 6 rfl) (by decide) rfl ?_
    obtain ⟨⟨u7, I8⟩, hk6, hf⟩ := bnd_some hf
    try dsimp only at hf
    refine V.inv cv_X1_70 (c_w_tell (hs_c.2.2 _ c1) (lenT_of (hs_c.1.1 5 (20, 7) rfl)) (lenT_of (hs_c.1.1 6 (20, 64) rfl)) hk6) dX1_painNow_25 (hs_c.2.2 _ c1).1 (by decide) rfl rfl rfl (Nat.le_of_ble_eq_true rfl) (by decide) (by decide) (Nat.le_refl _) (Nat.le_refl _) (fun _ _ hq => ?_)
    obtain ⟨rfl, rfl⟩ := hq
    try dsimp only
    refine V.ins cs_X1_55 (c_imin) dX1_painNow_28 rfl rfl (Nat.le_of_ble_eq_true rfl) (by decide) (by decide) (Nat.le_refl _) (Nat.le_refl _) (fun _ _ hq => ?_)
    obtain ⟨rfl, rfl⟩ := hq
    refine V.ins cs_X1_74 (c_imax) dX1_painNow_31 rfl rfl (Nat.le_of_ble_eq_true rfl) (by decide) (by decide) (Nat.le_refl _) (Nat.le_refl _) (fun _ _ hq => ?_)
    obtain ⟨rfl, rfl⟩ := hq
    obtain rfl := Option.some.inj hf
    exact V.iret dX1_painNow_34 rfl (Nat.le_refl _) (Nat.le_refl _) ⟨rfl, rfl⟩
theorem dX1_tiring_0 : decode cX1_tiring 0 = .ok (.aload_n 0, 1) := by decide +kernel
theorem dX1_tiring_1 : decode cX1_tiring 1 = .ok (.aload_n 1, 1) := by decide +kernel
theorem dX1_tiring_2 : decode cX1_tiring 2 = .ok (.iload_n 3, 1) := by decide +kernel
theorem dX1_tiring_3 : decode cX1_tiring 3 = .ok (.invokevirtual 35, 3) := by decide +kernel
theorem dX1_tiring_6 : decode cX1_tiring 6 = .ok (.aload_n 0, 1) := by decide +kernel
theorem dX1_tiring_7 : decode cX1_tiring 7 = .ok (.aload_n 1, 1) := by decide +kernel
theorem dX1_tiring_8 : decode cX1_tiring 8 = .ok (.iload_n 2, 1) := by decide +kernel
theorem dX1_tiring_9 : decode cX1_tiring 9 = .ok (.invokevirtual 39, 3) := by decide +kernel
theorem dX1_tiring_12 : decode cX1_tiring 12 = .ok (.aload_n 0, 1) := by decide +kernel
theorem dX1_tiring_13 : decode cX1_tiring 13 = .ok (.invokevirtual 42, 3) := by decide +kernel
theorem dX1_tiring_16 : decode cX1_tiring 16 = .ok (.ireturn, 1) := by decide +kernel
def ct_tiring (F : Nat) (T : Nat → Option (Nat × Nat)) (I : Nat → Nat → Int32) (P : Nat → Nat → Option Nat) (c : Nat) (a : Nat) (v2 : Int32) (v3 : Int32) : Option (Int32 × (Nat → Nat → Int32)) := (ct_lookAtMinute I c a v3).bind (fun q1 => let I3 := q1; (ct_lookAtPerson I3 c a v2).bind (fun q4 => let I6 := q4; (ct_lossNow F T I6 P c).bind (fun q7 => let u9 := q7.1; let I10 := q7.2; some (u9, I10))))
theorem c_ct_tiring {l : Launch} {D : va_G} {E : Nat → ClassId} {B : Nat → Prop} {n F : Nat} {T : Nat → Option (Nat × Nat)} {I : Nat → Nat → Int32} {J : Nat → Nat → Int64} {P : Nat → Nat → Option Nat} {c : Nat} {a : Nat} {v2 : Int32} {v3 : Int32} {r : Int32 × (Nat → Nat → Int32)} (hs_c : isCt T P c) (hs_a : isSt T P a) (hf : ct_tiring F T I P c a v2 v3 = some r) : Ct l D E B yX1_tiring cX1_tiring 4 (some .int) 3 0 0 [.ref c, .ref a, .int v2, .int v3] (n, T, I, J, P) (Ret (some (.int r.1)) (n, T, r.2, J, P)) := by
  unfold ct_tiring at hf
  refine Ct.ofV (by decide) (Nat.le_of_ble_eq_true rfl) ?_
  refine V.aload_n dX1_tiring_0 rfl ?_
  refine V.aload_n dX1_tiring_1 rfl ?_
  refine V.iload_n dX1_tiring_2 rfl ?_
  obtain ⟨I3, hk2, hf⟩ := bnd_some hf
  try dsimp only at hf
  refine V.inv cv_X1_35 (c_ct_lookAtMinute hs_c hs_a hk2) dX1_tiring_3 (hs_c.1.1 0 (1, 0) rfl) (by decide) rfl rfl rfl (Nat.le_of_ble_eq_true rfl) (by decide) (by decide) (Nat.le_refl _) (Nat.le_refl _) (fun _ _ hq => ?_)
  obtain ⟨rfl, rfl⟩ := hq
  refine V.aload_n dX1_tiring_6 rfl ?_
  refine V.aload_n dX1_tiring_7 rfl ?_
  refine V.iload_n dX1_tiring_8 rfl ?_
  obtain ⟨I6, hk5, hf⟩ := bnd_some hf
  try dsimp only at hf
  refine V.inv cv_X1_39 (c_ct_lookAtPerson hs_c hs_a hk5) dX1_tiring_9 (hs_c.1.1 0 (1, 0) rfl) (by decide) rfl rfl rfl (Nat.le_of_ble_eq_true rfl) (by decide) (by decide) (Nat.le_refl _) (Nat.le_refl _) (fun _ _ hq => ?_)
  obtain ⟨rfl, rfl⟩ := hq
  refine V.aload_n dX1_tiring_12 rfl ?_
  obtain ⟨⟨u9, I10⟩, hk8, hf⟩ := bnd_some hf
  try dsimp only at hf
  refine V.inv cv_X1_42 (c_ct_lossNow hs_c hk8) dX1_tiring_13 (hs_c.1.1 0 (1, 0) rfl) (by decide) rfl rfl rfl (Nat.le_of_ble_eq_true rfl) (by decide) (by decide) (Nat.le_refl _) (Nat.le_refl _) (fun _ _ hq => ?_)
  obtain ⟨rfl, rfl⟩ := hq
  try dsimp only
  obtain rfl := Option.some.inj hf
  exact V.iret dX1_tiring_16 rfl (Nat.le_refl _) (Nat.le_refl _) ⟨rfl, rfl⟩
theorem dX1_heedsNeighbours_0 : decode cX1_heedsNeighbours 0 = .ok (.aload_n 0, 1) := by decide +kernel
theorem dX1_heedsNeighbours_1 : decode cX1_heedsNeighbours 1 = .ok (.getfield 66, 3) := by decide +kernel
theorem dX1_heedsNeighbours_4 : decode cX1_heedsNeighbours 4 = .ok (.ifnull 18, 3) := by decide +kernel
theorem dX1_heedsNeighbours_7 : decode cX1_heedsNeighbours 7 = .ok (.aload_n 0, 1) := by decide +kernel
theorem dX1_heedsNeighbours_8 : decode cX1_heedsNeighbours 8 = .ok (.getfield 66, 3) := by decide +kernel
theorem dX1_heedsNeighbours_11 : decode cX1_heedsNeighbours 11 = .ok (.iconst 4, 1) := by decide +kernel
theorem dX1_heedsNeighbours_12 : decode cX1_heedsNeighbours 12 = .ok (.invokevirtual 80, 3) := by decide +kernel
theorem dX1_heedsNeighbours_15 : decode cX1_heedsNeighbours 15 = .ok (.ifCond .eq 7, 3) := by decide +kernel
theorem dX1_heedsNeighbours_18 : decode cX1_heedsNeighbours 18 = .ok (.iconst 1, 1) := by decide +kernel
theorem dX1_heedsNeighbours_19 : decode cX1_heedsNeighbours 19 = .ok (.goto 4, 3) := by decide +kernel
theorem dX1_heedsNeighbours_22 : decode cX1_heedsNeighbours 22 = .ok (.iconst 0, 1) := by decide +kernel
theorem dX1_heedsNeighbours_23 : decode cX1_heedsNeighbours 23 = .ok (.ireturn, 1) := by decide +kernel
def ct_heedsNeighbours (F : Nat) (T : Nat → Option (Nat × Nat)) (I : Nat → Nat → Int32) (P : Nat → Nat → Option Nat) (c : Nat) : Option (Int32) := match (P c 8) with | none => (some 0) | some w2 => ((w_looksAt F T I w2 4).bind (fun q5 => let u7 := q5; if u7 = 0 then (some 0) else (some 1)))
theorem c_ct_heedsNeighbours {l : Launch} {D : va_G} {E : Nat → ClassId} {B : Nat → Prop} {n F : Nat} {T : Nat → Option (Nat × Nat)} {I : Nat → Nat → Int32} {J : Nat → Nat → Int64} {P : Nat → Nat → Option Nat} {c : Nat}  {r : Int32} (hs_c : isCt T P c) (hf : ct_heedsNeighbours F T I P c = some r) : Ct l D E B yX1_heedsNeighbours cX1_heedsNeighbours 1 (some .boolean) 2 0 0 [.ref c] (n, T, I, J, P) (Ret (some (.int r)) (n, T, I, J, P)) := by
  unfold ct_heedsNeighbours at hf
  refine Ct.ofV (by decide) (Nat.le_of_ble_eq_true rfl) ?_
  refine V.aload_n dX1_heedsNeighbours_0 rfl ?_
  refine V.getf fl_X1_66 dX1_heedsNeighbours_1 (hs_c.1.1 0 (1, 0) rfl) (by decide) rfl ?_
  refine V.nuQ 22 dX1_heedsNeighbours_4 (by decide) (fun c1 => ?_) (fun w2 c1 => ?_)
  · rw [c1] at hf
    try dsimp only at hf
    refine V.iconst (v := 0) dX1_heedsNeighbours_22 (by decide) ?_
    obtain rfl := Option.some.inj hf
    exact V.zret dX1_heedsNeighbours_23 rfl rfl (Nat.le_refl _) (Nat.le_refl _) ⟨rfl, rfl⟩
  · rw [c1] at hf
    try dsimp only at hf
    refine V.aload_n dX1_heedsNeighbours_7 rfl ?_
    refine V.getr fl_X1_66 dX1_heedsNeighbours_8 (hs_c.1.1 0 (1, 0) rfl) c1 (by decide) rfl ?_
    refine V.iconst (v := 4) dX1_heedsNeighbours_11 (by decide) ?_
    obtain ⟨u7, hk6, hf⟩ := bnd_some hf
    try dsimp only at hf
    refine V.inv cv_X1_80 (c_w_looksAt (hs_c.2.1 _ c1) hk6) dX1_heedsNeighbours_12 (hs_c.2.1 _ c1).1 (by decide) rfl rfl rfl (Nat.le_of_ble_eq_true rfl) (by decide) (by decide) (Nat.le_refl _) (Nat.le_refl _) (fun _ _ hq => ?_)
    obtain ⟨rfl, rfl⟩ := hq
    refine V.if_eq 22 dX1_heedsNeighbours_15 (by decide) (fun c8 => ?_) (fun c8 => ?_)
    · rw [if_pos c8] at hf
      refine V.iconst (v := 0) dX1_heedsNeighbours_22 (by decide) ?_
      obtain rfl := Option.some.inj hf
      exact V.zret dX1_heedsNeighbours_23 rfl rfl (Nat.le_refl _) (Nat.le_refl _) ⟨rfl, rfl⟩
    · rw [if_neg c8] at hf
      refine V.iconst (v := 1) dX1_heedsNeighbours_18 (by decide) ?_
      refine V.goto 23 dX1_heedsNeighbours_19 (by decide) ?_
      obtain rfl := Option.some.inj hf
      exact V.zret dX1_heedsNeighbours_23 rfl rfl (Nat.le_refl _) (Nat.le_refl _) ⟨rfl, rfl⟩
theorem dX1_allOdds_0 : decode cX1_allOdds 0 = .ok (.iconst 0, 1) := by decide +kernel
theorem dX1_allOdds_1 : decode cX1_allOdds 1 = .ok (.istore_n 1, 1) := by decide +kernel
theorem dX1_allOdds_2 : decode cX1_allOdds 2 = .ok (.iconst 0, 1) := by decide +kernel
theorem dX1_allOdds_3 : decode cX1_allOdds 3 = .ok (.istore_n 2, 1) := by decide +kernel
theorem dX1_allOdds_4 : decode cX1_allOdds 4 = .ok (.iload_n 2, 1) := by decide +kernel
theorem dX1_allOdds_5 : decode cX1_allOdds 5 = .ok (.aload_n 0, 1) := by decide +kernel
theorem dX1_allOdds_6 : decode cX1_allOdds 6 = .ok (.getfield 84, 3) := by decide +kernel
theorem dX1_allOdds_9 : decode cX1_allOdds 9 = .ok (.if_icmp .ge 18, 3) := by decide +kernel
theorem dX1_allOdds_12 : decode cX1_allOdds 12 = .ok (.iload_n 1, 1) := by decide +kernel
theorem dX1_allOdds_13 : decode cX1_allOdds 13 = .ok (.aload_n 0, 1) := by decide +kernel
theorem dX1_allOdds_14 : decode cX1_allOdds 14 = .ok (.getfield 18, 3) := by decide +kernel
theorem dX1_allOdds_17 : decode cX1_allOdds 17 = .ok (.iload_n 2, 1) := by decide +kernel
theorem dX1_allOdds_18 : decode cX1_allOdds 18 = .ok (.iaload, 1) := by decide +kernel
theorem dX1_allOdds_19 : decode cX1_allOdds 19 = .ok (.iadd, 1) := by decide +kernel
theorem dX1_allOdds_20 : decode cX1_allOdds 20 = .ok (.istore_n 1, 1) := by decide +kernel
theorem dX1_allOdds_21 : decode cX1_allOdds 21 = .ok (.iinc 2 1, 3) := by decide +kernel
theorem dX1_allOdds_24 : decode cX1_allOdds 24 = .ok (.goto (-20), 3) := by decide +kernel
theorem dX1_allOdds_27 : decode cX1_allOdds 27 = .ok (.iload_n 1, 1) := by decide +kernel
theorem dX1_allOdds_28 : decode cX1_allOdds 28 = .ok (.ireturn, 1) := by decide +kernel
def ct_allOdds_4 (F : Nat) (I : Nat → Nat → Int32) (c : Nat) : Nat → Int32 → Int32 → Option (Int32 × Int32)
  | 0, _, _ => none
  | k + 1, l1, l2 => if (I c 1) ≤ l2 then (some (l1, l2)) else (chk l2 4 (let x3 := (l1 + (I (c + 3) (Int32.toNatClampNeg l2))); ct_allOdds_4 F I c k x3 (l2 + 1)))
def ct_allOdds (F : Nat) (I : Nat → Nat → Int32) (c : Nat) : Option (Int32) := (ct_allOdds_4 F I c F 0 0).bind (fun q5 => let m7 := q5.1; let m8 := q5.2; some m7)
theorem l_ct_allOdds_4 {l : Launch} {D : va_G} {E : Nat → ClassId} {B : Nat → Prop} {n F : Nat} {Q : Option Value → HT → Prop} {T : Nat → Option (Nat × Nat)} {I : Nat → Nat → Int32} {J : Nat → Nat → Int64} {P : Nat → Nat → Option Nat} {c : Nat}  (hs_c : isCt T P c)  (r : Int32 × Int32) : ∀ (k : Nat) (l1 : Int32) (l2 : Int32), ct_allOdds_4 F I c k l1 l2 = some r → V l D E B yX1_allOdds cX1_allOdds 3 (some .int) 0 0 0 Q 0 0 (n, T, I, J, P) 27 [(0, some (.ref c)), (1, some (.int (r.1))), (2, some (.int (r.2)))] [] → V l D E B yX1_allOdds cX1_allOdds 3 (some .int) 0 0 0 Q 0 0 (n, T, I, J, P) 4 [(0, some (.ref c)), (1, some (.int l1)), (2, some (.int l2))] [] := by
  intro k
  induction k with
  | zero =>
    intro l1 l2 hf hk
    cases hf
  | succ k ih =>
    intro l1 l2 hf hk
    unfold ct_allOdds_4 at hf
    refine V.iload_n dX1_allOdds_4 rfl ?_
    refine V.aload_n dX1_allOdds_5 rfl ?_
    refine V.getf fl_X1_84 dX1_allOdds_6 (hs_c.1.1 0 (1, 0) rfl) (by decide) rfl ?_
    refine V.icmp_ge 27 dX1_allOdds_9 (by decide) (fun c1 => ?_) (fun c1 => ?_)
    · rw [if_pos c1] at hf
      obtain rfl := Option.some.inj hf
      exact V.lo [(0, some (.ref c)), (1, some (.int l1)), (2, some (.int l2))] (by simp only [Subs]; repeat' first | exact trivial | constructor | rfl) hk
    · rw [if_neg c1] at hf
      refine V.iload_n dX1_allOdds_12 rfl ?_
      refine V.aload_n dX1_allOdds_13 rfl ?_
      refine V.getr fl_X1_18 dX1_allOdds_14 (hs_c.1.1 0 (1, 0) rfl) (hs_c.1.2 0 6 3 rfl) (by decide) rfl ?_
      refine V.iload_n dX1_allOdds_17 rfl ?_
      obtain ⟨hb2, hf⟩ := chk_some hf
      refine V.iald dX1_allOdds_18 (hs_c.1.1 3 (20, 4) rfl) hb2 ?_
      refine V.iadd dX1_allOdds_19 ?_
      refine V.istore_n dX1_allOdds_20 rfl (by decide) (by first | exact rfl | exact trivial) ?_
      obtain ⟨x3, e4⟩ : ∃ zz_, zz_ = (l1 + (I (c + 3) (Int32.toNatClampNeg l2))) := ⟨_, rfl⟩
      rw [← e4] at hf ⊢
      try dsimp only at hf
      refine V.iinc (v := (l2 + 1)) dX1_allOdds_21 rfl rfl (by first | exact rfl | exact trivial) ?_
      refine V.goto 4 dX1_allOdds_24 (by decide) ?_
      exact V.lo [(0, some (.ref c)), (1, some (.int x3)), (2, some (.int (l2 + 1)))] (by simp only [Subs]; repeat' first | exact trivial | constructor | rfl) (ih _ _ hf hk)
theorem c_ct_allOdds {l : Launch} {D : va_G} {E : Nat → ClassId} {B : Nat → Prop} {n F : Nat} {T : Nat → Option (Nat × Nat)} {I : Nat → Nat → Int32} {J : Nat → Nat → Int64} {P : Nat → Nat → Option Nat} {c : Nat}  {r : Int32} (hs_c : isCt T P c) (hf : ct_allOdds F I c = some r) : Ct l D E B yX1_allOdds cX1_allOdds 3 (some .int) 0 0 0 [.ref c] (n, T, I, J, P) (Ret (some (.int r)) (n, T, I, J, P)) := by
  unfold ct_allOdds at hf
  refine Ct.ofV (by decide) (Nat.le_of_ble_eq_true rfl) ?_
  refine V.iconst (v := 0) dX1_allOdds_0 (by decide) ?_
  refine V.istore_n dX1_allOdds_1 rfl (by decide) (by first | exact rfl | exact trivial) ?_
  refine V.iconst (v := 0) dX1_allOdds_2 (by decide) ?_
  refine V.istore_n dX1_allOdds_3 rfl (by decide) (by first | exact rfl | exact trivial) ?_
  obtain ⟨⟨m7, m8⟩, hk6, hf⟩ := bnd_some hf
  try dsimp only at hf
  refine V.lo [(0, some (.ref c)), (1, some (.int 0)), (2, some (.int 0))] (by simp only [Subs]; repeat' first | exact trivial | constructor | rfl) (l_ct_allOdds_4 hs_c _ F _ _ hk6 ?_)
  try dsimp only
  refine V.iload_n dX1_allOdds_27 rfl ?_
  obtain rfl := Option.some.inj hf
  exact V.iret dX1_allOdds_28 rfl (Nat.le_refl _) (Nat.le_refl _) ⟨rfl, rfl⟩
theorem dX8_copyFrom_0 : decode cX8_copyFrom 0 = .ok (.aload_n 0, 1) := by decide +kernel
theorem dX8_copyFrom_1 : decode cX8_copyFrom 1 = .ok (.aload_n 1, 1) := by decide +kernel
theorem dX8_copyFrom_2 : decode cX8_copyFrom 2 = .ok (.getfield 30, 3) := by decide +kernel
theorem dX8_copyFrom_5 : decode cX8_copyFrom 5 = .ok (.putfield 30, 3) := by decide +kernel
theorem dX8_copyFrom_8 : decode cX8_copyFrom 8 = .ok (.aload_n 0, 1) := by decide +kernel
theorem dX8_copyFrom_9 : decode cX8_copyFrom 9 = .ok (.aload_n 1, 1) := by decide +kernel
theorem dX8_copyFrom_10 : decode cX8_copyFrom 10 = .ok (.getfield 34, 3) := by decide +kernel
theorem dX8_copyFrom_13 : decode cX8_copyFrom 13 = .ok (.putfield 34, 3) := by decide +kernel
theorem dX8_copyFrom_16 : decode cX8_copyFrom 16 = .ok (.aload_n 0, 1) := by decide +kernel
theorem dX8_copyFrom_17 : decode cX8_copyFrom 17 = .ok (.aload_n 1, 1) := by decide +kernel
theorem dX8_copyFrom_18 : decode cX8_copyFrom 18 = .ok (.getfield 37, 3) := by decide +kernel
theorem dX8_copyFrom_21 : decode cX8_copyFrom 21 = .ok (.putfield 37, 3) := by decide +kernel
theorem dX8_copyFrom_24 : decode cX8_copyFrom 24 = .ok (.aload_n 0, 1) := by decide +kernel
theorem dX8_copyFrom_25 : decode cX8_copyFrom 25 = .ok (.aload_n 1, 1) := by decide +kernel
theorem dX8_copyFrom_26 : decode cX8_copyFrom 26 = .ok (.getfield 40, 3) := by decide +kernel
theorem dX8_copyFrom_29 : decode cX8_copyFrom 29 = .ok (.putfield 40, 3) := by decide +kernel
theorem dX8_copyFrom_32 : decode cX8_copyFrom 32 = .ok (.aload_n 1, 1) := by decide +kernel
theorem dX8_copyFrom_33 : decode cX8_copyFrom 33 = .ok (.getfield 9, 3) := by decide +kernel
theorem dX8_copyFrom_36 : decode cX8_copyFrom 36 = .ok (.iconst 0, 1) := by decide +kernel
theorem dX8_copyFrom_37 : decode cX8_copyFrom 37 = .ok (.aload_n 0, 1) := by decide +kernel
theorem dX8_copyFrom_38 : decode cX8_copyFrom 38 = .ok (.getfield 9, 3) := by decide +kernel
theorem dX8_copyFrom_41 : decode cX8_copyFrom 41 = .ok (.iconst 0, 1) := by decide +kernel
theorem dX8_copyFrom_42 : decode cX8_copyFrom 42 = .ok (.bipush 6, 2) := by decide +kernel
theorem dX8_copyFrom_44 : decode cX8_copyFrom 44 = .ok (.invokestatic 43, 3) := by decide +kernel
theorem dX8_copyFrom_47 : decode cX8_copyFrom 47 = .ok (.aload_n 1, 1) := by decide +kernel
theorem dX8_copyFrom_48 : decode cX8_copyFrom 48 = .ok (.getfield 15, 3) := by decide +kernel
theorem dX8_copyFrom_51 : decode cX8_copyFrom 51 = .ok (.iconst 0, 1) := by decide +kernel
theorem dX8_copyFrom_52 : decode cX8_copyFrom 52 = .ok (.aload_n 0, 1) := by decide +kernel
theorem dX8_copyFrom_53 : decode cX8_copyFrom 53 = .ok (.getfield 15, 3) := by decide +kernel
theorem dX8_copyFrom_56 : decode cX8_copyFrom 56 = .ok (.iconst 0, 1) := by decide +kernel
theorem dX8_copyFrom_57 : decode cX8_copyFrom 57 = .ok (.bipush 6, 2) := by decide +kernel
theorem dX8_copyFrom_59 : decode cX8_copyFrom 59 = .ok (.invokestatic 43, 3) := by decide +kernel
theorem dX8_copyFrom_62 : decode cX8_copyFrom 62 = .ok (.aload_n 1, 1) := by decide +kernel
theorem dX8_copyFrom_63 : decode cX8_copyFrom 63 = .ok (.getfield 18, 3) := by decide +kernel
theorem dX8_copyFrom_66 : decode cX8_copyFrom 66 = .ok (.iconst 0, 1) := by decide +kernel
theorem dX8_copyFrom_67 : decode cX8_copyFrom 67 = .ok (.aload_n 0, 1) := by decide +kernel
theorem dX8_copyFrom_68 : decode cX8_copyFrom 68 = .ok (.getfield 18, 3) := by decide +kernel
theorem dX8_copyFrom_71 : decode cX8_copyFrom 71 = .ok (.iconst 0, 1) := by decide +kernel
theorem dX8_copyFrom_72 : decode cX8_copyFrom 72 = .ok (.bipush 6, 2) := by decide +kernel
theorem dX8_copyFrom_74 : decode cX8_copyFrom 74 = .ok (.invokestatic 43, 3) := by decide +kernel
theorem dX8_copyFrom_77 : decode cX8_copyFrom 77 = .ok (.aload_n 1, 1) := by decide +kernel
theorem dX8_copyFrom_78 : decode cX8_copyFrom 78 = .ok (.getfield 21, 3) := by decide +kernel
theorem dX8_copyFrom_81 : decode cX8_copyFrom 81 = .ok (.iconst 0, 1) := by decide +kernel
theorem dX8_copyFrom_82 : decode cX8_copyFrom 82 = .ok (.aload_n 0, 1) := by decide +kernel
theorem dX8_copyFrom_83 : decode cX8_copyFrom 83 = .ok (.getfield 21, 3) := by decide +kernel
theorem dX8_copyFrom_86 : decode cX8_copyFrom 86 = .ok (.iconst 0, 1) := by decide +kernel
theorem dX8_copyFrom_87 : decode cX8_copyFrom 87 = .ok (.bipush 6, 2) := by decide +kernel
theorem dX8_copyFrom_89 : decode cX8_copyFrom 89 = .ok (.invokestatic 43, 3) := by decide +kernel
theorem dX8_copyFrom_92 : decode cX8_copyFrom 92 = .ok (.aload_n 1, 1) := by decide +kernel
theorem dX8_copyFrom_93 : decode cX8_copyFrom 93 = .ok (.getfield 24, 3) := by decide +kernel
theorem dX8_copyFrom_96 : decode cX8_copyFrom 96 = .ok (.iconst 0, 1) := by decide +kernel
theorem dX8_copyFrom_97 : decode cX8_copyFrom 97 = .ok (.aload_n 0, 1) := by decide +kernel
theorem dX8_copyFrom_98 : decode cX8_copyFrom 98 = .ok (.getfield 24, 3) := by decide +kernel
theorem dX8_copyFrom_101 : decode cX8_copyFrom 101 = .ok (.iconst 0, 1) := by decide +kernel
theorem dX8_copyFrom_102 : decode cX8_copyFrom 102 = .ok (.bipush 6, 2) := by decide +kernel
theorem dX8_copyFrom_104 : decode cX8_copyFrom 104 = .ok (.invokestatic 43, 3) := by decide +kernel
theorem dX8_copyFrom_107 : decode cX8_copyFrom 107 = .ok (.aload_n 1, 1) := by decide +kernel
theorem dX8_copyFrom_108 : decode cX8_copyFrom 108 = .ok (.getfield 27, 3) := by decide +kernel
theorem dX8_copyFrom_111 : decode cX8_copyFrom 111 = .ok (.iconst 0, 1) := by decide +kernel
theorem dX8_copyFrom_112 : decode cX8_copyFrom 112 = .ok (.aload_n 0, 1) := by decide +kernel
theorem dX8_copyFrom_113 : decode cX8_copyFrom 113 = .ok (.getfield 27, 3) := by decide +kernel
theorem dX8_copyFrom_116 : decode cX8_copyFrom 116 = .ok (.iconst 0, 1) := by decide +kernel
theorem dX8_copyFrom_117 : decode cX8_copyFrom 117 = .ok (.bipush 6, 2) := by decide +kernel
theorem dX8_copyFrom_119 : decode cX8_copyFrom 119 = .ok (.invokestatic 43, 3) := by decide +kernel
theorem dX8_copyFrom_122 : decode cX8_copyFrom 122 = .ok (.return_, 1) := by decide +kernel
def s_copyFrom (I : Nat → Nat → Int32) (a : Nat) (b : Nat) : Option ((Nat → Nat → Int32)) := let I1 := uI I a 0 (I b 0); let I3 := uI I1 a 1 (I1 b 1); let I5 := uI I3 a 2 (I3 b 2); let I7 := uI I5 a 3 (I5 b 3); let I9 := cpI I7 (b + 1) (a + 1) (Int32.toNatClampNeg 0) (Int32.toNatClampNeg 0) (Int32.toNatClampNeg 6); let I11 := cpI I9 (b + 2) (a + 2) (Int32.toNatClampNeg 0) (Int32.toNatClampNeg 0) (Int32.toNatClampNeg 6); let I13 := cpI I11 (b + 3) (a + 3) (Int32.toNatClampNeg 0) (Int32.toNatClampNeg 0) (Int32.toNatClampNeg 6); let I15 := cpI I13 (b + 4) (a + 4) (Int32.toNatClampNeg 0) (Int32.toNatClampNeg 0) (Int32.toNatClampNeg 6); let I17 := cpI I15 (b + 5) (a + 5) (Int32.toNatClampNeg 0) (Int32.toNatClampNeg 0) (Int32.toNatClampNeg 6); let I19 := cpI I17 (b + 6) (a + 6) (Int32.toNatClampNeg 0) (Int32.toNatClampNeg 0) (Int32.toNatClampNeg 6); some I19
theorem c_s_copyFrom {l : Launch} {D : va_G} {E : Nat → ClassId} {B : Nat → Prop} {n : Nat} {T : Nat → Option (Nat × Nat)} {I : Nat → Nat → Int32} {J : Nat → Nat → Int64} {P : Nat → Nat → Option Nat} {a : Nat} {b : Nat}  {r : (Nat → Nat → Int32)} (hs_a : isSt T P a) (hs_b : isSt T P b) (hf : s_copyFrom I a b = some r) : Ct l D E B yX8_copyFrom cX8_copyFrom 2 none 1 0 0 [.ref a, .ref b] (n, T, I, J, P) (Ret (none) (n, T, r, J, P)) := by
  unfold s_copyFrom at hf
  refine Ct.ofV (by decide) (Nat.le_of_ble_eq_true rfl) ?_
  refine V.aload_n dX8_copyFrom_0 rfl ?_
  refine V.aload_n dX8_copyFrom_1 rfl ?_
  refine V.getf fl_X8_30 dX8_copyFrom_2 (hs_b.1 0 (8, 0) rfl) (by decide) rfl ?_
  refine V.putiE fl_X8_30 dX8_copyFrom_5 (hs_a.1 0 (8, 0) rfl) (by decide) (fun h => by cases h) rfl rfl rfl (Nat.le_of_ble_eq_true rfl) (fun I1 e2 => ?_)
  rw [← e2] at hf
  try dsimp only at hf
  clear e2
  refine V.aload_n dX8_copyFrom_8 rfl ?_
  refine V.aload_n dX8_copyFrom_9 rfl ?_
  refine V.getf fl_X8_34 dX8_copyFrom_10 (hs_b.1 0 (8, 0) rfl) (by decide) rfl ?_
  refine V.putiE fl_X8_34 dX8_copyFrom_13 (hs_a.1 0 (8, 0) rfl) (by decide) (fun h => by cases h) rfl rfl rfl (Nat.le_of_ble_eq_true rfl) (fun I3 e4 => ?_)
  rw [← e4] at hf
  try dsimp only at hf
  clear e4
  refine V.aload_n dX8_copyFrom_16 rfl ?_
  refine V.aload_n dX8_copyFrom_17 rfl ?_
  refine V.getf fl_X8_37 dX8_copyFrom_18 (hs_b.1 0 (8, 0) rfl) (by decide) rfl ?_
  refine V.putiE fl_X8_37 dX8_copyFrom_21 (hs_a.1 0 (8, 0) rfl) (by decide) (fun h => by cases h) rfl rfl rfl (Nat.le_of_ble_eq_true rfl) (fun I5 e6 => ?_)
  rw [← e6] at hf
  try dsimp only at hf
  clear e6
  refine V.aload_n dX8_copyFrom_24 rfl ?_
  refine V.aload_n dX8_copyFrom_25 rfl ?_
  refine V.getf fl_X8_40 dX8_copyFrom_26 (hs_b.1 0 (8, 0) rfl) (by decide) rfl ?_
  refine V.putiE fl_X8_40 dX8_copyFrom_29 (hs_a.1 0 (8, 0) rfl) (by decide) (fun h => by cases h) rfl rfl rfl (Nat.le_of_ble_eq_true rfl) (fun I7 e8 => ?_)
  rw [← e8] at hf
  try dsimp only at hf
  clear e8
  refine V.aload_n dX8_copyFrom_32 rfl ?_
  refine V.getr fl_X8_9 dX8_copyFrom_33 (hs_b.1 0 (8, 0) rfl) (hs_b.2 0 4 1 rfl) (by decide) rfl ?_
  refine V.iconst (v := 0) dX8_copyFrom_36 (by decide) ?_
  refine V.aload_n dX8_copyFrom_37 rfl ?_
  refine V.getr fl_X8_9 dX8_copyFrom_38 (hs_a.1 0 (8, 0) rfl) (hs_a.2 0 4 1 rfl) (by decide) rfl ?_
  refine V.iconst (v := 0) dX8_copyFrom_41 (by decide) ?_
  refine V.bipush (v := 6) dX8_copyFrom_42 (by decide) ?_
  refine V.acopy dX8_copyFrom_44 ca_X8_43 (hs_b.1 1 (20, 6) rfl) (hs_a.1 1 (20, 6) rfl) (by decide) (by decide) (by decide) (by decide) (by decide) (by decide) (Nat.le_of_ble_eq_true rfl) (fun I9 e10 => ?_)
  rw [← e10] at hf
  try dsimp only at hf
  clear e10
  refine V.aload_n dX8_copyFrom_47 rfl ?_
  refine V.getr fl_X8_15 dX8_copyFrom_48 (hs_b.1 0 (8, 0) rfl) (hs_b.2 0 5 2 rfl) (by decide) rfl ?_
  refine V.iconst (v := 0) dX8_copyFrom_51 (by decide) ?_
  refine V.aload_n dX8_copyFrom_52 rfl ?_
  refine V.getr fl_X8_15 dX8_copyFrom_53 (hs_a.1 0 (8, 0) rfl) (hs_a.2 0 5 2 rfl) (by decide) rfl ?_
  refine V.iconst (v := 0) dX8_copyFrom_56 (by decide) ?_
  refine V.bipush (v := 6) dX8_copyFrom_57 (by decide) ?_
  refine V.acopy dX8_copyFrom_59 ca_X8_43 (hs_b.1 2 (20, 6) rfl) (hs_a.1 2 (20, 6) rfl) (by decide) (by decide) (by decide) (by decide) (by decide) (by decide) (Nat.le_of_ble_eq_true rfl) (fun I11 e12 => ?_)
  rw [← e12] at hf
  try dsimp only at hf
  clear e12
  refine V.aload_n dX8_copyFrom_62 rfl ?_
  refine V.getr fl_X8_18 dX8_copyFrom_63 (hs_b.1 0 (8, 0) rfl) (hs_b.2 0 6 3 rfl) (by decide) rfl ?_
  refine V.iconst (v := 0) dX8_copyFrom_66 (by decide) ?_
  refine V.aload_n dX8_copyFrom_67 rfl ?_
  refine V.getr fl_X8_18 dX8_copyFrom_68 (hs_a.1 0 (8, 0) rfl) (hs_a.2 0 6 3 rfl) (by decide) rfl ?_
  refine V.iconst (v := 0) dX8_copyFrom_71 (by decide) ?_
  refine V.bipush (v := 6) dX8_copyFrom_72 (by decide) ?_
  refine V.acopy dX8_copyFrom_74 ca_X8_43 (hs_b.1 3 (20, 6) rfl) (hs_a.1 3 (20, 6) rfl) (by decide) (by decide) (by decide) (by decide) (by decide) (by decide) (Nat.le_of_ble_eq_true rfl) (fun I13 e14 => ?_)
  rw [← e14] at hf
  try dsimp only at hf
  clear e14
  refine V.aload_n dX8_copyFrom_77 rfl ?_
  refine V.getr fl_X8_21 dX8_copyFrom_78 (hs_b.1 0 (8, 0) rfl) (hs_b.2 0 7 4 rfl) (by decide) rfl ?_
  refine V.iconst (v := 0) dX8_copyFrom_81 (by decide) ?_
  refine V.aload_n dX8_copyFrom_82 rfl ?_
  refine V.getr fl_X8_21 dX8_copyFrom_83 (hs_a.1 0 (8, 0) rfl) (hs_a.2 0 7 4 rfl) (by decide) rfl ?_
  refine V.iconst (v := 0) dX8_copyFrom_86 (by decide) ?_
  refine V.bipush (v := 6) dX8_copyFrom_87 (by decide) ?_
  refine V.acopy dX8_copyFrom_89 ca_X8_43 (hs_b.1 4 (20, 6) rfl) (hs_a.1 4 (20, 6) rfl) (by decide) (by decide) (by decide) (by decide) (by decide) (by decide) (Nat.le_of_ble_eq_true rfl) (fun I15 e16 => ?_)
  rw [← e16] at hf
  try dsimp only at hf
  clear e16
  refine V.aload_n dX8_copyFrom_92 rfl ?_
  refine V.getr fl_X8_24 dX8_copyFrom_93 (hs_b.1 0 (8, 0) rfl) (hs_b.2 0 8 5 rfl) (by decide) rfl ?_
  refine V.iconst (v := 0) dX8_copyFrom_96 (by decide) ?_
  refine V.aload_n dX8_copyFrom_97 rfl ?_
  refine V.getr fl_X8_24 dX8_copyFrom_98 (hs_a.1 0 (8, 0) rfl) (hs_a.2 0 8 5 rfl) (by decide) rfl ?_
  refine V.iconst (v := 0) dX8_copyFrom_101 (by decide) ?_
  refine V.bipush (v := 6) dX8_copyFrom_102 (by decide) ?_
  refine V.acopy dX8_copyFrom_104 ca_X8_43 (hs_b.1 5 (20, 6) rfl) (hs_a.1 5 (20, 6) rfl) (by decide) (by decide) (by decide) (by decide) (by decide) (by decide) (Nat.le_of_ble_eq_true rfl) (fun I17 e18 => ?_)
  rw [← e18] at hf
  try dsimp only at hf
  clear e18
  refine V.aload_n dX8_copyFrom_107 rfl ?_
  refine V.getr fl_X8_27 dX8_copyFrom_108 (hs_b.1 0 (8, 0) rfl) (hs_b.2 0 9 6 rfl) (by decide) rfl ?_
  refine V.iconst (v := 0) dX8_copyFrom_111 (by decide) ?_
  refine V.aload_n dX8_copyFrom_112 rfl ?_
  refine V.getr fl_X8_27 dX8_copyFrom_113 (hs_a.1 0 (8, 0) rfl) (hs_a.2 0 9 6 rfl) (by decide) rfl ?_
  refine V.iconst (v := 0) dX8_copyFrom_116 (by decide) ?_
  refine V.bipush (v := 6) dX8_copyFrom_117 (by decide) ?_
  refine V.acopy dX8_copyFrom_119 ca_X8_43 (hs_b.1 6 (20, 6) rfl) (hs_a.1 6 (20, 6) rfl) (by decide) (by decide) (by decide) (by decide) (by decide) (by decide) (Nat.le_of_ble_eq_true rfl) (fun I19 e20 => ?_)
  rw [← e20] at hf
  try dsimp only at hf
  clear e20
  obtain rfl := Option.some.inj hf
  exact V.vret dX8_copyFrom_122 rfl (Nat.le_refl _) (Nat.le_refl _) ⟨rfl, rfl⟩
theorem dX8_standAgain_0 : decode cX8_standAgain 0 = .ok (.aload_n 0, 1) := by decide +kernel
theorem dX8_standAgain_1 : decode cX8_standAgain 1 = .ok (.iconst 1, 1) := by decide +kernel
theorem dX8_standAgain_2 : decode cX8_standAgain 2 = .ok (.aload_n 0, 1) := by decide +kernel
theorem dX8_standAgain_3 : decode cX8_standAgain 3 = .ok (.getfield 30, 3) := by decide +kernel
theorem dX8_standAgain_6 : decode cX8_standAgain 6 = .ok (.ishl, 1) := by decide +kernel
theorem dX8_standAgain_7 : decode cX8_standAgain 7 = .ok (.iconst 1, 1) := by decide +kernel
theorem dX8_standAgain_8 : decode cX8_standAgain 8 = .ok (.isub, 1) := by decide +kernel
theorem dX8_standAgain_9 : decode cX8_standAgain 9 = .ok (.putfield 34, 3) := by decide +kernel
theorem dX8_standAgain_12 : decode cX8_standAgain 12 = .ok (.aload_n 0, 1) := by decide +kernel
theorem dX8_standAgain_13 : decode cX8_standAgain 13 = .ok (.iconst 0, 1) := by decide +kernel
theorem dX8_standAgain_14 : decode cX8_standAgain 14 = .ok (.putfield 37, 3) := by decide +kernel
theorem dX8_standAgain_17 : decode cX8_standAgain 17 = .ok (.aload_n 0, 1) := by decide +kernel
theorem dX8_standAgain_18 : decode cX8_standAgain 18 = .ok (.iconst 0, 1) := by decide +kernel
theorem dX8_standAgain_19 : decode cX8_standAgain 19 = .ok (.putfield 40, 3) := by decide +kernel
theorem dX8_standAgain_22 : decode cX8_standAgain 22 = .ok (.iconst 0, 1) := by decide +kernel
theorem dX8_standAgain_23 : decode cX8_standAgain 23 = .ok (.istore_n 2, 1) := by decide +kernel
theorem dX8_standAgain_24 : decode cX8_standAgain 24 = .ok (.iload_n 2, 1) := by decide +kernel
theorem dX8_standAgain_25 : decode cX8_standAgain 25 = .ok (.aload_n 0, 1) := by decide +kernel
theorem dX8_standAgain_26 : decode cX8_standAgain 26 = .ok (.getfield 30, 3) := by decide +kernel
theorem dX8_standAgain_29 : decode cX8_standAgain 29 = .ok (.if_icmp .ge 42, 3) := by decide +kernel
theorem dX8_standAgain_32 : decode cX8_standAgain 32 = .ok (.aload_n 0, 1) := by decide +kernel
theorem dX8_standAgain_33 : decode cX8_standAgain 33 = .ok (.getfield 9, 3) := by decide +kernel
theorem dX8_standAgain_36 : decode cX8_standAgain 36 = .ok (.iload_n 2, 1) := by decide +kernel
theorem dX8_standAgain_37 : decode cX8_standAgain 37 = .ok (.aload_n 1, 1) := by decide +kernel
theorem dX8_standAgain_38 : decode cX8_standAgain 38 = .ok (.getfield 56, 3) := by decide +kernel
theorem dX8_standAgain_41 : decode cX8_standAgain 41 = .ok (.iload_n 2, 1) := by decide +kernel
theorem dX8_standAgain_42 : decode cX8_standAgain 42 = .ok (.iaload, 1) := by decide +kernel
theorem dX8_standAgain_43 : decode cX8_standAgain 43 = .ok (.iastore, 1) := by decide +kernel
theorem dX8_standAgain_44 : decode cX8_standAgain 44 = .ok (.aload_n 0, 1) := by decide +kernel
theorem dX8_standAgain_45 : decode cX8_standAgain 45 = .ok (.getfield 15, 3) := by decide +kernel
theorem dX8_standAgain_48 : decode cX8_standAgain 48 = .ok (.iload_n 2, 1) := by decide +kernel
theorem dX8_standAgain_49 : decode cX8_standAgain 49 = .ok (.iconst 0, 1) := by decide +kernel
theorem dX8_standAgain_50 : decode cX8_standAgain 50 = .ok (.iastore, 1) := by decide +kernel
theorem dX8_standAgain_51 : decode cX8_standAgain 51 = .ok (.aload_n 0, 1) := by decide +kernel
theorem dX8_standAgain_52 : decode cX8_standAgain 52 = .ok (.getfield 18, 3) := by decide +kernel
theorem dX8_standAgain_55 : decode cX8_standAgain 55 = .ok (.iload_n 2, 1) := by decide +kernel
theorem dX8_standAgain_56 : decode cX8_standAgain 56 = .ok (.iconst 0, 1) := by decide +kernel
theorem dX8_standAgain_57 : decode cX8_standAgain 57 = .ok (.iastore, 1) := by decide +kernel
theorem dX8_standAgain_58 : decode cX8_standAgain 58 = .ok (.aload_n 0, 1) := by decide +kernel
theorem dX8_standAgain_59 : decode cX8_standAgain 59 = .ok (.getfield 21, 3) := by decide +kernel
theorem dX8_standAgain_62 : decode cX8_standAgain 62 = .ok (.iload_n 2, 1) := by decide +kernel
theorem dX8_standAgain_63 : decode cX8_standAgain 63 = .ok (.iconst 0, 1) := by decide +kernel
theorem dX8_standAgain_64 : decode cX8_standAgain 64 = .ok (.iastore, 1) := by decide +kernel
theorem dX8_standAgain_65 : decode cX8_standAgain 65 = .ok (.iinc 2 1, 3) := by decide +kernel
theorem dX8_standAgain_68 : decode cX8_standAgain 68 = .ok (.goto (-44), 3) := by decide +kernel
theorem dX8_standAgain_71 : decode cX8_standAgain 71 = .ok (.return_, 1) := by decide +kernel
def s_standAgain_24 (F : Nat) (a : Nat) (c : Nat) : Nat → Int32 → (Nat → Nat → Int32) → Option (Int32 × (Nat → Nat → Int32))
  | 0, _, _ => none
  | k + 1, l2, I => if (I a 0) ≤ l2 then (some (l2, I)) else (chk l2 6 (let I9 := uI I (a + 1) (Int32.toNatClampNeg l2) (I (c + 1) (Int32.toNatClampNeg l2)); let I11 := uI I9 (a + 2) (Int32.toNatClampNeg l2) 0; let I13 := uI I11 (a + 3) (Int32.toNatClampNeg l2) 0; let I15 := uI I13 (a + 4) (Int32.toNatClampNeg l2) 0; s_standAgain_24 F a c k (l2 + 1) I15))
def s_standAgain (F : Nat) (I : Nat → Nat → Int32) (a : Nat) (c : Nat) : Option ((Nat → Nat → Int32)) := let I1 := uI I a 1 ((1 <<< ((I a 0) &&& 31)) - 1); let I3 := uI I1 a 2 0; let I5 := uI I3 a 3 0; (s_standAgain_24 F a c F 0 I5).bind (fun q17 => let m19 := q17.1; let I20 := q17.2; some I20)
theorem l_s_standAgain_24 {l : Launch} {D : va_G} {E : Nat → ClassId} {B : Nat → Prop} {n F : Nat} {Q : Option Value → HT → Prop} {T : Nat → Option (Nat × Nat)} {J : Nat → Nat → Int64} {P : Nat → Nat → Option Nat} {a : Nat} {c : Nat}  (hs_a : isSt T P a) (hs_c : isCt T P c)  (r : Int32 × (Nat → Nat → Int32)) : ∀ (k : Nat) (l2 : Int32) (I : (Nat → Nat → Int32)), s_standAgain_24 F a c k l2 I = some r → V l D E B yX8_standAgain cX8_standAgain 3 none 0 0 0 Q 0 0 (n, T, r.2, J, P) 71 [(0, some (.ref a)), (1, some (.ref c)), (2, some (.int (r.1)))] [] → V l D E B yX8_standAgain cX8_standAgain 3 none 0 0 0 Q 0 0 (n, T, I, J, P) 24 [(0, some (.ref a)), (1, some (.ref c)), (2, some (.int l2))] [] := by
  intro k
  induction k with
  | zero =>
    intro l2 I hf hk
    cases hf
  | succ k ih =>
    intro l2 I hf hk
    unfold s_standAgain_24 at hf
    refine V.iload_n dX8_standAgain_24 rfl ?_
    refine V.aload_n dX8_standAgain_25 rfl ?_
    refine V.getf fl_X8_30 dX8_standAgain_26 (hs_a.1 0 (8, 0) rfl) (by decide) rfl ?_
    refine V.icmp_ge 71 dX8_standAgain_29 (by decide) (fun c7 => ?_) (fun c7 => ?_)
    · rw [if_pos c7] at hf
      obtain rfl := Option.some.inj hf
      exact V.lo [(0, some (.ref a)), (1, some (.ref c)), (2, some (.int l2))] (by simp only [Subs]; repeat' first | exact trivial | constructor | rfl) hk
    · rw [if_neg c7] at hf
      refine V.aload_n dX8_standAgain_32 rfl ?_
      refine V.getr fl_X8_9 dX8_standAgain_33 (hs_a.1 0 (8, 0) rfl) (hs_a.2 0 4 1 rfl) (by decide) rfl ?_
      refine V.iload_n dX8_standAgain_36 rfl ?_
      refine V.aload_n dX8_standAgain_37 rfl ?_
      refine V.getr fl_X8_56 dX8_standAgain_38 (hs_c.1.1 0 (1, 0) rfl) (hs_c.1.2 0 4 1 rfl) (by decide) rfl ?_
      refine V.iload_n dX8_standAgain_41 rfl ?_
      obtain ⟨hb8, hf⟩ := chk_some hf
      refine V.iald dX8_standAgain_42 (hs_c.1.1 1 (20, 6) rfl) hb8 ?_
      refine V.iastE dX8_standAgain_43 (hs_a.1 1 (20, 6) rfl) hb8 (fun I9 e10 => ?_)
      rw [← e10] at hf
      try dsimp only at hf
      clear e10
      refine V.aload_n dX8_standAgain_44 rfl ?_
      refine V.getr fl_X8_15 dX8_standAgain_45 (hs_a.1 0 (8, 0) rfl) (hs_a.2 0 5 2 rfl) (by decide) rfl ?_
      refine V.iload_n dX8_standAgain_48 rfl ?_
      refine V.iconst (v := 0) dX8_standAgain_49 (by decide) ?_
      refine V.iastE dX8_standAgain_50 (hs_a.1 2 (20, 6) rfl) hb8 (fun I11 e12 => ?_)
      rw [← e12] at hf
      try dsimp only at hf
      clear e12
      refine V.aload_n dX8_standAgain_51 rfl ?_
      refine V.getr fl_X8_18 dX8_standAgain_52 (hs_a.1 0 (8, 0) rfl) (hs_a.2 0 6 3 rfl) (by decide) rfl ?_
      refine V.iload_n dX8_standAgain_55 rfl ?_
      refine V.iconst (v := 0) dX8_standAgain_56 (by decide) ?_
      refine V.iastE dX8_standAgain_57 (hs_a.1 3 (20, 6) rfl) hb8 (fun I13 e14 => ?_)
      rw [← e14] at hf
      try dsimp only at hf
      clear e14
      refine V.aload_n dX8_standAgain_58 rfl ?_
      refine V.getr fl_X8_21 dX8_standAgain_59 (hs_a.1 0 (8, 0) rfl) (hs_a.2 0 7 4 rfl) (by decide) rfl ?_
      refine V.iload_n dX8_standAgain_62 rfl ?_
      refine V.iconst (v := 0) dX8_standAgain_63 (by decide) ?_
      refine V.iastE dX8_standAgain_64 (hs_a.1 4 (20, 6) rfl) hb8 (fun I15 e16 => ?_)
      rw [← e16] at hf
      try dsimp only at hf
      clear e16
      refine V.iinc (v := (l2 + 1)) dX8_standAgain_65 rfl rfl (by first | exact rfl | exact trivial) ?_
      refine V.goto 24 dX8_standAgain_68 (by decide) ?_
      exact V.lo [(0, some (.ref a)), (1, some (.ref c)), (2, some (.int (l2 + 1)))] (by simp only [Subs]; repeat' first | exact trivial | constructor | rfl) (ih _ _ hf hk)
theorem c_s_standAgain {l : Launch} {D : va_G} {E : Nat → ClassId} {B : Nat → Prop} {n F : Nat} {T : Nat → Option (Nat × Nat)} {I : Nat → Nat → Int32} {J : Nat → Nat → Int64} {P : Nat → Nat → Option Nat} {a : Nat} {c : Nat}  {r : (Nat → Nat → Int32)} (hs_a : isSt T P a) (hs_c : isCt T P c) (hf : s_standAgain F I a c = some r) : Ct l D E B yX8_standAgain cX8_standAgain 3 none 0 0 0 [.ref a, .ref c] (n, T, I, J, P) (Ret (none) (n, T, r, J, P)) := by
  unfold s_standAgain at hf
  refine Ct.ofV (by decide) (Nat.le_of_ble_eq_true rfl) ?_
  refine V.aload_n dX8_standAgain_0 rfl ?_
  refine V.iconst (v := 1) dX8_standAgain_1 (by decide) ?_
  refine V.aload_n dX8_standAgain_2 rfl ?_
  refine V.getf fl_X8_30 dX8_standAgain_3 (hs_a.1 0 (8, 0) rfl) (by decide) rfl ?_
  refine V.ishl dX8_standAgain_6 ?_
  refine V.iconst (v := 1) dX8_standAgain_7 (by decide) ?_
  refine V.isub dX8_standAgain_8 ?_
  refine V.putiE fl_X8_34 dX8_standAgain_9 (hs_a.1 0 (8, 0) rfl) (by decide) (fun h => by cases h) rfl rfl rfl (Nat.le_of_ble_eq_true rfl) (fun I1 e2 => ?_)
  rw [← e2] at hf
  try dsimp only at hf
  clear e2
  refine V.aload_n dX8_standAgain_12 rfl ?_
  refine V.iconst (v := 0) dX8_standAgain_13 (by decide) ?_
  refine V.putiE fl_X8_37 dX8_standAgain_14 (hs_a.1 0 (8, 0) rfl) (by decide) (fun h => by cases h) rfl rfl rfl (Nat.le_of_ble_eq_true rfl) (fun I3 e4 => ?_)
  rw [← e4] at hf
  try dsimp only at hf
  clear e4
  refine V.aload_n dX8_standAgain_17 rfl ?_
  refine V.iconst (v := 0) dX8_standAgain_18 (by decide) ?_
  refine V.putiE fl_X8_40 dX8_standAgain_19 (hs_a.1 0 (8, 0) rfl) (by decide) (fun h => by cases h) rfl rfl rfl (Nat.le_of_ble_eq_true rfl) (fun I5 e6 => ?_)
  rw [← e6] at hf
  try dsimp only at hf
  clear e6
  refine V.iconst (v := 0) dX8_standAgain_22 (by decide) ?_
  refine V.istore_n dX8_standAgain_23 rfl (by decide) (by first | exact rfl | exact trivial) ?_
  obtain ⟨⟨m19, I20⟩, hk18, hf⟩ := bnd_some hf
  try dsimp only at hf
  refine V.lo [(0, some (.ref a)), (1, some (.ref c)), (2, some (.int 0))] (by simp only [Subs]; repeat' first | exact trivial | constructor | rfl) (l_s_standAgain_24 hs_a hs_c _ F _ _ hk18 ?_)
  try dsimp only
  obtain rfl := Option.some.inj hf
  exact V.vret dX8_standAgain_71 rfl (Nat.le_refl _) (Nat.le_refl _) ⟨rfl, rfl⟩
theorem dX8_standInOrder_0 : decode cX8_standInOrder 0 = .ok (.aload_n 0, 1) := by decide +kernel
theorem dX8_standInOrder_1 : decode cX8_standInOrder 1 = .ok (.aload_n 1, 1) := by decide +kernel
theorem dX8_standInOrder_2 : decode cX8_standInOrder 2 = .ok (.getfield 49, 3) := by decide +kernel
theorem dX8_standInOrder_5 : decode cX8_standInOrder 5 = .ok (.putfield 30, 3) := by decide +kernel
theorem dX8_standInOrder_8 : decode cX8_standInOrder 8 = .ok (.iconst 0, 1) := by decide +kernel
theorem dX8_standInOrder_9 : decode cX8_standInOrder 9 = .ok (.istore_n 2, 1) := by decide +kernel
theorem dX8_standInOrder_10 : decode cX8_standInOrder 10 = .ok (.iload_n 2, 1) := by decide +kernel
theorem dX8_standInOrder_11 : decode cX8_standInOrder 11 = .ok (.bipush 6, 2) := by decide +kernel
theorem dX8_standInOrder_13 : decode cX8_standInOrder 13 = .ok (.if_icmp .ge 23, 3) := by decide +kernel
theorem dX8_standInOrder_16 : decode cX8_standInOrder 16 = .ok (.aload_n 0, 1) := by decide +kernel
theorem dX8_standInOrder_17 : decode cX8_standInOrder 17 = .ok (.getfield 24, 3) := by decide +kernel
theorem dX8_standInOrder_20 : decode cX8_standInOrder 20 = .ok (.iload_n 2, 1) := by decide +kernel
theorem dX8_standInOrder_21 : decode cX8_standInOrder 21 = .ok (.iload_n 2, 1) := by decide +kernel
theorem dX8_standInOrder_22 : decode cX8_standInOrder 22 = .ok (.iastore, 1) := by decide +kernel
theorem dX8_standInOrder_23 : decode cX8_standInOrder 23 = .ok (.aload_n 0, 1) := by decide +kernel
theorem dX8_standInOrder_24 : decode cX8_standInOrder 24 = .ok (.getfield 27, 3) := by decide +kernel
theorem dX8_standInOrder_27 : decode cX8_standInOrder 27 = .ok (.iload_n 2, 1) := by decide +kernel
theorem dX8_standInOrder_28 : decode cX8_standInOrder 28 = .ok (.iload_n 2, 1) := by decide +kernel
theorem dX8_standInOrder_29 : decode cX8_standInOrder 29 = .ok (.iastore, 1) := by decide +kernel
theorem dX8_standInOrder_30 : decode cX8_standInOrder 30 = .ok (.iinc 2 1, 3) := by decide +kernel
theorem dX8_standInOrder_33 : decode cX8_standInOrder 33 = .ok (.goto (-23), 3) := by decide +kernel
theorem dX8_standInOrder_36 : decode cX8_standInOrder 36 = .ok (.aload_n 0, 1) := by decide +kernel
theorem dX8_standInOrder_37 : decode cX8_standInOrder 37 = .ok (.aload_n 1, 1) := by decide +kernel
theorem dX8_standInOrder_38 : decode cX8_standInOrder 38 = .ok (.invokevirtual 52, 3) := by decide +kernel
theorem dX8_standInOrder_41 : decode cX8_standInOrder 41 = .ok (.return_, 1) := by decide +kernel
def s_standInOrder_10 (F : Nat) (a : Nat) (c : Nat) : Nat → Int32 → (Nat → Nat → Int32) → Option (Int32 × (Nat → Nat → Int32))
  | 0, _, _ => none
  | k + 1, l2, I => if 6 ≤ l2 then (some (l2, I)) else (chk l2 6 (let I5 := uI I (a + 5) (Int32.toNatClampNeg l2) l2; let I7 := uI I5 (a + 6) (Int32.toNatClampNeg l2) l2; s_standInOrder_10 F a c k (l2 + 1) I7))
def s_standInOrder (F : Nat) (I : Nat → Nat → Int32) (a : Nat) (c : Nat) : Option ((Nat → Nat → Int32)) := let I1 := uI I a 0 (I c 0); (s_standInOrder_10 F a c F 0 I1).bind (fun q9 => let m11 := q9.1; let I12 := q9.2; (s_standAgain F I12 a c).bind (fun q13 => let I15 := q13; some I15))
theorem l_s_standInOrder_10 {l : Launch} {D : va_G} {E : Nat → ClassId} {B : Nat → Prop} {n F : Nat} {Q : Option Value → HT → Prop} {T : Nat → Option (Nat × Nat)} {J : Nat → Nat → Int64} {P : Nat → Nat → Option Nat} {a : Nat} {c : Nat}  (hs_a : isSt T P a) (hs_c : isCt T P c)  (r : Int32 × (Nat → Nat → Int32)) : ∀ (k : Nat) (l2 : Int32) (I : (Nat → Nat → Int32)), s_standInOrder_10 F a c k l2 I = some r → V l D E B yX8_standInOrder cX8_standInOrder 3 none 1 0 0 Q 0 0 (n, T, r.2, J, P) 36 [(0, some (.ref a)), (1, some (.ref c)), (2, some (.int (r.1)))] [] → V l D E B yX8_standInOrder cX8_standInOrder 3 none 1 0 0 Q 0 0 (n, T, I, J, P) 10 [(0, some (.ref a)), (1, some (.ref c)), (2, some (.int l2))] [] := by
  intro k
  induction k with
  | zero =>
    intro l2 I hf hk
    cases hf
  | succ k ih =>
    intro l2 I hf hk
    unfold s_standInOrder_10 at hf
    refine V.iload_n dX8_standInOrder_10 rfl ?_
    refine V.bipush (v := 6) dX8_standInOrder_11 (by decide) ?_
    refine V.icmp_ge 36 dX8_standInOrder_13 (by decide) (fun c3 => ?_) (fun c3 => ?_)
    · rw [if_pos c3] at hf
      obtain rfl := Option.some.inj hf
      exact V.lo [(0, some (.ref a)), (1, some (.ref c)), (2, some (.int l2))] (by simp only [Subs]; repeat' first | exact trivial | constructor | rfl) hk
    · rw [if_neg c3] at hf
      refine V.aload_n dX8_standInOrder_16 rfl ?_
      refine V.getr fl_X8_24 dX8_standInOrder_17 (hs_a.1 0 (8, 0) rfl) (hs_a.2 0 8 5 rfl) (by decide) rfl ?_
      refine V.iload_n dX8_standInOrder_20 rfl ?_
      refine V.iload_n dX8_standInOrder_21 rfl ?_
      obtain ⟨hb4, hf⟩ := chk_some hf
      refine V.iastE dX8_standInOrder_22 (hs_a.1 5 (20, 6) rfl) hb4 (fun I5 e6 => ?_)
      rw [← e6] at hf
      try dsimp only at hf
      clear e6
      refine V.aload_n dX8_standInOrder_23 rfl ?_
      refine V.getr fl_X8_27 dX8_standInOrder_24 (hs_a.1 0 (8, 0) rfl) (hs_a.2 0 9 6 rfl) (by decide) rfl ?_
      refine V.iload_n dX8_standInOrder_27 rfl ?_
      refine V.iload_n dX8_standInOrder_28 rfl ?_
      refine V.iastE dX8_standInOrder_29 (hs_a.1 6 (20, 6) rfl) hb4 (fun I7 e8 => ?_)
      rw [← e8] at hf
      try dsimp only at hf
      clear e8
      refine V.iinc (v := (l2 + 1)) dX8_standInOrder_30 rfl rfl (by first | exact rfl | exact trivial) ?_
      refine V.goto 10 dX8_standInOrder_33 (by decide) ?_
      exact V.lo [(0, some (.ref a)), (1, some (.ref c)), (2, some (.int (l2 + 1)))] (by simp only [Subs]; repeat' first | exact trivial | constructor | rfl) (ih _ _ hf hk)
theorem c_s_standInOrder {l : Launch} {D : va_G} {E : Nat → ClassId} {B : Nat → Prop} {n F : Nat} {T : Nat → Option (Nat × Nat)} {I : Nat → Nat → Int32} {J : Nat → Nat → Int64} {P : Nat → Nat → Option Nat} {a : Nat} {c : Nat}  {r : (Nat → Nat → Int32)} (hs_a : isSt T P a) (hs_c : isCt T P c) (hf : s_standInOrder F I a c = some r) : Ct l D E B yX8_standInOrder cX8_standInOrder 3 none 1 0 0 [.ref a, .ref c] (n, T, I, J, P) (Ret (none) (n, T, r, J, P)) := by
  unfold s_standInOrder at hf
  refine Ct.ofV (by decide) (Nat.le_of_ble_eq_true rfl) ?_
  refine V.aload_n dX8_standInOrder_0 rfl ?_
  refine V.aload_n dX8_standInOrder_1 rfl ?_
  refine V.getf fl_X8_49 dX8_standInOrder_2 (hs_c.1.1 0 (1, 0) rfl) (by decide) rfl ?_
  refine V.putiE fl_X8_30 dX8_standInOrder_5 (hs_a.1 0 (8, 0) rfl) (by decide) (fun h => by cases h) rfl rfl rfl (Nat.le_of_ble_eq_true rfl) (fun I1 e2 => ?_)
  rw [← e2] at hf
  try dsimp only at hf
  clear e2
  refine V.iconst (v := 0) dX8_standInOrder_8 (by decide) ?_
  refine V.istore_n dX8_standInOrder_9 rfl (by decide) (by first | exact rfl | exact trivial) ?_
  obtain ⟨⟨m11, I12⟩, hk10, hf⟩ := bnd_some hf
  try dsimp only at hf
  refine V.lo [(0, some (.ref a)), (1, some (.ref c)), (2, some (.int 0))] (by simp only [Subs]; repeat' first | exact trivial | constructor | rfl) (l_s_standInOrder_10 hs_a hs_c _ F _ _ hk10 ?_)
  try dsimp only
  refine V.aload_n dX8_standInOrder_36 rfl ?_
  refine V.aload_n dX8_standInOrder_37 rfl ?_
  obtain ⟨I15, hk14, hf⟩ := bnd_some hf
  try dsimp only at hf
  refine V.inv cv_X8_52 (c_s_standAgain hs_a hs_c hk14) dX8_standInOrder_38 (hs_a.1 0 (8, 0) rfl) (by decide) rfl rfl rfl (Nat.le_of_ble_eq_true rfl) (by decide) (by decide) (Nat.le_refl _) (Nat.le_refl _) (fun _ _ hq => ?_)
  obtain ⟨rfl, rfl⟩ := hq
  obtain rfl := Option.some.inj hf
  exact V.vret dX8_standInOrder_41 rfl (Nat.le_refl _) (Nat.le_refl _) ⟨rfl, rfl⟩
theorem dX8_arrange_0 : decode cX8_arrange 0 = .ok (.iconst 0, 1) := by decide +kernel
theorem dX8_arrange_1 : decode cX8_arrange 1 = .ok (.istore_n 2, 1) := by decide +kernel
theorem dX8_arrange_2 : decode cX8_arrange 2 = .ok (.iload_n 2, 1) := by decide +kernel
theorem dX8_arrange_3 : decode cX8_arrange 3 = .ok (.aload_n 0, 1) := by decide +kernel
theorem dX8_arrange_4 : decode cX8_arrange 4 = .ok (.getfield 30, 3) := by decide +kernel
theorem dX8_arrange_7 : decode cX8_arrange 7 = .ok (.if_icmp .ge 27, 3) := by decide +kernel
theorem dX8_arrange_10 : decode cX8_arrange 10 = .ok (.aload_n 0, 1) := by decide +kernel
theorem dX8_arrange_11 : decode cX8_arrange 11 = .ok (.getfield 27, 3) := by decide +kernel
theorem dX8_arrange_14 : decode cX8_arrange 14 = .ok (.iload_n 2, 1) := by decide +kernel
theorem dX8_arrange_15 : decode cX8_arrange 15 = .ok (.aload_n 1, 1) := by decide +kernel
theorem dX8_arrange_16 : decode cX8_arrange 16 = .ok (.iload_n 2, 1) := by decide +kernel
theorem dX8_arrange_17 : decode cX8_arrange 17 = .ok (.iaload, 1) := by decide +kernel
theorem dX8_arrange_18 : decode cX8_arrange 18 = .ok (.iastore, 1) := by decide +kernel
theorem dX8_arrange_19 : decode cX8_arrange 19 = .ok (.aload_n 0, 1) := by decide +kernel
theorem dX8_arrange_20 : decode cX8_arrange 20 = .ok (.getfield 24, 3) := by decide +kernel
theorem dX8_arrange_23 : decode cX8_arrange 23 = .ok (.aload_n 1, 1) := by decide +kernel
theorem dX8_arrange_24 : decode cX8_arrange 24 = .ok (.iload_n 2, 1) := by decide +kernel
theorem dX8_arrange_25 : decode cX8_arrange 25 = .ok (.iaload, 1) := by decide +kernel
theorem dX8_arrange_26 : decode cX8_arrange 26 = .ok (.iload_n 2, 1) := by decide +kernel
theorem dX8_arrange_27 : decode cX8_arrange 27 = .ok (.iastore, 1) := by decide +kernel
theorem dX8_arrange_28 : decode cX8_arrange 28 = .ok (.iinc 2 1, 3) := by decide +kernel
theorem dX8_arrange_31 : decode cX8_arrange 31 = .ok (.goto (-29), 3) := by decide +kernel
theorem dX8_arrange_34 : decode cX8_arrange 34 = .ok (.return_, 1) := by decide +kernel
def s_arrange_2 (F : Nat) (T : Nat → Option (Nat × Nat)) (a : Nat) (qa : Nat) : Nat → Int32 → (Nat → Nat → Int32) → Option (Int32 × (Nat → Nat → Int32))
  | 0, _, _ => none
  | k + 1, l2, I => if (I a 0) ≤ l2 then (some (l2, I)) else (chk l2 (lenT T qa) (chk l2 6 (let I4 := uI I (a + 6) (Int32.toNatClampNeg l2) (I qa (Int32.toNatClampNeg l2)); chk (I4 qa (Int32.toNatClampNeg l2)) 6 (let I7 := uI I4 (a + 5) (Int32.toNatClampNeg (I4 qa (Int32.toNatClampNeg l2))) l2; s_arrange_2 F T a qa k (l2 + 1) I7))))
def s_arrange (F : Nat) (T : Nat → Option (Nat × Nat)) (I : Nat → Nat → Int32) (a : Nat) (qa : Nat) : Option ((Nat → Nat → Int32)) := (s_arrange_2 F T a qa F 0 I).bind (fun q9 => let m11 := q9.1; let I12 := q9.2; some I12)
theorem l_s_arrange_2 {l : Launch} {D : va_G} {E : Nat → ClassId} {B : Nat → Prop} {n F : Nat} {Q : Option Value → HT → Prop} {T : Nat → Option (Nat × Nat)} {J : Nat → Nat → Int64} {P : Nat → Nat → Option Nat} {a : Nat} {qa : Nat}  (hs_a : isSt T P a) (hs_qa : T qa = some (20, lenT T qa))  (r : Int32 × (Nat → Nat → Int32)) : ∀ (k : Nat) (l2 : Int32) (I : (Nat → Nat → Int32)), s_arrange_2 F T a qa k l2 I = some r → V l D E B yX8_arrange cX8_arrange 3 none 0 0 0 Q 0 0 (n, T, r.2, J, P) 34 [(0, some (.ref a)), (1, some (.ref qa)), (2, some (.int (r.1)))] [] → V l D E B yX8_arrange cX8_arrange 3 none 0 0 0 Q 0 0 (n, T, I, J, P) 2 [(0, some (.ref a)), (1, some (.ref qa)), (2, some (.int l2))] [] := by
  intro k
  induction k with
  | zero =>
    intro l2 I hf hk
    cases hf
  | succ k ih =>
    intro l2 I hf hk
    unfold s_arrange_2 at hf
    refine V.iload_n dX8_arrange_2 rfl ?_
    refine V.aload_n dX8_arrange_3 rfl ?_
    refine V.getf fl_X8_30 dX8_arrange_4 (hs_a.1 0 (8, 0) rfl) (by decide) rfl ?_
    refine V.icmp_ge 34 dX8_arrange_7 (by decide) (fun c1 => ?_) (fun c1 => ?_)
    · rw [if_pos c1] at hf
      obtain rfl := Option.some.inj hf
      exact V.lo [(0, some (.ref a)), (1, some (.ref qa)), (2, some (.int l2))] (by simp only [Subs]; repeat' first | exact trivial | constructor | rfl) hk
    · rw [if_neg c1] at hf
      refine V.aload_n dX8_arrange_10 rfl ?_
      refine V.getr fl_X8_27 dX8_arrange_11 (hs_a.1 0 (8, 0) rfl) (hs_a.2 0 9 6 rfl) (by decide) rfl ?_
      refine V.iload_n dX8_arrange_14 rfl ?_
      refine V.aload_n dX8_arrange_15 rfl ?_
      refine V.iload_n dX8_arrange_16 rfl ?_
      obtain ⟨hb2, hf⟩ := chk_some hf
      refine V.iald dX8_arrange_17 hs_qa hb2 ?_
      obtain ⟨hb3, hf⟩ := chk_some hf
      refine V.iastE dX8_arrange_18 (hs_a.1 6 (20, 6) rfl) hb3 (fun I4 e5 => ?_)
      rw [← e5] at hf
      try dsimp only at hf
      clear e5
      refine V.aload_n dX8_arrange_19 rfl ?_
      refine V.getr fl_X8_24 dX8_arrange_20 (hs_a.1 0 (8, 0) rfl) (hs_a.2 0 8 5 rfl) (by decide) rfl ?_
      refine V.aload_n dX8_arrange_23 rfl ?_
      refine V.iload_n dX8_arrange_24 rfl ?_
      refine V.iald dX8_arrange_25 hs_qa hb2 ?_
      refine V.iload_n dX8_arrange_26 rfl ?_
      obtain ⟨hb6, hf⟩ := chk_some hf
      refine V.iastE dX8_arrange_27 (hs_a.1 5 (20, 6) rfl) hb6 (fun I7 e8 => ?_)
      rw [← e8] at hf
      try dsimp only at hf
      clear e8
      refine V.iinc (v := (l2 + 1)) dX8_arrange_28 rfl rfl (by first | exact rfl | exact trivial) ?_
      refine V.goto 2 dX8_arrange_31 (by decide) ?_
      exact V.lo [(0, some (.ref a)), (1, some (.ref qa)), (2, some (.int (l2 + 1)))] (by simp only [Subs]; repeat' first | exact trivial | constructor | rfl) (ih _ _ hf hk)
theorem c_s_arrange {l : Launch} {D : va_G} {E : Nat → ClassId} {B : Nat → Prop} {n F : Nat} {T : Nat → Option (Nat × Nat)} {I : Nat → Nat → Int32} {J : Nat → Nat → Int64} {P : Nat → Nat → Option Nat} {a : Nat} {qa : Nat}  {r : (Nat → Nat → Int32)} (hs_a : isSt T P a) (hs_qa : T qa = some (20, lenT T qa)) (hf : s_arrange F T I a qa = some r) : Ct l D E B yX8_arrange cX8_arrange 3 none 0 0 0 [.ref a, .ref qa] (n, T, I, J, P) (Ret (none) (n, T, r, J, P)) := by
  unfold s_arrange at hf
  refine Ct.ofV (by decide) (Nat.le_of_ble_eq_true rfl) ?_
  refine V.iconst (v := 0) dX8_arrange_0 (by decide) ?_
  refine V.istore_n dX8_arrange_1 rfl (by decide) (by first | exact rfl | exact trivial) ?_
  obtain ⟨⟨m11, I12⟩, hk10, hf⟩ := bnd_some hf
  try dsimp only at hf
  refine V.lo [(0, some (.ref a)), (1, some (.ref qa)), (2, some (.int 0))] (by simp only [Subs]; repeat' first | exact trivial | constructor | rfl) (l_s_arrange_2 hs_a hs_qa _ F _ _ hk10 ?_)
  try dsimp only
  obtain rfl := Option.some.inj hf
  exact V.vret dX8_arrange_34 rfl (Nat.le_refl _) (Nat.le_refl _) ⟨rfl, rfl⟩
theorem dX8_playMinute_0 : decode cX8_playMinute 0 = .ok (.aload_n 1, 1) := by decide +kernel
theorem dX8_playMinute_1 : decode cX8_playMinute 1 = .ok (.aload_n 0, 1) := by decide +kernel
theorem dX8_playMinute_2 : decode cX8_playMinute 2 = .ok (.iload_n 2, 1) := by decide +kernel
theorem dX8_playMinute_3 : decode cX8_playMinute 3 = .ok (.invokevirtual 67, 3) := by decide +kernel
theorem dX8_playMinute_6 : decode cX8_playMinute 6 = .ok (.iconst 0, 1) := by decide +kernel
theorem dX8_playMinute_7 : decode cX8_playMinute 7 = .ok (.istore 4, 2) := by decide +kernel
theorem dX8_playMinute_9 : decode cX8_playMinute 9 = .ok (.iload 4, 2) := by decide +kernel
theorem dX8_playMinute_11 : decode cX8_playMinute 11 = .ok (.aload_n 0, 1) := by decide +kernel
theorem dX8_playMinute_12 : decode cX8_playMinute 12 = .ok (.getfield 30, 3) := by decide +kernel
theorem dX8_playMinute_15 : decode cX8_playMinute 15 = .ok (.if_icmp .ge 54, 3) := by decide +kernel
theorem dX8_playMinute_18 : decode cX8_playMinute 18 = .ok (.aload_n 0, 1) := by decide +kernel
theorem dX8_playMinute_19 : decode cX8_playMinute 19 = .ok (.iload 4, 2) := by decide +kernel
theorem dX8_playMinute_21 : decode cX8_playMinute 21 = .ok (.invokevirtual 63, 3) := by decide +kernel
theorem dX8_playMinute_24 : decode cX8_playMinute 24 = .ok (.ifCond .eq 39, 3) := by decide +kernel
theorem dX8_playMinute_27 : decode cX8_playMinute 27 = .ok (.aload_n 1, 1) := by decide +kernel
theorem dX8_playMinute_28 : decode cX8_playMinute 28 = .ok (.aload_n 0, 1) := by decide +kernel
theorem dX8_playMinute_29 : decode cX8_playMinute 29 = .ok (.iload 4, 2) := by decide +kernel
theorem dX8_playMinute_31 : decode cX8_playMinute 31 = .ok (.invokevirtual 71, 3) := by decide +kernel
theorem dX8_playMinute_34 : decode cX8_playMinute 34 = .ok (.aload_n 1, 1) := by decide +kernel
theorem dX8_playMinute_35 : decode cX8_playMinute 35 = .ok (.getfield 74, 3) := by decide +kernel
theorem dX8_playMinute_38 : decode cX8_playMinute 38 = .ok (.iload 4, 2) := by decide +kernel
theorem dX8_playMinute_40 : decode cX8_playMinute 40 = .ok (.aload_n 1, 1) := by decide +kernel
theorem dX8_playMinute_41 : decode cX8_playMinute 41 = .ok (.invokevirtual 77, 3) := by decide +kernel
theorem dX8_playMinute_44 : decode cX8_playMinute 44 = .ok (.iastore, 1) := by decide +kernel
theorem dX8_playMinute_45 : decode cX8_playMinute 45 = .ok (.iload_n 3, 1) := by decide +kernel
theorem dX8_playMinute_46 : decode cX8_playMinute 46 = .ok (.ifCond .eq 17, 3) := by decide +kernel
theorem dX8_playMinute_49 : decode cX8_playMinute 49 = .ok (.aload_n 0, 1) := by decide +kernel
theorem dX8_playMinute_50 : decode cX8_playMinute 50 = .ok (.getfield 15, 3) := by decide +kernel
theorem dX8_playMinute_53 : decode cX8_playMinute 53 = .ok (.iload 4, 2) := by decide +kernel
theorem dX8_playMinute_55 : decode cX8_playMinute 55 = .ok (.dup2, 1) := by decide +kernel
theorem dX8_playMinute_56 : decode cX8_playMinute 56 = .ok (.iaload, 1) := by decide +kernel
theorem dX8_playMinute_57 : decode cX8_playMinute 57 = .ok (.aload_n 1, 1) := by decide +kernel
theorem dX8_playMinute_58 : decode cX8_playMinute 58 = .ok (.invokevirtual 81, 3) := by decide +kernel
theorem dX8_playMinute_61 : decode cX8_playMinute 61 = .ok (.iadd, 1) := by decide +kernel
theorem dX8_playMinute_62 : decode cX8_playMinute 62 = .ok (.iastore, 1) := by decide +kernel
theorem dX8_playMinute_63 : decode cX8_playMinute 63 = .ok (.iinc 4 1, 3) := by decide +kernel
theorem dX8_playMinute_66 : decode cX8_playMinute 66 = .ok (.goto (-57), 3) := by decide +kernel
theorem dX8_playMinute_69 : decode cX8_playMinute 69 = .ok (.aload_n 0, 1) := by decide +kernel
theorem dX8_playMinute_70 : decode cX8_playMinute 70 = .ok (.dup, 1) := by decide +kernel
theorem dX8_playMinute_71 : decode cX8_playMinute 71 = .ok (.getfield 37, 3) := by decide +kernel
theorem dX8_playMinute_74 : decode cX8_playMinute 74 = .ok (.iconst 1, 1) := by decide +kernel
theorem dX8_playMinute_75 : decode cX8_playMinute 75 = .ok (.iadd, 1) := by decide +kernel
theorem dX8_playMinute_76 : decode cX8_playMinute 76 = .ok (.putfield 37, 3) := by decide +kernel
theorem dX8_playMinute_79 : decode cX8_playMinute 79 = .ok (.aload_n 0, 1) := by decide +kernel
theorem dX8_playMinute_80 : decode cX8_playMinute 80 = .ok (.dup, 1) := by decide +kernel
theorem dX8_playMinute_81 : decode cX8_playMinute 81 = .ok (.getfield 40, 3) := by decide +kernel
theorem dX8_playMinute_84 : decode cX8_playMinute 84 = .ok (.iconst 1, 1) := by decide +kernel
theorem dX8_playMinute_85 : decode cX8_playMinute 85 = .ok (.iadd, 1) := by decide +kernel
theorem dX8_playMinute_86 : decode cX8_playMinute 86 = .ok (.putfield 40, 3) := by decide +kernel
theorem dX8_playMinute_89 : decode cX8_playMinute 89 = .ok (.iconst 0, 1) := by decide +kernel
theorem dX8_playMinute_90 : decode cX8_playMinute 90 = .ok (.istore 4, 2) := by decide +kernel
theorem dX8_playMinute_92 : decode cX8_playMinute 92 = .ok (.iload 4, 2) := by decide +kernel
theorem dX8_playMinute_94 : decode cX8_playMinute 94 = .ok (.aload_n 0, 1) := by decide +kernel
theorem dX8_playMinute_95 : decode cX8_playMinute 95 = .ok (.getfield 30, 3) := by decide +kernel
theorem dX8_playMinute_98 : decode cX8_playMinute 98 = .ok (.if_icmp .ge 90, 3) := by decide +kernel
theorem dX8_playMinute_101 : decode cX8_playMinute 101 = .ok (.aload_n 0, 1) := by decide +kernel
theorem dX8_playMinute_102 : decode cX8_playMinute 102 = .ok (.iload 4, 2) := by decide +kernel
theorem dX8_playMinute_104 : decode cX8_playMinute 104 = .ok (.invokevirtual 63, 3) := by decide +kernel
theorem dX8_playMinute_107 : decode cX8_playMinute 107 = .ok (.ifCond .eq 75, 3) := by decide +kernel
theorem dX8_playMinute_110 : decode cX8_playMinute 110 = .ok (.aload_n 0, 1) := by decide +kernel
theorem dX8_playMinute_111 : decode cX8_playMinute 111 = .ok (.getfield 9, 3) := by decide +kernel
theorem dX8_playMinute_114 : decode cX8_playMinute 114 = .ok (.iload 4, 2) := by decide +kernel
theorem dX8_playMinute_116 : decode cX8_playMinute 116 = .ok (.dup2, 1) := by decide +kernel
theorem dX8_playMinute_117 : decode cX8_playMinute 117 = .ok (.iaload, 1) := by decide +kernel
theorem dX8_playMinute_118 : decode cX8_playMinute 118 = .ok (.aload_n 1, 1) := by decide +kernel
theorem dX8_playMinute_119 : decode cX8_playMinute 119 = .ok (.getfield 74, 3) := by decide +kernel
theorem dX8_playMinute_122 : decode cX8_playMinute 122 = .ok (.iload 4, 2) := by decide +kernel
theorem dX8_playMinute_124 : decode cX8_playMinute 124 = .ok (.iaload, 1) := by decide +kernel
theorem dX8_playMinute_125 : decode cX8_playMinute 125 = .ok (.isub, 1) := by decide +kernel
theorem dX8_playMinute_126 : decode cX8_playMinute 126 = .ok (.iastore, 1) := by decide +kernel
theorem dX8_playMinute_127 : decode cX8_playMinute 127 = .ok (.aload_n 0, 1) := by decide +kernel
theorem dX8_playMinute_128 : decode cX8_playMinute 128 = .ok (.getfield 9, 3) := by decide +kernel
theorem dX8_playMinute_131 : decode cX8_playMinute 131 = .ok (.iload 4, 2) := by decide +kernel
theorem dX8_playMinute_133 : decode cX8_playMinute 133 = .ok (.iaload, 1) := by decide +kernel
theorem dX8_playMinute_134 : decode cX8_playMinute 134 = .ok (.ifCond .ge 48, 3) := by decide +kernel
theorem dX8_playMinute_137 : decode cX8_playMinute 137 = .ok (.aload_n 0, 1) := by decide +kernel
theorem dX8_playMinute_138 : decode cX8_playMinute 138 = .ok (.getfield 9, 3) := by decide +kernel
theorem dX8_playMinute_141 : decode cX8_playMinute 141 = .ok (.iload 4, 2) := by decide +kernel
theorem dX8_playMinute_143 : decode cX8_playMinute 143 = .ok (.iconst 0, 1) := by decide +kernel
theorem dX8_playMinute_144 : decode cX8_playMinute 144 = .ok (.iastore, 1) := by decide +kernel
theorem dX8_playMinute_145 : decode cX8_playMinute 145 = .ok (.aload_n 0, 1) := by decide +kernel
theorem dX8_playMinute_146 : decode cX8_playMinute 146 = .ok (.dup, 1) := by decide +kernel
theorem dX8_playMinute_147 : decode cX8_playMinute 147 = .ok (.getfield 34, 3) := by decide +kernel
theorem dX8_playMinute_150 : decode cX8_playMinute 150 = .ok (.iconst 1, 1) := by decide +kernel
theorem dX8_playMinute_151 : decode cX8_playMinute 151 = .ok (.iload 4, 2) := by decide +kernel
theorem dX8_playMinute_153 : decode cX8_playMinute 153 = .ok (.ishl, 1) := by decide +kernel
theorem dX8_playMinute_154 : decode cX8_playMinute 154 = .ok (.iconst (-1), 1) := by decide +kernel
theorem dX8_playMinute_155 : decode cX8_playMinute 155 = .ok (.ixor, 1) := by decide +kernel
theorem dX8_playMinute_156 : decode cX8_playMinute 156 = .ok (.iand, 1) := by decide +kernel
theorem dX8_playMinute_157 : decode cX8_playMinute 157 = .ok (.putfield 34, 3) := by decide +kernel
theorem dX8_playMinute_160 : decode cX8_playMinute 160 = .ok (.aload_n 0, 1) := by decide +kernel
theorem dX8_playMinute_161 : decode cX8_playMinute 161 = .ok (.getfield 18, 3) := by decide +kernel
theorem dX8_playMinute_164 : decode cX8_playMinute 164 = .ok (.iload 4, 2) := by decide +kernel
theorem dX8_playMinute_166 : decode cX8_playMinute 166 = .ok (.aload_n 0, 1) := by decide +kernel
theorem dX8_playMinute_167 : decode cX8_playMinute 167 = .ok (.getfield 37, 3) := by decide +kernel
theorem dX8_playMinute_170 : decode cX8_playMinute 170 = .ok (.iastore, 1) := by decide +kernel
theorem dX8_playMinute_171 : decode cX8_playMinute 171 = .ok (.aload_n 0, 1) := by decide +kernel
theorem dX8_playMinute_172 : decode cX8_playMinute 172 = .ok (.getfield 21, 3) := by decide +kernel
theorem dX8_playMinute_175 : decode cX8_playMinute 175 = .ok (.iload 4, 2) := by decide +kernel
theorem dX8_playMinute_177 : decode cX8_playMinute 177 = .ok (.aload_n 0, 1) := by decide +kernel
theorem dX8_playMinute_178 : decode cX8_playMinute 178 = .ok (.getfield 40, 3) := by decide +kernel
theorem dX8_playMinute_181 : decode cX8_playMinute 181 = .ok (.iastore, 1) := by decide +kernel
theorem dX8_playMinute_182 : decode cX8_playMinute 182 = .ok (.iinc 4 1, 3) := by decide +kernel
theorem dX8_playMinute_185 : decode cX8_playMinute 185 = .ok (.goto (-93), 3) := by decide +kernel
theorem dX8_playMinute_188 : decode cX8_playMinute 188 = .ok (.return_, 1) := by decide +kernel
def s_playMinute_9 (F : Nat) (T : Nat → Option (Nat × Nat)) (P : Nat → Nat → Option Nat) (a : Nat) (c : Nat) (g2 : Int32) (g3 : Int32) : Nat → Int32 → (Nat → Nat → Int32) → Option (Int32 × (Nat → Nat → Int32))
  | 0, _, _ => none
  | k + 1, l4, I => if (I a 0) ≤ l4 then (some (l4, I)) else (if (s_isUp I a l4) = 0 then (s_playMinute_9 F T P a c g2 g3 k (l4 + 1) I) else ((ct_lookAtPerson I c a l4).bind (fun q6 => let I8 := q6; (ct_lossNow F T I8 P c).bind (fun q9 => let u11 := q9.1; let I12 := q9.2; chk l4 6 (let I14 := uI I12 (c + 7) (Int32.toNatClampNeg l4) u11; if g3 = 0 then (s_playMinute_9 F T P a c g2 g3 k (l4 + 1) I14) else ((ct_painNow F T I14 P c).bind (fun q17 => let u19 := q17.1; let I20 := q17.2; let I21 := uI I20 (a + 2) (Int32.toNatClampNeg l4) ((I14 (a + 2) (Int32.toNatClampNeg l4)) + u19); s_playMinute_9 F T P a c g2 g3 k (l4 + 1) I21)))))))
def s_playMinute_92 (F : Nat) (a : Nat) (c : Nat) (g2 : Int32) (g3 : Int32) : Nat → Int32 → (Nat → Nat → Int32) → Option (Int32 × (Nat → Nat → Int32))
  | 0, _, _ => none
  | k + 1, l4, I => if (I a 0) ≤ l4 then (some (l4, I)) else (if (s_isUp I a l4) = 0 then (s_playMinute_92 F a c g2 g3 k (l4 + 1) I) else (chk l4 6 (let I34 := uI I (a + 1) (Int32.toNatClampNeg l4) ((I (a + 1) (Int32.toNatClampNeg l4)) - (I (c + 7) (Int32.toNatClampNeg l4))); if 0 ≤ (I34 (a + 1) (Int32.toNatClampNeg l4)) then (s_playMinute_92 F a c g2 g3 k (l4 + 1) I34) else (let I37 := uI I34 (a + 1) (Int32.toNatClampNeg l4) 0; let I39 := uI I37 a 1 ((I37 a 1) &&& ((1 <<< (l4 &&& 31)) ^^^ (-1))); let I41 := uI I39 (a + 3) (Int32.toNatClampNeg l4) (I39 a 2); let I43 := uI I41 (a + 4) (Int32.toNatClampNeg l4) (I41 a 3); s_playMinute_92 F a c g2 g3 k (l4 + 1) I43))))
def s_playMinute (F : Nat) (T : Nat → Option (Nat × Nat)) (I : Nat → Nat → Int32) (P : Nat → Nat → Option Nat) (a : Nat) (c : Nat) (v2 : Int32) (v3 : Int32) : Option ((Nat → Nat → Int32)) := (ct_lookAtMinute I c a v2).bind (fun q1 => let I3 := q1; (s_playMinute_9 F T P a c v2 v3 F 0 I3).bind (fun q23 => let m25 := q23.1; let I26 := q23.2; let I27 := uI I26 a 2 ((I26 a 2) + 1); let I29 := uI I27 a 3 ((I27 a 3) + 1); (s_playMinute_92 F a c v2 v3 F 0 I29).bind (fun q45 => let m47 := q45.1; let I48 := q45.2; some I48)))
theorem l_s_playMinute_9 {l : Launch} {D : va_G} {E : Nat → ClassId} {B : Nat → Prop} {n F : Nat} {Q : Option Value → HT → Prop} {T : Nat → Option (Nat × Nat)} {J : Nat → Nat → Int64} {P : Nat → Nat → Option Nat} {a : Nat} {c : Nat} {g2 : Int32} {g3 : Int32} (hs_a : isSt T P a) (hs_c : isCt T P c)  (r : Int32 × (Nat → Nat → Int32)) : ∀ (k : Nat) (l4 : Int32) (I : (Nat → Nat → Int32)), s_playMinute_9 F T P a c g2 g3 k l4 I = some r → V l D E B yX8_playMinute cX8_playMinute 5 none 3 0 0 Q 0 0 (n, T, r.2, J, P) 69 [(0, some (.ref a)), (1, some (.ref c)), (2, some (.int g2)), (3, some (.int g3)), (4, some (.int (r.1)))] [] → V l D E B yX8_playMinute cX8_playMinute 5 none 3 0 0 Q 0 0 (n, T, I, J, P) 9 [(0, some (.ref a)), (1, some (.ref c)), (2, some (.int g2)), (3, some (.int g3)), (4, some (.int l4))] [] := by
  intro k
  induction k with
  | zero =>
    intro l4 I hf hk
    cases hf
  | succ k ih =>
    intro l4 I hf hk
    unfold s_playMinute_9 at hf
    refine V.iload dX8_playMinute_9 rfl ?_
    refine V.aload_n dX8_playMinute_11 rfl ?_
    refine V.getf fl_X8_30 dX8_playMinute_12 (hs_a.1 0 (8, 0) rfl) (by decide) rfl ?_
    refine V.icmp_ge 69 dX8_playMinute_15 (by decide) (fun c4 => ?_) (fun c4 => ?_)
    · rw [if_pos c4] at hf
      obtain rfl := Option.some.inj hf
      exact V.lo [(0, some (.ref a)), (1, some (.ref c)), (2, some (.int g2)), (3, some (.int g3)), (4, some (.int l4))] (by simp only [Subs]; repeat' first | exact trivial | constructor | rfl) hk
    · rw [if_neg c4] at hf
      refine V.aload_n dX8_playMinute_18 rfl ?_
      refine V.iload dX8_playMinute_19 rfl ?_
      refine V.inv cv_X8_63 (c_s_isUp hs_a) dX8_playMinute_21 (hs_a.1 0 (8, 0) rfl) (by decide) rfl rfl rfl (Nat.le_of_ble_eq_true rfl) (by decide) (by decide) (Nat.le_refl _) (Nat.le_refl _) (fun _ _ hq => ?_)
      obtain ⟨rfl, rfl⟩ := hq
      refine V.if_eq 63 dX8_playMinute_24 (by decide) (fun c5 => ?_) (fun c5 => ?_)
      · rw [if_pos c5] at hf
        refine V.iinc (v := (l4 + 1)) dX8_playMinute_63 rfl rfl (by first | exact rfl | exact trivial) ?_
        refine V.goto 9 dX8_playMinute_66 (by decide) ?_
        exact V.lo [(0, some (.ref a)), (1, some (.ref c)), (2, some (.int g2)), (3, some (.int g3)), (4, some (.int (l4 + 1)))] (by simp only [Subs]; repeat' first | exact trivial | constructor | rfl) (ih _ _ hf hk)
      · rw [if_neg c5] at hf
        refine V.aload_n dX8_playMinute_27 rfl ?_
        refine V.aload_n dX8_playMinute_28 rfl ?_
        refine V.iload dX8_playMinute_29 rfl ?_
        obtain ⟨I8, hk7, hf⟩ := bnd_some hf
        try dsimp only at hf
        refine V.inv cv_X8_71 (c_ct_lookAtPerson hs_c hs_a hk7) dX8_playMinute_31 (hs_c.1.1 0 (1, 0) rfl) (by decide) rfl rfl rfl (Nat.le_of_ble_eq_true rfl) (by decide) (by decide) (Nat.le_refl _) (Nat.le_refl _) (fun _ _ hq => ?_)
        obtain ⟨rfl, rfl⟩ := hq
        refine V.aload_n dX8_playMinute_34 rfl ?_
        refine V.getr fl_X8_74 dX8_playMinute_35 (hs_c.1.1 0 (1, 0) rfl) (hs_c.1.2 0 12 7 rfl) (by decide) rfl ?_
        refine V.iload dX8_playMinute_38 rfl ?_
        refine V.aload_n dX8_playMinute_40 rfl ?_
        obtain ⟨⟨u11, I12⟩, hk10, hf⟩ := bnd_some hf
        try dsimp only at hf
        refine V.inv cv_X8_77 (c_ct_lossNow hs_c hk10) dX8_playMinute_41 (hs_c.1.1 0 (1, 0) rfl) (by decide) rfl rfl rfl (Nat.le_of_ble_eq_true rfl) (by decide) (by decide) (Nat.le_refl _) (Nat.le_refl _) (fun _ _ hq => ?_)
        obtain ⟨rfl, rfl⟩ := hq
        try dsimp only
        obtain ⟨hb13, hf⟩ := chk_some hf
        refine V.iastE dX8_playMinute_44 (hs_c.1.1 7 (20, 6) rfl) hb13 (fun I14 e15 => ?_)
        rw [← e15] at hf
        try dsimp only at hf
        clear e15
        refine V.iload_n dX8_playMinute_45 rfl ?_
        refine V.if_eq 63 dX8_playMinute_46 (by decide) (fun c16 => ?_) (fun c16 => ?_)
        · rw [if_pos c16] at hf
          refine V.iinc (v := (l4 + 1)) dX8_playMinute_63 rfl rfl (by first | exact rfl | exact trivial) ?_
          refine V.goto 9 dX8_playMinute_66 (by decide) ?_
          exact V.lo [(0, some (.ref a)), (1, some (.ref c)), (2, some (.int g2)), (3, some (.int g3)), (4, some (.int (l4 + 1)))] (by simp only [Subs]; repeat' first | exact trivial | constructor | rfl) (ih _ _ hf hk)
        · rw [if_neg c16] at hf
          refine V.aload_n dX8_playMinute_49 rfl ?_
          refine V.getr fl_X8_15 dX8_playMinute_50 (hs_a.1 0 (8, 0) rfl) (hs_a.2 0 5 2 rfl) (by decide) rfl ?_
          refine V.iload dX8_playMinute_53 rfl ?_
          refine V.dup2 dX8_playMinute_55 rfl rfl ?_
          refine V.iald dX8_playMinute_56 (hs_a.1 2 (20, 6) rfl) hb13 ?_
          refine V.aload_n dX8_playMinute_57 rfl ?_
          obtain ⟨⟨u19, I20⟩, hk18, hf⟩ := bnd_some hf
          try dsimp only at hf
          refine V.inv cv_X8_81 (c_ct_painNow hs_c hk18) dX8_playMinute_58 (hs_c.1.1 0 (1, 0) rfl) (by decide) rfl rfl rfl (Nat.le_of_ble_eq_true rfl) (by decide) (by decide) (Nat.le_refl _) (Nat.le_refl _) (fun _ _ hq => ?_)
          obtain ⟨rfl, rfl⟩ := hq
          try dsimp only
          refine V.iadd dX8_playMinute_61 ?_
          refine V.iastE dX8_playMinute_62 (hs_a.1 2 (20, 6) rfl) hb13 (fun I21 e22 => ?_)
          rw [← e22] at hf
          try dsimp only at hf
          clear e22
          refine V.iinc (v := (l4 + 1)) dX8_playMinute_63 rfl rfl (by first | exact rfl | exact trivial) ?_
          refine V.goto 9 dX8_playMinute_66 (by decide) ?_
          exact V.lo [(0, some (.ref a)), (1, some (.ref c)), (2, some (.int g2)), (3, some (.int g3)), (4, some (.int (l4 + 1)))] (by simp only [Subs]; repeat' first | exact trivial | constructor | rfl) (ih _ _ hf hk)
theorem l_s_playMinute_92 {l : Launch} {D : va_G} {E : Nat → ClassId} {B : Nat → Prop} {n F : Nat} {Q : Option Value → HT → Prop} {T : Nat → Option (Nat × Nat)} {J : Nat → Nat → Int64} {P : Nat → Nat → Option Nat} {a : Nat} {c : Nat} {g2 : Int32} {g3 : Int32} (hs_a : isSt T P a) (hs_c : isCt T P c)  (r : Int32 × (Nat → Nat → Int32)) : ∀ (k : Nat) (l4 : Int32) (I : (Nat → Nat → Int32)), s_playMinute_92 F a c g2 g3 k l4 I = some r → V l D E B yX8_playMinute cX8_playMinute 5 none 3 0 0 Q 0 0 (n, T, r.2, J, P) 188 [(0, some (.ref a)), (1, some (.ref c)), (2, some (.int g2)), (3, some (.int g3)), (4, some (.int (r.1)))] [] → V l D E B yX8_playMinute cX8_playMinute 5 none 3 0 0 Q 0 0 (n, T, I, J, P) 92 [(0, some (.ref a)), (1, some (.ref c)), (2, some (.int g2)), (3, some (.int g3)), (4, some (.int l4))] [] := by
  intro k
  induction k with
  | zero =>
    intro l4 I hf hk
    cases hf
  | succ k ih =>
    intro l4 I hf hk
    unfold s_playMinute_92 at hf
    refine V.iload dX8_playMinute_92 rfl ?_
    refine V.aload_n dX8_playMinute_94 rfl ?_
    refine V.getf fl_X8_30 dX8_playMinute_95 (hs_a.1 0 (8, 0) rfl) (by decide) rfl ?_
    refine V.icmp_ge 188 dX8_playMinute_98 (by decide) (fun c31 => ?_) (fun c31 => ?_)
    · rw [if_pos c31] at hf
      obtain rfl := Option.some.inj hf
      exact V.lo [(0, some (.ref a)), (1, some (.ref c)), (2, some (.int g2)), (3, some (.int g3)), (4, some (.int l4))] (by simp only [Subs]; repeat' first | exact trivial | constructor | rfl) hk
    · rw [if_neg c31] at hf
      refine V.aload_n dX8_playMinute_101 rfl ?_
      refine V.iload dX8_playMinute_102 rfl ?_
      refine V.inv cv_X8_63 (c_s_isUp hs_a) dX8_playMinute_104 (hs_a.1 0 (8, 0) rfl) (by decide) rfl rfl rfl (Nat.le_of_ble_eq_true rfl) (by decide) (by decide) (Nat.le_refl _) (Nat.le_refl _) (fun _ _ hq => ?_)
      obtain ⟨rfl, rfl⟩ := hq
      refine V.if_eq 182 dX8_playMinute_107 (by decide) (fun c32 => ?_) (fun c32 => ?_)
      · rw [if_pos c32] at hf
        refine V.iinc (v := (l4 + 1)) dX8_playMinute_182 rfl rfl (by first | exact rfl | exact trivial) ?_
        refine V.goto 92 dX8_playMinute_185 (by decide) ?_
        exact V.lo [(0, some (.ref a)), (1, some (.ref c)), (2, some (.int g2)), (3, some (.int g3)), (4, some (.int (l4 + 1)))] (by simp only [Subs]; repeat' first | exact trivial | constructor | rfl) (ih _ _ hf hk)
      · rw [if_neg c32] at hf
        refine V.aload_n dX8_playMinute_110 rfl ?_
        refine V.getr fl_X8_9 dX8_playMinute_111 (hs_a.1 0 (8, 0) rfl) (hs_a.2 0 4 1 rfl) (by decide) rfl ?_
        refine V.iload dX8_playMinute_114 rfl ?_
        refine V.dup2 dX8_playMinute_116 rfl rfl ?_
        obtain ⟨hb33, hf⟩ := chk_some hf
        refine V.iald dX8_playMinute_117 (hs_a.1 1 (20, 6) rfl) hb33 ?_
        refine V.aload_n dX8_playMinute_118 rfl ?_
        refine V.getr fl_X8_74 dX8_playMinute_119 (hs_c.1.1 0 (1, 0) rfl) (hs_c.1.2 0 12 7 rfl) (by decide) rfl ?_
        refine V.iload dX8_playMinute_122 rfl ?_
        refine V.iald dX8_playMinute_124 (hs_c.1.1 7 (20, 6) rfl) hb33 ?_
        refine V.isub dX8_playMinute_125 ?_
        refine V.iastE dX8_playMinute_126 (hs_a.1 1 (20, 6) rfl) hb33 (fun I34 e35 => ?_)
        rw [← e35] at hf
        try dsimp only at hf
        clear e35
        refine V.aload_n dX8_playMinute_127 rfl ?_
        refine V.getr fl_X8_9 dX8_playMinute_128 (hs_a.1 0 (8, 0) rfl) (hs_a.2 0 4 1 rfl) (by decide) rfl ?_
        refine V.iload dX8_playMinute_131 rfl ?_
        refine V.iald dX8_playMinute_133 (hs_a.1 1 (20, 6) rfl) hb33 ?_
        refine V.if_ge 182 dX8_playMinute_134 (by decide) (fun c36 => ?_) (fun c36 => ?_)
        · rw [if_pos c36] at hf
          refine V.iinc (v := (l4 + 1)) dX8_playMinute_182 rfl rfl (by first | exact rfl | exact trivial) ?_
          refine V.goto 92 dX8_playMinute_185 (by decide) ?_
          exact V.lo [(0, some (.ref a)), (1, some (.ref c)), (2, some (.int g2)), (3, some (.int g3)), (4, some (.int (l4 + 1)))] (by simp only [Subs]; repeat' first | exact trivial | constructor | rfl) (ih _ _ hf hk)
        · rw [if_neg c36] at hf
          refine V.aload_n dX8_playMinute_137 rfl ?_
          refine V.getr fl_X8_9 dX8_playMinute_138 (hs_a.1 0 (8, 0) rfl) (hs_a.2 0 4 1 rfl) (by decide) rfl ?_
          refine V.iload dX8_playMinute_141 rfl ?_
          refine V.iconst (v := 0) dX8_playMinute_143 (by decide) ?_
          refine V.iastE dX8_playMinute_144 (hs_a.1 1 (20, 6) rfl) hb33 (fun I37 e38 => ?_)
          rw [← e38] at hf
          try dsimp only at hf
          clear e38
          refine V.aload_n dX8_playMinute_145 rfl ?_
          refine V.dup dX8_playMinute_146 rfl ?_
          refine V.getf fl_X8_34 dX8_playMinute_147 (hs_a.1 0 (8, 0) rfl) (by decide) rfl ?_
          refine V.iconst (v := 1) dX8_playMinute_150 (by decide) ?_
          refine V.iload dX8_playMinute_151 rfl ?_
          refine V.ishl dX8_playMinute_153 ?_
          refine V.iconst (v := -1) dX8_playMinute_154 (by decide) ?_
          refine V.ixor dX8_playMinute_155 ?_
          refine V.iand dX8_playMinute_156 ?_
          refine V.putiE fl_X8_34 dX8_playMinute_157 (hs_a.1 0 (8, 0) rfl) (by decide) (fun h => by cases h) rfl rfl rfl (Nat.le_of_ble_eq_true rfl) (fun I39 e40 => ?_)
          rw [← e40] at hf
          try dsimp only at hf
          clear e40
          refine V.aload_n dX8_playMinute_160 rfl ?_
          refine V.getr fl_X8_18 dX8_playMinute_161 (hs_a.1 0 (8, 0) rfl) (hs_a.2 0 6 3 rfl) (by decide) rfl ?_
          refine V.iload dX8_playMinute_164 rfl ?_
          refine V.aload_n dX8_playMinute_166 rfl ?_
          refine V.getf fl_X8_37 dX8_playMinute_167 (hs_a.1 0 (8, 0) rfl) (by decide) rfl ?_
          refine V.iastE dX8_playMinute_170 (hs_a.1 3 (20, 6) rfl) hb33 (fun I41 e42 => ?_)
          rw [← e42] at hf
          try dsimp only at hf
          clear e42
          refine V.aload_n dX8_playMinute_171 rfl ?_
          refine V.getr fl_X8_21 dX8_playMinute_172 (hs_a.1 0 (8, 0) rfl) (hs_a.2 0 7 4 rfl) (by decide) rfl ?_
          refine V.iload dX8_playMinute_175 rfl ?_
          refine V.aload_n dX8_playMinute_177 rfl ?_
          refine V.getf fl_X8_40 dX8_playMinute_178 (hs_a.1 0 (8, 0) rfl) (by decide) rfl ?_
          refine V.iastE dX8_playMinute_181 (hs_a.1 4 (20, 6) rfl) hb33 (fun I43 e44 => ?_)
          rw [← e44] at hf
          try dsimp only at hf
          clear e44
          refine V.iinc (v := (l4 + 1)) dX8_playMinute_182 rfl rfl (by first | exact rfl | exact trivial) ?_
          refine V.goto 92 dX8_playMinute_185 (by decide) ?_
          exact V.lo [(0, some (.ref a)), (1, some (.ref c)), (2, some (.int g2)), (3, some (.int g3)), (4, some (.int (l4 + 1)))] (by simp only [Subs]; repeat' first | exact trivial | constructor | rfl) (ih _ _ hf hk)
theorem c_s_playMinute {l : Launch} {D : va_G} {E : Nat → ClassId} {B : Nat → Prop} {n F : Nat} {T : Nat → Option (Nat × Nat)} {I : Nat → Nat → Int32} {J : Nat → Nat → Int64} {P : Nat → Nat → Option Nat} {a : Nat} {c : Nat} {v2 : Int32} {v3 : Int32} {r : (Nat → Nat → Int32)} (hs_a : isSt T P a) (hs_c : isCt T P c) (hf : s_playMinute F T I P a c v2 v3 = some r) : Ct l D E B yX8_playMinute cX8_playMinute 5 none 3 0 0 [.ref a, .ref c, .int v2, .int v3] (n, T, I, J, P) (Ret (none) (n, T, r, J, P)) := by
  unfold s_playMinute at hf
  refine Ct.ofV (by decide) (Nat.le_of_ble_eq_true rfl) ?_
  refine V.aload_n dX8_playMinute_0 rfl ?_
  refine V.aload_n dX8_playMinute_1 rfl ?_
  refine V.iload_n dX8_playMinute_2 rfl ?_
  obtain ⟨I3, hk2, hf⟩ := bnd_some hf
  try dsimp only at hf
  refine V.inv cv_X8_67 (c_ct_lookAtMinute hs_c hs_a hk2) dX8_playMinute_3 (hs_c.1.1 0 (1, 0) rfl) (by decide) rfl rfl rfl (Nat.le_of_ble_eq_true rfl) (by decide) (by decide) (Nat.le_refl _) (Nat.le_refl _) (fun _ _ hq => ?_)
  obtain ⟨rfl, rfl⟩ := hq
  refine V.iconst (v := 0) dX8_playMinute_6 (by decide) ?_
  refine V.istore dX8_playMinute_7 (by decide) (by first | exact rfl | exact trivial) ?_
  obtain ⟨⟨m25, I26⟩, hk24, hf⟩ := bnd_some hf
  try dsimp only at hf
  refine V.lo [(0, some (.ref a)), (1, some (.ref c)), (2, some (.int v2)), (3, some (.int v3)), (4, some (.int 0))] (by simp only [Subs]; repeat' first | exact trivial | constructor | rfl) (l_s_playMinute_9 hs_a hs_c _ F _ _ hk24 ?_)
  try dsimp only
  refine V.aload_n dX8_playMinute_69 rfl ?_
  refine V.dup dX8_playMinute_70 rfl ?_
  refine V.getf fl_X8_37 dX8_playMinute_71 (hs_a.1 0 (8, 0) rfl) (by decide) rfl ?_
  refine V.iconst (v := 1) dX8_playMinute_74 (by decide) ?_
  refine V.iadd dX8_playMinute_75 ?_
  refine V.putiE fl_X8_37 dX8_playMinute_76 (hs_a.1 0 (8, 0) rfl) (by decide) (fun h => by cases h) rfl rfl rfl (Nat.le_of_ble_eq_true rfl) (fun I27 e28 => ?_)
  rw [← e28] at hf
  try dsimp only at hf
  clear e28
  refine V.aload_n dX8_playMinute_79 rfl ?_
  refine V.dup dX8_playMinute_80 rfl ?_
  refine V.getf fl_X8_40 dX8_playMinute_81 (hs_a.1 0 (8, 0) rfl) (by decide) rfl ?_
  refine V.iconst (v := 1) dX8_playMinute_84 (by decide) ?_
  refine V.iadd dX8_playMinute_85 ?_
  refine V.putiE fl_X8_40 dX8_playMinute_86 (hs_a.1 0 (8, 0) rfl) (by decide) (fun h => by cases h) rfl rfl rfl (Nat.le_of_ble_eq_true rfl) (fun I29 e30 => ?_)
  rw [← e30] at hf
  try dsimp only at hf
  clear e30
  refine V.iconst (v := 0) dX8_playMinute_89 (by decide) ?_
  refine V.istore dX8_playMinute_90 (by decide) (by first | exact rfl | exact trivial) ?_
  obtain ⟨⟨m47, I48⟩, hk46, hf⟩ := bnd_some hf
  try dsimp only at hf
  refine V.lo [(0, some (.ref a)), (1, some (.ref c)), (2, some (.int v2)), (3, some (.int v3)), (4, some (.int 0))] (by simp only [Subs]; repeat' first | exact trivial | constructor | rfl) (l_s_playMinute_92 hs_a hs_c _ F _ _ hk46 ?_)
  try dsimp only
  obtain rfl := Option.some.inj hf
  exact V.vret dX8_playMinute_188 rfl (Nat.le_refl _) (Nat.le_refl _) ⟨rfl, rfl⟩
