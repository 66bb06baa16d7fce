theorem dX12_plain_0 : decode cX12_plain 0 = .ok (.iconst 0, 1) := by decide +kernel
theorem dX12_plain_1 : decode cX12_plain 1 = .ok (.istore_n 1, 1) := by decide +kernel
theorem dX12_plain_2 : decode cX12_plain 2 = .ok (.iload_n 1, 1) := by decide +kernel
theorem dX12_plain_3 : decode cX12_plain 3 = .ok (.sipush 1297, 3) := by decide +kernel
theorem dX12_plain_6 : decode cX12_plain 6 = .ok (.if_icmp .ge 13, 3) := by decide +kernel
theorem dX12_plain_9 : decode cX12_plain 9 = .ok (.aload_n 0, 1) := by decide +kernel
theorem dX12_plain_10 : decode cX12_plain 10 = .ok (.iload_n 1, 1) := by decide +kernel
theorem dX12_plain_11 : decode cX12_plain 11 = .ok (.iconst 0, 1) := by decide +kernel
theorem dX12_plain_12 : decode cX12_plain 12 = .ok (.iastore, 1) := by decide +kernel
theorem dX12_plain_13 : decode cX12_plain 13 = .ok (.iinc 1 1, 3) := by decide +kernel
theorem dX12_plain_16 : decode cX12_plain 16 = .ok (.goto (-14), 3) := by decide +kernel
theorem dX12_plain_19 : decode cX12_plain 19 = .ok (.return_, 1) := by decide +kernel
def r_plain_2 (F : Nat) (T : Nat → Option (Nat × Nat)) (qa : Nat) : Nat → Int32 → (Nat → Nat → Int32) → Option (Int32 × (Nat → Nat → Int32))
  | 0, _, _ => none
  | k + 1, l1, I => if 1297 ≤ l1 then (some (l1, I)) else (chk l1 (lenT T qa) (let I3 := uI I qa (Int32.toNatClampNeg l1) 0; r_plain_2 F T qa k (l1 + 1) I3))
def r_plain (F : Nat) (T : Nat → Option (Nat × Nat)) (I : Nat → Nat → Int32) (qa : Nat) : Option ((Nat → Nat → Int32)) := (r_plain_2 F T qa F 0 I).bind (fun q5 => let m7 := q5.1; let I8 := q5.2; some I8)
theorem l_r_plain_2 {l : Launch} {D : va_G} {E : Nat → ClassId} {B : Nat → Prop} {n F : Nat} {Q : Option Value → HT → Prop} {T : Nat → Option (Nat × Nat)} {J : Nat → Nat → Int64} {P : Nat → Nat → Option Nat} {qa : Nat}  (hs_qa : T qa = some (20, lenT T qa))  (r : Int32 × (Nat → Nat → Int32)) : ∀ (k : Nat) (l1 : Int32) (I : (Nat → Nat → Int32)), r_plain_2 F T qa k l1 I = some r → V l D E B yX12_plain cX12_plain 2 none 0 0 0 Q 0 0 (n, T, r.2, J, P) 19 [(0, some (.ref qa)), (1, some (.int (r.1)))] [] → V l D E B yX12_plain cX12_plain 2 none 0 0 0 Q 0 0 (n, T, I, J, P) 2 [(0, some (.ref qa)), (1, some (.int l1))] [] := by
  intro k
  induction k with
  | zero =>
    intro l1 I hf hk
    cases hf
  | succ k ih =>
    intro l1 I hf hk
    unfold r_plain_2 at hf
    refine V.iload_n dX12_plain_2 rfl ?_
    refine V.sipush (v := 1297) dX12_plain_3 (by decide) ?_
    refine V.icmp_ge 19 dX12_plain_6 (by decide) (fun c1 => ?_) (fun c1 => ?_)
    · rw [if_pos c1] at hf
      obtain rfl := Option.some.inj hf
      exact V.lo [(0, some (.ref qa)), (1, some (.int l1))] (by simp only [Subs]; repeat' first | exact trivial | constructor | rfl) hk
    · rw [if_neg c1] at hf
      refine V.aload_n dX12_plain_9 rfl ?_
      refine V.iload_n dX12_plain_10 rfl ?_
      refine V.iconst (v := 0) dX12_plain_11 (by decide) ?_
      obtain ⟨hb2, hf⟩ := chk_some hf
      refine V.iastE dX12_plain_12 hs_qa hb2 (fun I3 e4 => ?_)
      rw [← e4] at hf
      try dsimp only at hf
      clear e4
      refine V.iinc (v := (l1 + 1)) dX12_plain_13 rfl rfl (by first | exact rfl | exact trivial) ?_
      refine V.goto 2 dX12_plain_16 (by decide) ?_
      exact V.lo [(0, some (.ref qa)), (1, some (.int (l1 + 1)))] (by simp only [Subs]; repeat' first | exact trivial | constructor | rfl) (ih _ _ hf hk)
theorem c_r_plain {l : Launch} {D : va_G} {E : Nat → ClassId} {B : Nat → Prop} {n F : Nat} {T : Nat → Option (Nat × Nat)} {I : Nat → Nat → Int32} {J : Nat → Nat → Int64} {P : Nat → Nat → Option Nat} {qa : Nat}  {r : (Nat → Nat → Int32)} (hs_qa : T qa = some (20, lenT T qa)) (hf : r_plain F T I qa = some r) : Ct l D E B yX12_plain cX12_plain 2 none 0 0 0 [.ref qa] (n, T, I, J, P) (Ret (none) (n, T, r, J, P)) := by
  unfold r_plain at hf
  refine Ct.ofV (by decide) (Nat.le_of_ble_eq_true rfl) ?_
  refine V.iconst (v := 0) dX12_plain_0 (by decide) ?_
  refine V.istore_n dX12_plain_1 rfl (by decide) (by first | exact rfl | exact trivial) ?_
  obtain ⟨⟨m7, I8⟩, hk6, hf⟩ := bnd_some hf
  try dsimp only at hf
  refine V.lo [(0, some (.ref qa)), (1, some (.int 0))] (by simp only [Subs]; repeat' first | exact trivial | constructor | rfl) (l_r_plain_2 hs_qa _ F _ _ hk6 ?_)
  try dsimp only
  obtain rfl := Option.some.inj hf
  exact V.vret dX12_plain_19 rfl (Nat.le_refl _) (Nat.le_refl _) ⟨rfl, rfl⟩
theorem dX12_feed_0 : decode cX12_feed 0 = .ok (.aload_n 0, 1) := by decide +kernel
theorem dX12_feed_1 : decode cX12_feed 1 = .ok (.iconst 0, 1) := by decide +kernel
theorem dX12_feed_2 : decode cX12_feed 2 = .ok (.putfield 1, 3) := by decide +kernel
theorem dX12_feed_5 : decode cX12_feed 5 = .ok (.aload_n 0, 1) := by decide +kernel
theorem dX12_feed_6 : decode cX12_feed 6 = .ok (.getfield 83, 3) := by decide +kernel
theorem dX12_feed_9 : decode cX12_feed 9 = .ok (.bipush 20, 2) := by decide +kernel
theorem dX12_feed_11 : decode cX12_feed 11 = .ok (.iadd, 1) := by decide +kernel
theorem dX12_feed_12 : decode cX12_feed 12 = .ok (.sipush 900, 3) := by decide +kernel
theorem dX12_feed_15 : decode cX12_feed 15 = .ok (.if_icmp .le 6, 3) := by decide +kernel
theorem dX12_feed_18 : decode cX12_feed 18 = .ok (.bipush (-5), 2) := by decide +kernel
theorem dX12_feed_20 : decode cX12_feed 20 = .ok (.ireturn, 1) := by decide +kernel
theorem dX12_feed_21 : decode cX12_feed 21 = .ok (.iconst 0, 1) := by decide +kernel
theorem dX12_feed_22 : decode cX12_feed 22 = .ok (.istore 6, 2) := by decide +kernel
theorem dX12_feed_24 : decode cX12_feed 24 = .ok (.iload 6, 2) := by decide +kernel
theorem dX12_feed_26 : decode cX12_feed 26 = .ok (.bipush 20, 2) := by decide +kernel
theorem dX12_feed_28 : decode cX12_feed 28 = .ok (.if_icmp .ge 93, 3) := by decide +kernel
theorem dX12_feed_31 : decode cX12_feed 31 = .ok (.iload 6, 2) := by decide +kernel
theorem dX12_feed_33 : decode cX12_feed 33 = .ok (.iconst 4, 1) := by decide +kernel
theorem dX12_feed_34 : decode cX12_feed 34 = .ok (.if_icmp .ge 7, 3) := by decide +kernel
theorem dX12_feed_37 : decode cX12_feed 37 = .ok (.iload_n 1, 1) := by decide +kernel
theorem dX12_feed_38 : decode cX12_feed 38 = .ok (.goto 39, 3) := by decide +kernel
theorem dX12_feed_41 : decode cX12_feed 41 = .ok (.iload 6, 2) := by decide +kernel
theorem dX12_feed_43 : decode cX12_feed 43 = .ok (.bipush 8, 2) := by decide +kernel
theorem dX12_feed_45 : decode cX12_feed 45 = .ok (.if_icmp .ge 7, 3) := by decide +kernel
theorem dX12_feed_48 : decode cX12_feed 48 = .ok (.iload_n 2, 1) := by decide +kernel
theorem dX12_feed_49 : decode cX12_feed 49 = .ok (.goto 28, 3) := by decide +kernel
theorem dX12_feed_52 : decode cX12_feed 52 = .ok (.iload 6, 2) := by decide +kernel
theorem dX12_feed_54 : decode cX12_feed 54 = .ok (.bipush 12, 2) := by decide +kernel
theorem dX12_feed_56 : decode cX12_feed 56 = .ok (.if_icmp .ge 7, 3) := by decide +kernel
theorem dX12_feed_59 : decode cX12_feed 59 = .ok (.iload_n 3, 1) := by decide +kernel
theorem dX12_feed_60 : decode cX12_feed 60 = .ok (.goto 17, 3) := by decide +kernel
theorem dX12_feed_63 : decode cX12_feed 63 = .ok (.iload 6, 2) := by decide +kernel
theorem dX12_feed_65 : decode cX12_feed 65 = .ok (.bipush 16, 2) := by decide +kernel
theorem dX12_feed_67 : decode cX12_feed 67 = .ok (.if_icmp .ge 8, 3) := by decide +kernel
theorem dX12_feed_70 : decode cX12_feed 70 = .ok (.iload 4, 2) := by decide +kernel
theorem dX12_feed_72 : decode cX12_feed 72 = .ok (.goto 5, 3) := by decide +kernel
theorem dX12_feed_75 : decode cX12_feed 75 = .ok (.iload 5, 2) := by decide +kernel
theorem dX12_feed_77 : decode cX12_feed 77 = .ok (.istore 7, 2) := by decide +kernel
theorem dX12_feed_79 : decode cX12_feed 79 = .ok (.aload_n 0, 1) := by decide +kernel
theorem dX12_feed_80 : decode cX12_feed 80 = .ok (.getfield 21, 3) := by decide +kernel
theorem dX12_feed_83 : decode cX12_feed 83 = .ok (.aload_n 0, 1) := by decide +kernel
theorem dX12_feed_84 : decode cX12_feed 84 = .ok (.getfield 83, 3) := by decide +kernel
theorem dX12_feed_87 : decode cX12_feed 87 = .ok (.iload 7, 2) := by decide +kernel
theorem dX12_feed_89 : decode cX12_feed 89 = .ok (.bipush 24, 2) := by decide +kernel
theorem dX12_feed_91 : decode cX12_feed 91 = .ok (.bipush 8, 2) := by decide +kernel
theorem dX12_feed_93 : decode cX12_feed 93 = .ok (.iload 6, 2) := by decide +kernel
theorem dX12_feed_95 : decode cX12_feed 95 = .ok (.iconst 4, 1) := by decide +kernel
theorem dX12_feed_96 : decode cX12_feed 96 = .ok (.irem, 1) := by decide +kernel
theorem dX12_feed_97 : decode cX12_feed 97 = .ok (.imul, 1) := by decide +kernel
theorem dX12_feed_98 : decode cX12_feed 98 = .ok (.isub, 1) := by decide +kernel
theorem dX12_feed_99 : decode cX12_feed 99 = .ok (.ishr, 1) := by decide +kernel
theorem dX12_feed_100 : decode cX12_feed 100 = .ok (.sipush 255, 3) := by decide +kernel
theorem dX12_feed_103 : decode cX12_feed 103 = .ok (.iand, 1) := by decide +kernel
theorem dX12_feed_104 : decode cX12_feed 104 = .ok (.iastore, 1) := by decide +kernel
theorem dX12_feed_105 : decode cX12_feed 105 = .ok (.aload_n 0, 1) := by decide +kernel
theorem dX12_feed_106 : decode cX12_feed 106 = .ok (.dup, 1) := by decide +kernel
theorem dX12_feed_107 : decode cX12_feed 107 = .ok (.getfield 83, 3) := by decide +kernel
theorem dX12_feed_110 : decode cX12_feed 110 = .ok (.iconst 1, 1) := by decide +kernel
theorem dX12_feed_111 : decode cX12_feed 111 = .ok (.iadd, 1) := by decide +kernel
theorem dX12_feed_112 : decode cX12_feed 112 = .ok (.putfield 83, 3) := by decide +kernel
theorem dX12_feed_115 : decode cX12_feed 115 = .ok (.iinc 6 1, 3) := by decide +kernel
theorem dX12_feed_118 : decode cX12_feed 118 = .ok (.goto (-94), 3) := by decide +kernel
theorem dX12_feed_121 : decode cX12_feed 121 = .ok (.aload_n 0, 1) := by decide +kernel
theorem dX12_feed_122 : decode cX12_feed 122 = .ok (.getfield 83, 3) := by decide +kernel
theorem dX12_feed_125 : decode cX12_feed 125 = .ok (.ireturn, 1) := by decide +kernel
def r_feed_24 (F : Nat) (z : Nat) (g1 : Int32) (g2 : Int32) (g3 : Int32) (g4 : Int32) (g5 : Int32) : Nat → Int32 → (Nat → Nat → Int32) → Option (Int32 × (Nat → Nat → Int32))
  | 0, _, _ => none
  | k + 1, l6, I => if 20 ≤ l6 then (some (l6, I)) else (if 4 ≤ l6 then (if 8 ≤ l6 then (if 12 ≤ l6 then (if 16 ≤ l6 then (chk (I z 5) 900 (let I10 := uI I (z + 3) (Int32.toNatClampNeg (I z 5)) ((g5 >>> ((24 - (8 * (l6 - l6 / 4 * 4))) &&& 31)) &&& 255); let I12 := uI I10 z 5 ((I10 z 5) + 1); r_feed_24 F z g1 g2 g3 g4 g5 k (l6 + 1) I12)) else (chk (I z 5) 900 (let I15 := uI I (z + 3) (Int32.toNatClampNeg (I z 5)) ((g4 >>> ((24 - (8 * (l6 - l6 / 4 * 4))) &&& 31)) &&& 255); let I17 := uI I15 z 5 ((I15 z 5) + 1); r_feed_24 F z g1 g2 g3 g4 g5 k (l6 + 1) I17))) else (chk (I z 5) 900 (let I20 := uI I (z + 3) (Int32.toNatClampNeg (I z 5)) ((g3 >>> ((24 - (8 * (l6 - l6 / 4 * 4))) &&& 31)) &&& 255); let I22 := uI I20 z 5 ((I20 z 5) + 1); r_feed_24 F z g1 g2 g3 g4 g5 k (l6 + 1) I22))) else (chk (I z 5) 900 (let I25 := uI I (z + 3) (Int32.toNatClampNeg (I z 5)) ((g2 >>> ((24 - (8 * (l6 - l6 / 4 * 4))) &&& 31)) &&& 255); let I27 := uI I25 z 5 ((I25 z 5) + 1); r_feed_24 F z g1 g2 g3 g4 g5 k (l6 + 1) I27))) else (chk (I z 5) 900 (let I30 := uI I (z + 3) (Int32.toNatClampNeg (I z 5)) ((g1 >>> ((24 - (8 * (l6 - l6 / 4 * 4))) &&& 31)) &&& 255); let I32 := uI I30 z 5 ((I30 z 5) + 1); r_feed_24 F z g1 g2 g3 g4 g5 k (l6 + 1) I32)))
def r_feed (F : Nat) (I : Nat → Nat → Int32) (z : Nat) (v1 : Int32) (v2 : Int32) (v3 : Int32) (v4 : Int32) (v5 : Int32) : Option (Int32 × (Nat → Nat → Int32)) := let I1 := uI I z 0 0; if ((I1 z 5) + 20) ≤ 900 then ((r_feed_24 F z v1 v2 v3 v4 v5 F 0 I1).bind (fun q34 => let m36 := q34.1; let I37 := q34.2; some ((I37 z 5), I37))) else (some ((-5), I1))
theorem l_r_feed_24 {l : Launch} {D : va_G} {E : Nat → ClassId} {B : Nat → Prop} {n F : Nat} {Q : Option Value → HT → Prop} {T : Nat → Option (Nat × Nat)} {J : Nat → Nat → Int64} {P : Nat → Nat → Option Nat} {z : Nat} {g1 : Int32} {g2 : Int32} {g3 : Int32} {g4 : Int32} {g5 : Int32} (hs_z : isMd T P z)  (r : Int32 × (Nat → Nat → Int32)) : ∀ (k : Nat) (l6 : Int32) (I : (Nat → Nat → Int32)), r_feed_24 F z g1 g2 g3 g4 g5 k l6 I = some r → V l D E B yX12_feed cX12_feed 8 (some .int) 0 0 0 Q 0 0 (n, T, r.2, J, P) 121 [(0, some (.ref z)), (1, some (.int g1)), (2, some (.int g2)), (3, some (.int g3)), (4, some (.int g4)), (5, some (.int g5)), (6, some (.int (r.1)))] [] → V l D E B yX12_feed cX12_feed 8 (some .int) 0 0 0 Q 0 0 (n, T, I, J, P) 24 [(0, some (.ref z)), (1, some (.int g1)), (2, some (.int g2)), (3, some (.int g3)), (4, some (.int g4)), (5, some (.int g5)), (6, some (.int l6))] [] := by
  intro k
  induction k with
  | zero =>
    intro l6 I hf hk
    cases hf
  | succ k ih =>
    intro l6 I hf hk
    unfold r_feed_24 at hf
    refine V.iload dX12_feed_24 rfl ?_
    refine V.bipush (v := 20) dX12_feed_26 (by decide) ?_
    refine V.icmp_ge 121 dX12_feed_28 (by decide) (fun c4 => ?_) (fun c4 => ?_)
    · rw [if_pos c4] at hf
      obtain rfl := Option.some.inj hf
      exact V.lo [(0, some (.ref z)), (1, some (.int g1)), (2, some (.int g2)), (3, some (.int g3)), (4, some (.int g4)), (5, some (.int g5)), (6, some (.int l6))] (by simp only [Subs]; repeat' first | exact trivial | constructor | rfl) hk
    · rw [if_neg c4] at hf
      refine V.iload dX12_feed_31 rfl ?_
      refine V.iconst (v := 4) dX12_feed_33 (by decide) ?_
      refine V.icmp_ge 41 dX12_feed_34 (by decide) (fun c5 => ?_) (fun c5 => ?_)
      · rw [if_pos c5] at hf
        refine V.iload dX12_feed_41 rfl ?_
        refine V.bipush (v := 8) dX12_feed_43 (by decide) ?_
        refine V.icmp_ge 52 dX12_feed_45 (by decide) (fun c6 => ?_) (fun c6 => ?_)
        · rw [if_pos c6] at hf
          refine V.iload dX12_feed_52 rfl ?_
          refine V.bipush (v := 12) dX12_feed_54 (by decide) ?_
          refine V.icmp_ge 63 dX12_feed_56 (by decide) (fun c7 => ?_) (fun c7 => ?_)
          · rw [if_pos c7] at hf
            refine V.iload dX12_feed_63 rfl ?_
            refine V.bipush (v := 16) dX12_feed_65 (by decide) ?_
            refine V.icmp_ge 75 dX12_feed_67 (by decide) (fun c8 => ?_) (fun c8 => ?_)
            · rw [if_pos c8] at hf
              refine V.iload dX12_feed_75 rfl ?_
              refine V.istore dX12_feed_77 (by decide) (by first | exact rfl | exact trivial) ?_
              refine V.aload_n dX12_feed_79 rfl ?_
              refine V.getr fl_X12_21 dX12_feed_80 (hs_z.1 0 (12, 0) rfl) (hs_z.2 0 3 3 rfl) (by decide) rfl ?_
              refine V.aload_n dX12_feed_83 rfl ?_
              refine V.getf fl_X12_83 dX12_feed_84 (hs_z.1 0 (12, 0) rfl) (by decide) rfl ?_
              refine V.iload dX12_feed_87 rfl ?_
              refine V.bipush (v := 24) dX12_feed_89 (by decide) ?_
              refine V.bipush (v := 8) dX12_feed_91 (by decide) ?_
              refine V.iload dX12_feed_93 rfl ?_
              refine V.iconst (v := 4) dX12_feed_95 (by decide) ?_
              refine V.irem dX12_feed_96 (by decide) ?_
              refine V.imul dX12_feed_97 ?_
              refine V.isub dX12_feed_98 ?_
              refine V.ishr dX12_feed_99 ?_
              refine V.sipush (v := 255) dX12_feed_100 (by decide) ?_
              refine V.iand dX12_feed_103 ?_
              obtain ⟨hb9, hf⟩ := chk_some hf
              refine V.iastE dX12_feed_104 (hs_z.1 3 (20, 900) rfl) hb9 (fun I10 e11 => ?_)
              rw [← e11] at hf
              try dsimp only at hf
              clear e11
              refine V.aload_n dX12_feed_105 rfl ?_
              refine V.dup dX12_feed_106 rfl ?_
              refine V.getf fl_X12_83 dX12_feed_107 (hs_z.1 0 (12, 0) rfl) (by decide) rfl ?_
              refine V.iconst (v := 1) dX12_feed_110 (by decide) ?_
              refine V.iadd dX12_feed_111 ?_
              refine V.putiE fl_X12_83 dX12_feed_112 (hs_z.1 0 (12, 0) rfl) (by decide) (fun h => by cases h) rfl rfl rfl (Nat.le_of_ble_eq_true rfl) (fun I12 e13 => ?_)
              rw [← e13] at hf
              try dsimp only at hf
              clear e13
              refine V.iinc (v := (l6 + 1)) dX12_feed_115 rfl rfl (by first | exact rfl | exact trivial) ?_
              refine V.goto 24 dX12_feed_118 (by decide) ?_
              exact V.lo [(0, some (.ref z)), (1, some (.int g1)), (2, some (.int g2)), (3, some (.int g3)), (4, some (.int g4)), (5, some (.int g5)), (6, some (.int (l6 + 1)))] (by simp only [Subs]; repeat' first | exact trivial | constructor | rfl) (ih _ _ hf hk)
            · rw [if_neg c8] at hf
              refine V.iload dX12_feed_70 rfl ?_
              refine V.goto 77 dX12_feed_72 (by decide) ?_
              refine V.istore dX12_feed_77 (by decide) (by first | exact rfl | exact trivial) ?_
              refine V.aload_n dX12_feed_79 rfl ?_
              refine V.getr fl_X12_21 dX12_feed_80 (hs_z.1 0 (12, 0) rfl) (hs_z.2 0 3 3 rfl) (by decide) rfl ?_
              refine V.aload_n dX12_feed_83 rfl ?_
              refine V.getf fl_X12_83 dX12_feed_84 (hs_z.1 0 (12, 0) rfl) (by decide) rfl ?_
              refine V.iload dX12_feed_87 rfl ?_
              refine V.bipush (v := 24) dX12_feed_89 (by decide) ?_
              refine V.bipush (v := 8) dX12_feed_91 (by decide) ?_
              refine V.iload dX12_feed_93 rfl ?_
              refine V.iconst (v := 4) dX12_feed_95 (by decide) ?_
              refine V.irem dX12_feed_96 (by decide) ?_
              refine V.imul dX12_feed_97 ?_
              refine V.isub dX12_feed_98 ?_
              refine V.ishr dX12_feed_99 ?_
              refine V.sipush (v := 255) dX12_feed_100 (by decide) ?_
              refine V.iand dX12_feed_103 ?_
              obtain ⟨hb14, hf⟩ := chk_some hf
              refine V.iastE dX12_feed_104 (hs_z.1 3 (20, 900) rfl) hb14 (fun I15 e16 => ?_)
              rw [← e16] at hf
              try dsimp only at hf
              clear e16
              refine V.aload_n dX12_feed_105 rfl ?_
              refine V.dup dX12_feed_106 rfl ?_
              refine V.getf fl_X12_83 dX12_feed_107 (hs_z.1 0 (12, 0) rfl) (by decide) rfl ?_
              refine V.iconst (v := 1) dX12_feed_110 (by decide) ?_
              refine V.iadd dX12_feed_111 ?_
              refine V.putiE fl_X12_83 dX12_feed_112 (hs_z.1 0 (12, 0) rfl) (by decide) (fun h => by cases h) rfl rfl rfl (Nat.le_of_ble_eq_true rfl) (fun I17 e18 => ?_)
              rw [← e18] at hf
              try dsimp only at hf
              clear e18
              refine V.iinc (v := (l6 + 1)) dX12_feed_115 rfl rfl (by first | exact rfl | exact trivial) ?_
              refine V.goto 24 dX12_feed_118 (by decide) ?_
              exact V.lo [(0, some (.ref z)), (1, some (.int g1)), (2, some (.int g2)), (3, some (.int g3)), (4, some (.int g4)), (5, some (.int g5)), (6, some (.int (l6 + 1)))] (by simp only [Subs]; repeat' first | exact trivial | constructor | rfl) (ih _ _ hf hk)
          · rw [if_neg c7] at hf
            refine V.iload_n dX12_feed_59 rfl ?_
            refine V.goto 77 dX12_feed_60 (by decide) ?_
            refine V.istore dX12_feed_77 (by decide) (by first | exact rfl | exact trivial) ?_
            refine V.aload_n dX12_feed_79 rfl ?_
            refine V.getr fl_X12_21 dX12_feed_80 (hs_z.1 0 (12, 0) rfl) (hs_z.2 0 3 3 rfl) (by decide) rfl ?_
            refine V.aload_n dX12_feed_83 rfl ?_
            refine V.getf fl_X12_83 dX12_feed_84 (hs_z.1 0 (12, 0) rfl) (by decide) rfl ?_
            refine V.iload dX12_feed_87 rfl ?_
            refine V.bipush (v := 24) dX12_feed_89 (by decide) ?_
            refine V.bipush (v := 8) dX12_feed_91 (by decide) ?_
            refine V.iload dX12_feed_93 rfl ?_
            refine V.iconst (v := 4) dX12_feed_95 (by decide) ?_
            refine V.irem dX12_feed_96 (by decide) ?_
            refine V.imul dX12_feed_97 ?_
            refine V.isub dX12_feed_98 ?_
            refine V.ishr dX12_feed_99 ?_
            refine V.sipush (v := 255) dX12_feed_100 (by decide) ?_
            refine V.iand dX12_feed_103 ?_
            obtain ⟨hb19, hf⟩ := chk_some hf
            refine V.iastE dX12_feed_104 (hs_z.1 3 (20, 900) rfl) hb19 (fun I20 e21 => ?_)
            rw [← e21] at hf
            try dsimp only at hf
            clear e21
            refine V.aload_n dX12_feed_105 rfl ?_
            refine V.dup dX12_feed_106 rfl ?_
            refine V.getf fl_X12_83 dX12_feed_107 (hs_z.1 0 (12, 0) rfl) (by decide) rfl ?_
            refine V.iconst (v := 1) dX12_feed_110 (by decide) ?_
            refine V.iadd dX12_feed_111 ?_
            refine V.putiE fl_X12_83 dX12_feed_112 (hs_z.1 0 (12, 0) rfl) (by decide) (fun h => by cases h) rfl rfl rfl (Nat.le_of_ble_eq_true rfl) (fun I22 e23 => ?_)
            rw [← e23] at hf
            try dsimp only at hf
            clear e23
            refine V.iinc (v := (l6 + 1)) dX12_feed_115 rfl rfl (by first | exact rfl | exact trivial) ?_
            refine V.goto 24 dX12_feed_118 (by decide) ?_
            exact V.lo [(0, some (.ref z)), (1, some (.int g1)), (2, some (.int g2)), (3, some (.int g3)), (4, some (.int g4)), (5, some (.int g5)), (6, some (.int (l6 + 1)))] (by simp only [Subs]; repeat' first | exact trivial | constructor | rfl) (ih _ _ hf hk)
        · rw [if_neg c6] at hf
          refine V.iload_n dX12_feed_48 rfl ?_
          refine V.goto 77 dX12_feed_49 (by decide) ?_
          refine V.istore dX12_feed_77 (by decide) (by first | exact rfl | exact trivial) ?_
          refine V.aload_n dX12_feed_79 rfl ?_
          refine V.getr fl_X12_21 dX12_feed_80 (hs_z.1 0 (12, 0) rfl) (hs_z.2 0 3 3 rfl) (by decide) rfl ?_
          refine V.aload_n dX12_feed_83 rfl ?_
          refine V.getf fl_X12_83 dX12_feed_84 (hs_z.1 0 (12, 0) rfl) (by decide) rfl ?_
          refine V.iload dX12_feed_87 rfl ?_
          refine V.bipush (v := 24) dX12_feed_89 (by decide) ?_
          refine V.bipush (v := 8) dX12_feed_91 (by decide) ?_
          refine V.iload dX12_feed_93 rfl ?_
          refine V.iconst (v := 4) dX12_feed_95 (by decide) ?_
          refine V.irem dX12_feed_96 (by decide) ?_
          refine V.imul dX12_feed_97 ?_
          refine V.isub dX12_feed_98 ?_
          refine V.ishr dX12_feed_99 ?_
          refine V.sipush (v := 255) dX12_feed_100 (by decide) ?_
          refine V.iand dX12_feed_103 ?_
          obtain ⟨hb24, hf⟩ := chk_some hf
          refine V.iastE dX12_feed_104 (hs_z.1 3 (20, 900) rfl) hb24 (fun I25 e26 => ?_)
          rw [← e26] at hf
          try dsimp only at hf
          clear e26
          refine V.aload_n dX12_feed_105 rfl ?_
          refine V.dup dX12_feed_106 rfl ?_
          refine V.getf fl_X12_83 dX12_feed_107 (hs_z.1 0 (12, 0) rfl) (by decide) rfl ?_
          refine V.iconst (v := 1) dX12_feed_110 (by decide) ?_
          refine V.iadd dX12_feed_111 ?_
          refine V.putiE fl_X12_83 dX12_feed_112 (hs_z.1 0 (12, 0) rfl) (by decide) (fun h => by cases h) rfl rfl rfl (Nat.le_of_ble_eq_true rfl) (fun I27 e28 => ?_)
          rw [← e28] at hf
          try dsimp only at hf
          clear e28
          refine V.iinc (v := (l6 + 1)) dX12_feed_115 rfl rfl (by first | exact rfl | exact trivial) ?_
          refine V.goto 24 dX12_feed_118 (by decide) ?_
          exact V.lo [(0, some (.ref z)), (1, some (.int g1)), (2, some (.int g2)), (3, some (.int g3)), (4, some (.int g4)), (5, some (.int g5)), (6, some (.int (l6 + 1)))] (by simp only [Subs]; repeat' first | exact trivial | constructor | rfl) (ih _ _ hf hk)
      · rw [if_neg c5] at hf
        refine V.iload_n dX12_feed_37 rfl ?_
        refine V.goto 77 dX12_feed_38 (by decide) ?_
        refine V.istore dX12_feed_77 (by decide) (by first | exact rfl | exact trivial) ?_
        refine V.aload_n dX12_feed_79 rfl ?_
        refine V.getr fl_X12_21 dX12_feed_80 (hs_z.1 0 (12, 0) rfl) (hs_z.2 0 3 3 rfl) (by decide) rfl ?_
        refine V.aload_n dX12_feed_83 rfl ?_
        refine V.getf fl_X12_83 dX12_feed_84 (hs_z.1 0 (12, 0) rfl) (by decide) rfl ?_
        refine V.iload dX12_feed_87 rfl ?_
        refine V.bipush (v := 24) dX12_feed_89 (by decide) ?_
        refine V.bipush (v := 8) dX12_feed_91 (by decide) ?_
        refine V.iload dX12_feed_93 rfl ?_
        refine V.iconst (v := 4) dX12_feed_95 (by decide) ?_
        refine V.irem dX12_feed_96 (by decide) ?_
        refine V.imul dX12_feed_97 ?_
        refine V.isub dX12_feed_98 ?_
        refine V.ishr dX12_feed_99 ?_
        refine V.sipush (v := 255) dX12_feed_100 (by decide) ?_
        refine V.iand dX12_feed_103 ?_
        obtain ⟨hb29, hf⟩ := chk_some hf
        refine V.iastE dX12_feed_104 (hs_z.1 3 (20, 900) rfl) hb29 (fun I30 e31 => ?_)
        rw [← e31] at hf
        try dsimp only at hf
        clear e31
        refine V.aload_n dX12_feed_105 rfl ?_
        refine V.dup dX12_feed_106 rfl ?_
        refine V.getf fl_X12_83 dX12_feed_107 (hs_z.1 0 (12, 0) rfl) (by decide) rfl ?_
        refine V.iconst (v := 1) dX12_feed_110 (by decide) ?_
        refine V.iadd dX12_feed_111 ?_
        refine V.putiE fl_X12_83 dX12_feed_112 (hs_z.1 0 (12, 0) rfl) (by decide) (fun h => by cases h) rfl rfl rfl (Nat.le_of_ble_eq_true rfl) (fun I32 e33 => ?_)
        rw [← e33] at hf
        try dsimp only at hf
        clear e33
        refine V.iinc (v := (l6 + 1)) dX12_feed_115 rfl rfl (by first | exact rfl | exact trivial) ?_
        refine V.goto 24 dX12_feed_118 (by decide) ?_
        exact V.lo [(0, some (.ref z)), (1, some (.int g1)), (2, some (.int g2)), (3, some (.int g3)), (4, some (.int g4)), (5, some (.int g5)), (6, some (.int (l6 + 1)))] (by simp only [Subs]; repeat' first | exact trivial | constructor | rfl) (ih _ _ hf hk)
theorem c_r_feed {l : Launch} {D : va_G} {E : Nat → ClassId} {B : Nat → Prop} {n F : Nat} {T : Nat → Option (Nat × Nat)} {I : Nat → Nat → Int32} {J : Nat → Nat → Int64} {P : Nat → Nat → Option Nat} {z : Nat} {v1 : Int32} {v2 : Int32} {v3 : Int32} {v4 : Int32} {v5 : Int32} {r : Int32 × (Nat → Nat → Int32)} (hs_z : isMd T P z) (hf : r_feed F I z v1 v2 v3 v4 v5 = some r) : Ct l D E B yX12_feed cX12_feed 8 (some .int) 0 0 0 [.ref z, .int v1, .int v2, .int v3, .int v4, .int v5] (n, T, I, J, P) (Ret (some (.int r.1)) (n, T, r.2, J, P)) := by
  unfold r_feed at hf
  refine Ct.ofV (by decide) (Nat.le_of_ble_eq_true rfl) ?_
  refine V.aload_n dX12_feed_0 rfl ?_
  refine V.iconst (v := 0) dX12_feed_1 (by decide) ?_
  refine V.putiE fl_X12_1 dX12_feed_2 (hs_z.1 0 (12, 0) rfl) (by decide) (fun h => by cases h) rfl rfl rfl (Nat.le_of_ble_eq_true rfl) (fun I1 e2 => ?_)
  rw [← e2] at hf
  try dsimp only at hf
  clear e2
  refine V.aload_n dX12_feed_5 rfl ?_
  refine V.getf fl_X12_83 dX12_feed_6 (hs_z.1 0 (12, 0) rfl) (by decide) rfl ?_
  refine V.bipush (v := 20) dX12_feed_9 (by decide) ?_
  refine V.iadd dX12_feed_11 ?_
  refine V.sipush (v := 900) dX12_feed_12 (by decide) ?_
  refine V.icmp_le 21 dX12_feed_15 (by decide) (fun c3 => ?_) (fun c3 => ?_)
  · rw [if_pos c3] at hf
    refine V.iconst (v := 0) dX12_feed_21 (by decide) ?_
    refine V.istore dX12_feed_22 (by decide) (by first | exact rfl | exact trivial) ?_
    obtain ⟨⟨m36, I37⟩, hk35, hf⟩ := bnd_some hf
    try dsimp only at hf
    refine V.lo [(0, some (.ref z)), (1, some (.int v1)), (2, some (.int v2)), (3, some (.int v3)), (4, some (.int v4)), (5, some (.int v5)), (6, some (.int 0))] (by simp only [Subs]; repeat' first | exact trivial | constructor | rfl) (l_r_feed_24 hs_z _ F _ _ hk35 ?_)
    try dsimp only
    refine V.aload_n dX12_feed_121 rfl ?_
    refine V.getf fl_X12_83 dX12_feed_122 (hs_z.1 0 (12, 0) rfl) (by decide) rfl ?_
    obtain rfl := Option.some.inj hf
    exact V.iret dX12_feed_125 rfl (Nat.le_refl _) (Nat.le_refl _) ⟨rfl, rfl⟩
  · rw [if_neg c3] at hf
    refine V.bipush (v := -5) dX12_feed_18 (by decide) ?_
    obtain rfl := Option.some.inj hf
    exact V.iret dX12_feed_20 rfl (Nat.le_refl _) (Nat.le_refl _) ⟨rfl, rfl⟩
theorem dX12_common_0 : decode cX12_common 0 = .ok (.lload_n 2, 1) := by decide +kernel
theorem dX12_common_1 : decode cX12_common 1 = .ok (.lconst 0, 1) := by decide +kernel
theorem dX12_common_2 : decode cX12_common 2 = .ok (.lcmp, 1) := by decide +kernel
theorem dX12_common_3 : decode cX12_common 3 = .ok (.ifCond .ne 7, 3) := by decide +kernel
theorem dX12_common_6 : decode cX12_common 6 = .ok (.lload_n 0, 1) := by decide +kernel
theorem dX12_common_7 : decode cX12_common 7 = .ok (.goto 10, 3) := by decide +kernel
theorem dX12_common_10 : decode cX12_common 10 = .ok (.lload_n 2, 1) := by decide +kernel
theorem dX12_common_11 : decode cX12_common 11 = .ok (.lload_n 0, 1) := by decide +kernel
theorem dX12_common_12 : decode cX12_common 12 = .ok (.lload_n 2, 1) := by decide +kernel
theorem dX12_common_13 : decode cX12_common 13 = .ok (.lrem, 1) := by decide +kernel
theorem dX12_common_14 : decode cX12_common 14 = .ok (.invokestatic 445, 3) := by decide +kernel
theorem dX12_common_17 : decode cX12_common 17 = .ok (.lreturn, 1) := by decide +kernel
def r_commonB (rec : Int64 → Int64 → Option (Int64)) (F : Nat) (v0 : Int64) (v2 : Int64) : Option (Int64) := if (lg_cmp v2 0) = 0 then (some v0) else (nzl v2 ((rec v2 (v0 - v0 / v2 * v2)).bind (fun q3 => let u5 := q3; some u5)))
def r_common (F : Nat) : Nat → Int64 → Int64 → Option (Int64)
  | 0, _, _ => none
  | kr + 1, a0, a1 => r_commonB (r_common F kr) F a0 a1
def r_common_H (l : Launch) (D : va_G) (E : Nat → ClassId) (B : Nat → Prop) (n F : Nat) (T : Nat → Option (Nat × Nat)) (I : Nat → Nat → Int32) (J : Nat → Nat → Int64) (P : Nat → Nat → Option Nat)  (k : Nat) : Prop := (∀ {a0 : Int64} {a1 : Int64} {r : Int64}, r_common F k a0 a1 = some r → Ct l D E B yX12_common cX12_common 4 (some .long) (0 + k) 0 0 [.long a0, .long a1] (n, T, I, J, P) (Ret (some (.long r)) (n, T, I, J, P)))
theorem s_r_commonB {l : Launch} {D : va_G} {E : Nat → ClassId} {B : Nat → Prop} {n F : Nat} {T : Nat → Option (Nat × Nat)} {I : Nat → Nat → Int32} {J : Nat → Nat → Int64} {P : Nat → Nat → Option Nat}  {kr : Nat} (ih0 : r_common_H l D E B n F T I J P kr) {v0 : Int64} {v2 : Int64} {r : Int64}  (hf : r_commonB (r_common F kr) F v0 v2 = some r) : Ct l D E B yX12_common cX12_common 4 (some .long) (0 + (kr + 1)) 0 0 [.long v0, .long v2] (n, T, I, J, P) (Ret (some (.long r)) (n, T, I, J, P)) := by
  unfold r_commonB at hf
  refine Ct.ofV (by decide) (Nat.le_of_ble_eq_true rfl) ?_
  refine V.lload_n dX12_common_0 rfl ?_
  refine V.lconst (v := 0) dX12_common_1 (by decide) ?_
  refine V.lcmp dX12_common_2 ?_
  refine V.if_ne 10 dX12_common_3 (by decide) (fun c1 => ?_) (fun c1 => ?_)
  · rw [if_neg c1] at hf
    refine V.lload_n dX12_common_10 rfl ?_
    refine V.lload_n dX12_common_11 rfl ?_
    refine V.lload_n dX12_common_12 rfl ?_
    obtain ⟨hz2, hf⟩ := nzl_some hf
    refine V.lrem dX12_common_13 hz2 ?_
    obtain ⟨u5, hk4, hf⟩ := bnd_some hf
    try dsimp only at hf
    refine V.ins cs_X12_445 ((ih0) hk4) dX12_common_14 rfl rfl (Nat.le_of_ble_eq_true rfl) (by omega) (by decide) (Nat.le_refl _) (Nat.le_refl _) (fun _ _ hq => ?_)
    obtain ⟨rfl, rfl⟩ := hq
    obtain rfl := Option.some.inj hf
    exact V.lret dX12_common_17 rfl (Nat.le_refl _) (Nat.le_refl _) ⟨rfl, rfl⟩
  · rw [if_pos c1] at hf
    refine V.lload_n dX12_common_6 rfl ?_
    refine V.goto 17 dX12_common_7 (by decide) ?_
    obtain rfl := Option.some.inj hf
    exact V.lret dX12_common_17 rfl (Nat.le_refl _) (Nat.le_refl _) ⟨rfl, rfl⟩
theorem r_common_all {l : Launch} {D : va_G} {E : Nat → ClassId} {B : Nat → Prop} {n F : Nat} {T : Nat → Option (Nat × Nat)} {I : Nat → Nat → Int32} {J : Nat → Nat → Int64} {P : Nat → Nat → Option Nat}  : ∀ k, r_common_H l D E B n F T I J P k := by
  intro k
  induction k with
  | zero =>
    exact fun hf => by cases hf
  | succ kr ih0 =>
    exact fun  hf => s_r_commonB ih0  hf
def r_commonB_f (F : Nat)   (v0 : Int64) (v2 : Int64) : Option (Int64) := r_common F 200 v0 v2
theorem c_r_commonB_f {l : Launch} {D : va_G} {E : Nat → ClassId} {B : Nat → Prop} {n F : Nat} {T : Nat → Option (Nat × Nat)} {I : Nat → Nat → Int32} {J : Nat → Nat → Int64} {P : Nat → Nat → Option Nat}  {v0 : Int64} {v2 : Int64} {r : Int64}  (hf : r_commonB_f F v0 v2 = some r) : Ct l D E B yX12_common cX12_common 4 (some .long) 200 0 0 [.long v0, .long v2] (n, T, I, J, P) (Ret (some (.long r)) (n, T, I, J, P)) := (r_common_all 200)  hf
theorem dX12_seeks_0 : decode cX12_seeks 0 = .ok (.iload_n 2, 1) := by decide +kernel
theorem dX12_seeks_1 : decode cX12_seeks 1 = .ok (.iload_n 3, 1) := by decide +kernel
theorem dX12_seeks_2 : decode cX12_seeks 2 = .ok (.if_icmp .ne 45, 3) := by decide +kernel
theorem dX12_seeks_5 : decode cX12_seeks 5 = .ok (.aload_n 0, 1) := by decide +kernel
theorem dX12_seeks_6 : decode cX12_seeks 6 = .ok (.iload_n 1, 1) := by decide +kernel
theorem dX12_seeks_7 : decode cX12_seeks 7 = .ok (.invokevirtual 369, 3) := by decide +kernel
theorem dX12_seeks_10 : decode cX12_seeks 10 = .ok (.istore 5, 2) := by decide +kernel
theorem dX12_seeks_12 : decode cX12_seeks 12 = .ok (.aload_n 0, 1) := by decide +kernel
theorem dX12_seeks_13 : decode cX12_seeks 13 = .ok (.dup, 1) := by decide +kernel
theorem dX12_seeks_14 : decode cX12_seeks 14 = .ok (.getfield 372, 3) := by decide +kernel
theorem dX12_seeks_17 : decode cX12_seeks 17 = .ok (.iload 5, 2) := by decide +kernel
theorem dX12_seeks_19 : decode cX12_seeks 19 = .ok (.ifCond .eq 7, 3) := by decide +kernel
theorem dX12_seeks_22 : decode cX12_seeks 22 = .ok (.iconst 1, 1) := by decide +kernel
theorem dX12_seeks_23 : decode cX12_seeks 23 = .ok (.goto 4, 3) := by decide +kernel
theorem dX12_seeks_26 : decode cX12_seeks 26 = .ok (.iconst 0, 1) := by decide +kernel
theorem dX12_seeks_27 : decode cX12_seeks 27 = .ok (.iadd, 1) := by decide +kernel
theorem dX12_seeks_28 : decode cX12_seeks 28 = .ok (.putfield 372, 3) := by decide +kernel
theorem dX12_seeks_31 : decode cX12_seeks 31 = .ok (.iload 5, 2) := by decide +kernel
theorem dX12_seeks_33 : decode cX12_seeks 33 = .ok (.ifCond .eq 12, 3) := by decide +kernel
theorem dX12_seeks_36 : decode cX12_seeks 36 = .ok (.iload 4, 2) := by decide +kernel
theorem dX12_seeks_38 : decode cX12_seeks 38 = .ok (.ifCond .ne 7, 3) := by decide +kernel
theorem dX12_seeks_41 : decode cX12_seeks 41 = .ok (.iconst 1, 1) := by decide +kernel
theorem dX12_seeks_42 : decode cX12_seeks 42 = .ok (.goto 4, 3) := by decide +kernel
theorem dX12_seeks_45 : decode cX12_seeks 45 = .ok (.iconst 0, 1) := by decide +kernel
theorem dX12_seeks_46 : decode cX12_seeks 46 = .ok (.ireturn, 1) := by decide +kernel
theorem dX12_seeks_47 : decode cX12_seeks 47 = .ok (.aload_n 0, 1) := by decide +kernel
theorem dX12_seeks_48 : decode cX12_seeks 48 = .ok (.iload_n 2, 1) := by decide +kernel
theorem dX12_seeks_49 : decode cX12_seeks 49 = .ok (.invokevirtual 375, 3) := by decide +kernel
theorem dX12_seeks_52 : decode cX12_seeks 52 = .ok (.iconst 0, 1) := by decide +kernel
theorem dX12_seeks_53 : decode cX12_seeks 53 = .ok (.istore 5, 2) := by decide +kernel
theorem dX12_seeks_55 : decode cX12_seeks 55 = .ok (.iload 5, 2) := by decide +kernel
theorem dX12_seeks_57 : decode cX12_seeks 57 = .ok (.aload_n 0, 1) := by decide +kernel
theorem dX12_seeks_58 : decode cX12_seeks 58 = .ok (.getfield 13, 3) := by decide +kernel
theorem dX12_seeks_61 : decode cX12_seeks 61 = .ok (.iconst 2, 1) := by decide +kernel
theorem dX12_seeks_62 : decode cX12_seeks 62 = .ok (.iaload, 1) := by decide +kernel
theorem dX12_seeks_63 : decode cX12_seeks 63 = .ok (.if_icmp .ge 49, 3) := by decide +kernel
theorem dX12_seeks_66 : decode cX12_seeks 66 = .ok (.aload_n 0, 1) := by decide +kernel
theorem dX12_seeks_67 : decode cX12_seeks 67 = .ok (.getfield 48, 3) := by decide +kernel
theorem dX12_seeks_70 : decode cX12_seeks 70 = .ok (.iload_n 2, 1) := by decide +kernel
theorem dX12_seeks_71 : decode cX12_seeks 71 = .ok (.iload 5, 2) := by decide +kernel
theorem dX12_seeks_73 : decode cX12_seeks 73 = .ok (.iastore, 1) := by decide +kernel
theorem dX12_seeks_74 : decode cX12_seeks 74 = .ok (.aload_n 0, 1) := by decide +kernel
theorem dX12_seeks_75 : decode cX12_seeks 75 = .ok (.iload 5, 2) := by decide +kernel
theorem dX12_seeks_77 : decode cX12_seeks 77 = .ok (.invokevirtual 267, 3) := by decide +kernel
theorem dX12_seeks_80 : decode cX12_seeks 80 = .ok (.pop, 1) := by decide +kernel
theorem dX12_seeks_81 : decode cX12_seeks 81 = .ok (.aload_n 0, 1) := by decide +kernel
theorem dX12_seeks_82 : decode cX12_seeks 82 = .ok (.iload_n 1, 1) := by decide +kernel
theorem dX12_seeks_83 : decode cX12_seeks 83 = .ok (.iload_n 2, 1) := by decide +kernel
theorem dX12_seeks_84 : decode cX12_seeks 84 = .ok (.iconst 1, 1) := by decide +kernel
theorem dX12_seeks_85 : decode cX12_seeks 85 = .ok (.iadd, 1) := by decide +kernel
theorem dX12_seeks_86 : decode cX12_seeks 86 = .ok (.iload_n 3, 1) := by decide +kernel
theorem dX12_seeks_87 : decode cX12_seeks 87 = .ok (.iload 4, 2) := by decide +kernel
theorem dX12_seeks_89 : decode cX12_seeks 89 = .ok (.invokevirtual 378, 3) := by decide +kernel
theorem dX12_seeks_92 : decode cX12_seeks 92 = .ok (.istore 6, 2) := by decide +kernel
theorem dX12_seeks_94 : decode cX12_seeks 94 = .ok (.aload_n 0, 1) := by decide +kernel
theorem dX12_seeks_95 : decode cX12_seeks 95 = .ok (.iload_n 2, 1) := by decide +kernel
theorem dX12_seeks_96 : decode cX12_seeks 96 = .ok (.invokevirtual 382, 3) := by decide +kernel
theorem dX12_seeks_99 : decode cX12_seeks 99 = .ok (.iload 6, 2) := by decide +kernel
theorem dX12_seeks_101 : decode cX12_seeks 101 = .ok (.ifCond .eq 5, 3) := by decide +kernel
theorem dX12_seeks_104 : decode cX12_seeks 104 = .ok (.iconst 1, 1) := by decide +kernel
theorem dX12_seeks_105 : decode cX12_seeks 105 = .ok (.ireturn, 1) := by decide +kernel
theorem dX12_seeks_106 : decode cX12_seeks 106 = .ok (.iinc 5 1, 3) := by decide +kernel
theorem dX12_seeks_109 : decode cX12_seeks 109 = .ok (.goto (-54), 3) := by decide +kernel
theorem dX12_seeks_112 : decode cX12_seeks 112 = .ok (.iconst 0, 1) := by decide +kernel
theorem dX12_seeks_113 : decode cX12_seeks 113 = .ok (.ireturn, 1) := by decide +kernel
def r_seeksB_55 (rec : Int32 → Int32 → Int32 → Int32 → (Nat → Nat → Int32) → Option (Int32 × (Nat → Nat → Int32))) (F : Nat) (z : Nat) (g1 : Int32) (g2 : Int32) (g3 : Int32) (g4 : Int32) : Nat → Int32 → (Nat → Nat → Int32) → Option ((Int32 × (Nat → Nat → Int32)) ⊕ (Int32 × (Nat → Nat → Int32)))
  | 0, _, _ => none
  | k + 1, l5, I => if (I (z + 1) (Int32.toNatClampNeg 2)) ≤ l5 then (some (.inr (l5, I))) else (chk g2 8 (let I7 := uI I (z + 11) (Int32.toNatClampNeg g2) l5; (r_plays F I7 z l5).bind (fun q9 => let u11 := q9.1; let I12 := q9.2; (rec g1 (g2 + 1) g3 g4 I12).bind (fun q13 => let u15 := q13.1; let I16 := q13.2; (r_isAheadAgain F I16 z g2).bind (fun q17 => let I19 := q17; if u15 = 0 then (r_seeksB_55 rec F z g1 g2 g3 g4 k (l5 + 1) I19) else (some (.inl (1, I19))))))))
def r_seeksB (rec : Int32 → Int32 → Int32 → Int32 → (Nat → Nat → Int32) → Option (Int32 × (Nat → Nat → Int32))) (F : Nat) (I : Nat → Nat → Int32) (J : Nat → Nat → Int64) (z : Nat) (v1 : Int32) (v2 : Int32) (v3 : Int32) (v4 : Int32) : Option (Int32 × (Nat → Nat → Int32)) := if v2 = v3 then ((r_isMusic F I J z v1).bind (fun q25 => let u27 := q25; if u27 = 0 then (let I29 := uI I z 25 ((I z 25) + 0); if u27 = 0 then (some (0, I29)) else (if v4 = 0 then (some (1, I29)) else (some (0, I29)))) else (let I33 := uI I z 25 ((I z 25) + 1); if u27 = 0 then (some (0, I33)) else (if v4 = 0 then (some (1, I33)) else (some (0, I33)))))) else ((r_keepsAhead F I z v2).bind (fun q2 => let I4 := q2; (r_seeksB_55 rec F z v1 v2 v3 v4 F 0 I4).bind (fun q21 => match q21 with | .inl r0 => some r0 | .inr q0 => let m23 := q0.1; let I24 := q0.2; some (0, I24))))
def r_seeks (F : Nat) (J : Nat → Nat → Int64) (z : Nat) : Nat → Int32 → Int32 → Int32 → Int32 → (Nat → Nat → Int32) → Option (Int32 × (Nat → Nat → Int32))
  | 0, _, _, _, _, _ => none
  | kr + 1, a0, a1, a2, a3, I => r_seeksB (r_seeks F J z kr) F I J z a0 a1 a2 a3
def r_seeks_H (l : Launch) (D : va_G) (E : Nat → ClassId) (B : Nat → Prop) (n F : Nat) (T : Nat → Option (Nat × Nat)) (J : Nat → Nat → Int64) (P : Nat → Nat → Option Nat) (z : Nat) (k : Nat) : Prop := (∀ {a0 : Int32} {a1 : Int32} {a2 : Int32} {a3 : Int32} {I : Nat → Nat → Int32} {r : Int32 × (Nat → Nat → Int32)}, isMd T P z → r_seeks F J z k a0 a1 a2 a3 I = some r → Ct l D E B yX12_seeks cX12_seeks 7 (some .boolean) (10 + k) 0 0 [.ref z, .int a0, .int a1, .int a2, .int a3] (n, T, I, J, P) (Ret (some (.int r.1)) (n, T, r.2, J, P)))
theorem l_r_seeksB_55 {l : Launch} {D : va_G} {E : Nat → ClassId} {B : Nat → Prop} {n F : Nat} {Q : Option Value → HT → Prop} {T : Nat → Option (Nat × Nat)} {J : Nat → Nat → Int64} {P : Nat → Nat → Option Nat} {z : Nat} {g1 : Int32} {g2 : Int32} {g3 : Int32} {g4 : Int32} (hs_z : isMd T P z) {kr : Nat} (ih0 : r_seeks_H l D E B n F T J P z kr) (r : (Int32 × (Nat → Nat → Int32)) ⊕ (Int32 × (Nat → Nat → Int32))) : ∀ (k : Nat) (l5 : Int32) (I : (Nat → Nat → Int32)), r_seeksB_55 (r_seeks F J z kr) F z g1 g2 g3 g4 k l5 I = some r → (match r with | .inl r => Q (some (.int r.1)) (n, T, r.2, J, P) | .inr r => V l D E B yX12_seeks cX12_seeks 7 (some .boolean) (10 + (kr + 1)) 0 0 Q 0 0 (n, T, r.2, J, P) 112 [(0, some (.ref z)), (1, some (.int g1)), (2, some (.int g2)), (3, some (.int g3)), (4, some (.int g4)), (5, some (.int (r.1)))] []) → V l D E B yX12_seeks cX12_seeks 7 (some .boolean) (10 + (kr + 1)) 0 0 Q 0 0 (n, T, I, J, P) 55 [(0, some (.ref z)), (1, some (.int g1)), (2, some (.int g2)), (3, some (.int g3)), (4, some (.int g4)), (5, some (.int l5))] [] := by
  intro k
  induction k with
  | zero =>
    intro l5 I hf hk
    cases hf
  | succ k ih =>
    intro l5 I hf hk
    unfold r_seeksB_55 at hf
    refine V.iload dX12_seeks_55 rfl ?_
    refine V.aload_n dX12_seeks_57 rfl ?_
    refine V.getr fl_X12_13 dX12_seeks_58 (hs_z.1 0 (12, 0) rfl) (hs_z.2 0 1 1 rfl) (by decide) rfl ?_
    refine V.iconst (v := 2) dX12_seeks_61 (by decide) ?_
    refine V.iald dX12_seeks_62 (hs_z.1 1 (20, 3891) rfl) (vp_lit (by decide)) ?_
    refine V.icmp_ge 112 dX12_seeks_63 (by decide) (fun c5 => ?_) (fun c5 => ?_)
    · rw [if_pos c5] at hf
      obtain rfl := Option.some.inj hf
      exact V.lo [(0, some (.ref z)), (1, some (.int g1)), (2, some (.int g2)), (3, some (.int g3)), (4, some (.int g4)), (5, some (.int l5))] (by simp only [Subs]; repeat' first | exact trivial | constructor | rfl) hk
    · rw [if_neg c5] at hf
      refine V.aload_n dX12_seeks_66 rfl ?_
      refine V.getr fl_X12_48 dX12_seeks_67 (hs_z.1 0 (12, 0) rfl) (hs_z.2 0 23 11 rfl) (by decide) rfl ?_
      refine V.iload_n dX12_seeks_70 rfl ?_
      refine V.iload dX12_seeks_71 rfl ?_
      obtain ⟨hb6, hf⟩ := chk_some hf
      refine V.iastE dX12_seeks_73 (hs_z.1 11 (20, 8) rfl) hb6 (fun I7 e8 => ?_)
      rw [← e8] at hf
      try dsimp only at hf
      clear e8
      refine V.aload_n dX12_seeks_74 rfl ?_
      refine V.iload dX12_seeks_75 rfl ?_
      obtain ⟨⟨u11, I12⟩, hk10, hf⟩ := bnd_some hf
      try dsimp only at hf
      refine V.inv cv_X12_267 (c_r_plays hs_z hk10) dX12_seeks_77 (hs_z.1 0 (12, 0) rfl) (by decide) rfl rfl rfl (Nat.le_of_ble_eq_true rfl) (by omega) (by decide) (Nat.le_refl _) (Nat.le_refl _) (fun _ _ hq => ?_)
      obtain ⟨rfl, rfl⟩ := hq
      try dsimp only
      refine V.pop dX12_seeks_80 rfl ?_
      refine V.aload_n dX12_seeks_81 rfl ?_
      refine V.iload_n dX12_seeks_82 rfl ?_
      refine V.iload_n dX12_seeks_83 rfl ?_
      refine V.iconst (v := 1) dX12_seeks_84 (by decide) ?_
      refine V.iadd dX12_seeks_85 ?_
      refine V.iload_n dX12_seeks_86 rfl ?_
      refine V.iload dX12_seeks_87 rfl ?_
      obtain ⟨⟨u15, I16⟩, hk14, hf⟩ := bnd_some hf
      try dsimp only at hf
      refine V.inv cv_X12_378 ((ih0) hs_z hk14) dX12_seeks_89 (hs_z.1 0 (12, 0) rfl) (by decide) rfl rfl rfl (Nat.le_of_ble_eq_true rfl) (by omega) (by decide) (Nat.le_refl _) (Nat.le_refl _) (fun _ _ hq => ?_)
      obtain ⟨rfl, rfl⟩ := hq
      try dsimp only
      refine V.istore dX12_seeks_92 (by decide) (by first | exact rfl | exact trivial) ?_
      refine V.aload_n dX12_seeks_94 rfl ?_
      refine V.iload_n dX12_seeks_95 rfl ?_
      obtain ⟨I19, hk18, hf⟩ := bnd_some hf
      try dsimp only at hf
      refine V.inv cv_X12_382 (c_r_isAheadAgain hs_z hk18) dX12_seeks_96 (hs_z.1 0 (12, 0) rfl) (by decide) rfl rfl rfl (Nat.le_of_ble_eq_true rfl) (by omega) (by decide) (Nat.le_refl _) (Nat.le_refl _) (fun _ _ hq => ?_)
      obtain ⟨rfl, rfl⟩ := hq
      refine V.iload dX12_seeks_99 rfl ?_
      refine V.if_eq 106 dX12_seeks_101 (by decide) (fun c20 => ?_) (fun c20 => ?_)
      · rw [if_pos c20] at hf
        refine V.iinc (v := (l5 + 1)) dX12_seeks_106 rfl rfl (by first | exact rfl | exact trivial) ?_
        refine V.goto 55 dX12_seeks_109 (by decide) ?_
        exact V.lo [(0, some (.ref z)), (1, some (.int g1)), (2, some (.int g2)), (3, some (.int g3)), (4, some (.int g4)), (5, some (.int (l5 + 1)))] (by simp only [Subs]; repeat' first | exact trivial | constructor | rfl) (ih _ _ hf hk)
      · rw [if_neg c20] at hf
        refine V.iconst (v := 1) dX12_seeks_104 (by decide) ?_
        obtain rfl := Option.some.inj hf
        exact V.zret dX12_seeks_105 rfl rfl (Nat.le_refl _) (Nat.le_refl _) hk
theorem s_r_seeksB {l : Launch} {D : va_G} {E : Nat → ClassId} {B : Nat → Prop} {n F : Nat} {T : Nat → Option (Nat × Nat)} {J : Nat → Nat → Int64} {P : Nat → Nat → Option Nat} {z : Nat} {kr : Nat} (ih0 : r_seeks_H l D E B n F T J P z kr) {v1 : Int32} {v2 : Int32} {v3 : Int32} {v4 : Int32} {I : Nat → Nat → Int32} {r : Int32 × (Nat → Nat → Int32)} (hs_z : isMd T P z) (hf : r_seeksB (r_seeks F J z kr) F I J z v1 v2 v3 v4 = some r) : Ct l D E B yX12_seeks cX12_seeks 7 (some .boolean) (10 + (kr + 1)) 0 0 [.ref z, .int v1, .int v2, .int v3, .int v4] (n, T, I, J, P) (Ret (some (.int r.1)) (n, T, r.2, J, P)) := by
  unfold r_seeksB at hf
  refine Ct.ofV (by decide) (Nat.le_of_ble_eq_true rfl) ?_
  refine V.iload_n dX12_seeks_0 rfl ?_
  refine V.iload_n dX12_seeks_1 rfl ?_
  refine V.icmp_ne 47 dX12_seeks_2 (by decide) (fun c1 => ?_) (fun c1 => ?_)
  · rw [if_neg c1] at hf
    refine V.aload_n dX12_seeks_47 rfl ?_
    refine V.iload_n dX12_seeks_48 rfl ?_
    obtain ⟨I4, hk3, hf⟩ := bnd_some hf
    try dsimp only at hf
    refine V.inv cv_X12_375 (c_r_keepsAhead hs_z hk3) dX12_seeks_49 (hs_z.1 0 (12, 0) rfl) (by decide) rfl rfl rfl (Nat.le_of_ble_eq_true rfl) (by omega) (by decide) (Nat.le_refl _) (Nat.le_refl _) (fun _ _ hq => ?_)
    obtain ⟨rfl, rfl⟩ := hq
    refine V.iconst (v := 0) dX12_seeks_52 (by decide) ?_
    refine V.istore dX12_seeks_53 (by decide) (by first | exact rfl | exact trivial) ?_
    obtain ⟨q21, hk22, hf⟩ := bnd_some hf
    refine V.lo [(0, some (.ref z)), (1, some (.int v1)), (2, some (.int v2)), (3, some (.int v3)), (4, some (.int v4)), (5, some (.int 0))] (by simp only [Subs]; repeat' first | exact trivial | constructor | rfl) (l_r_seeksB_55 hs_z ih0 q21 F _ _ hk22 ?_)
    rcases q21 with r0 | ⟨m23, I24⟩
    · try dsimp only at hf ⊢
      obtain rfl := Option.some.inj hf
      exact ⟨rfl, rfl⟩
    · try dsimp only at hf ⊢
      refine V.iconst (v := 0) dX12_seeks_112 (by decide) ?_
      obtain rfl := Option.some.inj hf
      exact V.zret dX12_seeks_113 rfl rfl (Nat.le_refl _) (Nat.le_refl _) ⟨rfl, rfl⟩
  · rw [if_pos c1] at hf
    refine V.aload_n dX12_seeks_5 rfl ?_
    refine V.iload_n dX12_seeks_6 rfl ?_
    obtain ⟨u27, hk26, hf⟩ := bnd_some hf
    try dsimp only at hf
    refine V.inv cv_X12_369 (c_r_isMusic hs_z hk26) dX12_seeks_7 (hs_z.1 0 (12, 0) rfl) (by decide) rfl rfl rfl (Nat.le_of_ble_eq_true rfl) (by omega) (by decide) (Nat.le_refl _) (Nat.le_refl _) (fun _ _ hq => ?_)
    obtain ⟨rfl, rfl⟩ := hq
    refine V.istore dX12_seeks_10 (by decide) (by first | exact rfl | exact trivial) ?_
    refine V.aload_n dX12_seeks_12 rfl ?_
    refine V.dup dX12_seeks_13 rfl ?_
    refine V.getf fl_X12_372 dX12_seeks_14 (hs_z.1 0 (12, 0) rfl) (by decide) rfl ?_
    refine V.iload dX12_seeks_17 rfl ?_
    refine V.if_eq 26 dX12_seeks_19 (by decide) (fun c28 => ?_) (fun c28 => ?_)
    · rw [if_pos c28] at hf
      refine V.iconst (v := 0) dX12_seeks_26 (by decide) ?_
      refine V.iadd dX12_seeks_27 ?_
      refine V.putiE fl_X12_372 dX12_seeks_28 (hs_z.1 0 (12, 0) rfl) (by decide) (fun h => by cases h) rfl rfl rfl (Nat.le_of_ble_eq_true rfl) (fun I29 e30 => ?_)
      rw [← e30] at hf
      try dsimp only at hf
      clear e30
      refine V.iload dX12_seeks_31 rfl ?_
      refine V.if_eq 45 dX12_seeks_33 (by decide) (fun c31 => ?_) (fun c31 => ?_)
      · rw [if_pos c31] at hf
        refine V.iconst (v := 0) dX12_seeks_45 (by decide) ?_
        obtain rfl := Option.some.inj hf
        exact V.zret dX12_seeks_46 rfl rfl (Nat.le_refl _) (Nat.le_refl _) ⟨rfl, rfl⟩
      · rw [if_neg c31] at hf
        refine V.iload dX12_seeks_36 rfl ?_
        refine V.if_ne 45 dX12_seeks_38 (by decide) (fun c32 => ?_) (fun c32 => ?_)
        · rw [if_neg c32] at hf
          refine V.iconst (v := 0) dX12_seeks_45 (by decide) ?_
          obtain rfl := Option.some.inj hf
          exact V.zret dX12_seeks_46 rfl rfl (Nat.le_refl _) (Nat.le_refl _) ⟨rfl, rfl⟩
        · rw [if_pos c32] at hf
          refine V.iconst (v := 1) dX12_seeks_41 (by decide) ?_
          refine V.goto 46 dX12_seeks_42 (by decide) ?_
          obtain rfl := Option.some.inj hf
          exact V.zret dX12_seeks_46 rfl rfl (Nat.le_refl _) (Nat.le_refl _) ⟨rfl, rfl⟩
    · rw [if_neg c28] at hf
      refine V.iconst (v := 1) dX12_seeks_22 (by decide) ?_
      refine V.goto 27 dX12_seeks_23 (by decide) ?_
      refine V.iadd dX12_seeks_27 ?_
      refine V.putiE fl_X12_372 dX12_seeks_28 (hs_z.1 0 (12, 0) rfl) (by decide) (fun h => by cases h) rfl rfl rfl (Nat.le_of_ble_eq_true rfl) (fun I33 e34 => ?_)
      rw [← e34] at hf
      try dsimp only at hf
      clear e34
      refine V.iload dX12_seeks_31 rfl ?_
      refine V.if_eq 45 dX12_seeks_33 (by decide) (fun c35 => ?_) (fun c35 => ?_)
      · rw [if_pos c35] at hf
        refine V.iconst (v := 0) dX12_seeks_45 (by decide) ?_
        obtain rfl := Option.some.inj hf
        exact V.zret dX12_seeks_46 rfl rfl (Nat.le_refl _) (Nat.le_refl _) ⟨rfl, rfl⟩
      · rw [if_neg c35] at hf
        refine V.iload dX12_seeks_36 rfl ?_
        refine V.if_ne 45 dX12_seeks_38 (by decide) (fun c36 => ?_) (fun c36 => ?_)
        · rw [if_neg c36] at hf
          refine V.iconst (v := 0) dX12_seeks_45 (by decide) ?_
          obtain rfl := Option.some.inj hf
          exact V.zret dX12_seeks_46 rfl rfl (Nat.le_refl _) (Nat.le_refl _) ⟨rfl, rfl⟩
        · rw [if_pos c36] at hf
          refine V.iconst (v := 1) dX12_seeks_41 (by decide) ?_
          refine V.goto 46 dX12_seeks_42 (by decide) ?_
          obtain rfl := Option.some.inj hf
          exact V.zret dX12_seeks_46 rfl rfl (Nat.le_refl _) (Nat.le_refl _) ⟨rfl, rfl⟩
theorem r_seeks_all {l : Launch} {D : va_G} {E : Nat → ClassId} {B : Nat → Prop} {n F : Nat} {T : Nat → Option (Nat × Nat)} {J : Nat → Nat → Int64} {P : Nat → Nat → Option Nat} {z : Nat} : ∀ k, r_seeks_H l D E B n F T J P z k := by
  intro k
  induction k with
  | zero =>
    exact fun _ hf => by cases hf
  | succ kr ih0 =>
    exact fun hs_z hf => s_r_seeksB ih0 hs_z hf
def r_seeksB_f (F : Nat) (I : Nat → Nat → Int32) (J : Nat → Nat → Int64) (z : Nat) (v1 : Int32) (v2 : Int32) (v3 : Int32) (v4 : Int32) : Option (Int32 × (Nat → Nat → Int32)) := r_seeks F J z 10 v1 v2 v3 v4 I
theorem c_r_seeksB_f {l : Launch} {D : va_G} {E : Nat → ClassId} {B : Nat → Prop} {n F : Nat} {T : Nat → Option (Nat × Nat)} {J : Nat → Nat → Int64} {P : Nat → Nat → Option Nat} {z : Nat} {v1 : Int32} {v2 : Int32} {v3 : Int32} {v4 : Int32} {I : Nat → Nat → Int32} {r : Int32 × (Nat → Nat → Int32)} (hs_z : isMd T P z) (hf : r_seeksB_f F I J z v1 v2 v3 v4 = some r) : Ct l D E B yX12_seeks cX12_seeks 7 (some .boolean) 20 0 0 [.ref z, .int v1, .int v2, .int v3, .int v4] (n, T, I, J, P) (Ret (some (.int r.1)) (n, T, r.2, J, P)) := (r_seeks_all 10) hs_z hf
theorem dX12_laysMusic_0 : decode cX12_laysMusic 0 = .ok (.iconst 0, 1) := by decide +kernel
theorem dX12_laysMusic_1 : decode cX12_laysMusic 1 = .ok (.istore_n 2, 1) := by decide +kernel
theorem dX12_laysMusic_2 : decode cX12_laysMusic 2 = .ok (.iload_n 2, 1) := by decide +kernel
theorem dX12_laysMusic_3 : decode cX12_laysMusic 3 = .ok (.bipush 7, 2) := by decide +kernel
theorem dX12_laysMusic_5 : decode cX12_laysMusic 5 = .ok (.if_icmp .gt 22, 3) := by decide +kernel
theorem dX12_laysMusic_8 : decode cX12_laysMusic 8 = .ok (.aload_n 0, 1) := by decide +kernel
theorem dX12_laysMusic_9 : decode cX12_laysMusic 9 = .ok (.iload_n 1, 1) := by decide +kernel
theorem dX12_laysMusic_10 : decode cX12_laysMusic 10 = .ok (.iconst 0, 1) := by decide +kernel
theorem dX12_laysMusic_11 : decode cX12_laysMusic 11 = .ok (.iload_n 2, 1) := by decide +kernel
theorem dX12_laysMusic_12 : decode cX12_laysMusic 12 = .ok (.iconst 0, 1) := by decide +kernel
theorem dX12_laysMusic_13 : decode cX12_laysMusic 13 = .ok (.invokevirtual 378, 3) := by decide +kernel
theorem dX12_laysMusic_16 : decode cX12_laysMusic 16 = .ok (.ifCond .eq 5, 3) := by decide +kernel
theorem dX12_laysMusic_19 : decode cX12_laysMusic 19 = .ok (.iload_n 2, 1) := by decide +kernel
theorem dX12_laysMusic_20 : decode cX12_laysMusic 20 = .ok (.ireturn, 1) := by decide +kernel
theorem dX12_laysMusic_21 : decode cX12_laysMusic 21 = .ok (.iinc 2 1, 3) := by decide +kernel
theorem dX12_laysMusic_24 : decode cX12_laysMusic 24 = .ok (.goto (-22), 3) := by decide +kernel
theorem dX12_laysMusic_27 : decode cX12_laysMusic 27 = .ok (.iconst (-1), 1) := by decide +kernel
theorem dX12_laysMusic_28 : decode cX12_laysMusic 28 = .ok (.ireturn, 1) := by decide +kernel
def r_laysMusic_2 (F : Nat) (J : Nat → Nat → Int64) (z : Nat) (g1 : Int32) : Nat → Int32 → (Nat → Nat → Int32) → Option ((Int32 × (Nat → Nat → Int32)) ⊕ (Int32 × (Nat → Nat → Int32)))
  | 0, _, _ => none
  | k + 1, l2, I => if 7 < l2 then (some (.inr (l2, I))) else ((r_seeksB_f F I J z g1 0 l2 0).bind (fun q2 => let u4 := q2.1; let I5 := q2.2; if u4 = 0 then (r_laysMusic_2 F J z g1 k (l2 + 1) I5) else (some (.inl (l2, I5)))))
def r_laysMusic (F : Nat) (I : Nat → Nat → Int32) (J : Nat → Nat → Int64) (z : Nat) (v1 : Int32) : Option (Int32 × (Nat → Nat → Int32)) := (r_laysMusic_2 F J z v1 F 0 I).bind (fun q7 => match q7 with | .inl r0 => some r0 | .inr q0 => let m9 := q0.1; let I10 := q0.2; some ((-1), I10))
theorem l_r_laysMusic_2 {l : Launch} {D : va_G} {E : Nat → ClassId} {B : Nat → Prop} {n F : Nat} {Q : Option Value → HT → Prop} {T : Nat → Option (Nat × Nat)} {J : Nat → Nat → Int64} {P : Nat → Nat → Option Nat} {z : Nat} {g1 : Int32} (hs_z : isMd T P z)  (r : (Int32 × (Nat → Nat → Int32)) ⊕ (Int32 × (Nat → Nat → Int32))) : ∀ (k : Nat) (l2 : Int32) (I : (Nat → Nat → Int32)), r_laysMusic_2 F J z g1 k l2 I = some r → (match r with | .inl r => Q (some (.int r.1)) (n, T, r.2, J, P) | .inr r => V l D E B yX12_laysMusic cX12_laysMusic 3 (some .int) 21 0 0 Q 0 0 (n, T, r.2, J, P) 27 [(0, some (.ref z)), (1, some (.int g1)), (2, some (.int (r.1)))] []) → V l D E B yX12_laysMusic cX12_laysMusic 3 (some .int) 21 0 0 Q 0 0 (n, T, I, J, P) 2 [(0, some (.ref z)), (1, some (.int g1)), (2, some (.int l2))] [] := by
  intro k
  induction k with
  | zero =>
    intro l2 I hf hk
    cases hf
  | succ k ih =>
    intro l2 I hf hk
    unfold r_laysMusic_2 at hf
    refine V.iload_n dX12_laysMusic_2 rfl ?_
    refine V.bipush (v := 7) dX12_laysMusic_3 (by decide) ?_
    refine V.icmp_gt 27 dX12_laysMusic_5 (by decide) (fun c1 => ?_) (fun c1 => ?_)
    · rw [if_pos c1] at hf
      obtain rfl := Option.some.inj hf
      exact V.lo [(0, some (.ref z)), (1, some (.int g1)), (2, some (.int l2))] (by simp only [Subs]; repeat' first | exact trivial | constructor | rfl) hk
    · rw [if_neg c1] at hf
      refine V.aload_n dX12_laysMusic_8 rfl ?_
      refine V.iload_n dX12_laysMusic_9 rfl ?_
      refine V.iconst (v := 0) dX12_laysMusic_10 (by decide) ?_
      refine V.iload_n dX12_laysMusic_11 rfl ?_
      refine V.iconst (v := 0) dX12_laysMusic_12 (by decide) ?_
      obtain ⟨⟨u4, I5⟩, hk3, hf⟩ := bnd_some hf
      try dsimp only at hf
      refine V.inv cv_X12_378 (c_r_seeksB_f hs_z hk3) dX12_laysMusic_13 (hs_z.1 0 (12, 0) rfl) (by decide) rfl rfl rfl (Nat.le_of_ble_eq_true rfl) (by decide) (by decide) (Nat.le_refl _) (Nat.le_refl _) (fun _ _ hq => ?_)
      obtain ⟨rfl, rfl⟩ := hq
      try dsimp only
      refine V.if_eq 21 dX12_laysMusic_16 (by decide) (fun c6 => ?_) (fun c6 => ?_)
      · rw [if_pos c6] at hf
        refine V.iinc (v := (l2 + 1)) dX12_laysMusic_21 rfl rfl (by first | exact rfl | exact trivial) ?_
        refine V.goto 2 dX12_laysMusic_24 (by decide) ?_
        exact V.lo [(0, some (.ref z)), (1, some (.int g1)), (2, some (.int (l2 + 1)))] (by simp only [Subs]; repeat' first | exact trivial | constructor | rfl) (ih _ _ hf hk)
      · rw [if_neg c6] at hf
        refine V.iload_n dX12_laysMusic_19 rfl ?_
        obtain rfl := Option.some.inj hf
        exact V.iret dX12_laysMusic_20 rfl (Nat.le_refl _) (Nat.le_refl _) hk
theorem c_r_laysMusic {l : Launch} {D : va_G} {E : Nat → ClassId} {B : Nat → Prop} {n F : Nat} {T : Nat → Option (Nat × Nat)} {I : Nat → Nat → Int32} {J : Nat → Nat → Int64} {P : Nat → Nat → Option Nat} {z : Nat} {v1 : Int32} {r : Int32 × (Nat → Nat → Int32)} (hs_z : isMd T P z) (hf : r_laysMusic F I J z v1 = some r) : Ct l D E B yX12_laysMusic cX12_laysMusic 3 (some .int) 21 0 0 [.ref z, .int v1] (n, T, I, J, P) (Ret (some (.int r.1)) (n, T, r.2, J, P)) := by
  unfold r_laysMusic at hf
  refine Ct.ofV (by decide) (Nat.le_of_ble_eq_true rfl) ?_
  refine V.iconst (v := 0) dX12_laysMusic_0 (by decide) ?_
  refine V.istore_n dX12_laysMusic_1 rfl (by decide) (by first | exact rfl | exact trivial) ?_
  obtain ⟨q7, hk8, hf⟩ := bnd_some hf
  refine V.lo [(0, some (.ref z)), (1, some (.int v1)), (2, some (.int 0))] (by simp only [Subs]; repeat' first | exact trivial | constructor | rfl) (l_r_laysMusic_2 hs_z q7 F _ _ hk8 ?_)
  rcases q7 with r0 | ⟨m9, I10⟩
  · try dsimp only at hf ⊢
    obtain rfl := Option.some.inj hf
    exact ⟨rfl, rfl⟩
  · try dsimp only at hf ⊢
    refine V.iconst (v := -1) dX12_laysMusic_27 (by decide) ?_
    obtain rfl := Option.some.inj hf
    exact V.iret dX12_laysMusic_28 rfl (Nat.le_refl _) (Nat.le_refl _) ⟨rfl, rfl⟩
theorem dX12_alone_0 : decode cX12_alone 0 = .ok (.aload_n 0, 1) := by decide +kernel
theorem dX12_alone_1 : decode cX12_alone 1 = .ok (.iconst 0, 1) := by decide +kernel
theorem dX12_alone_2 : decode cX12_alone 2 = .ok (.putfield 1, 3) := by decide +kernel
theorem dX12_alone_5 : decode cX12_alone 5 = .ok (.aload_n 0, 1) := by decide +kernel
theorem dX12_alone_6 : decode cX12_alone 6 = .ok (.iload_n 1, 1) := by decide +kernel
theorem dX12_alone_7 : decode cX12_alone 7 = .ok (.invokevirtual 385, 3) := by decide +kernel
theorem dX12_alone_10 : decode cX12_alone 10 = .ok (.istore_n 2, 1) := by decide +kernel
theorem dX12_alone_11 : decode cX12_alone 11 = .ok (.iload_n 2, 1) := by decide +kernel
theorem dX12_alone_12 : decode cX12_alone 12 = .ok (.ifCond .eq 7, 3) := by decide +kernel
theorem dX12_alone_15 : decode cX12_alone 15 = .ok (.iload_n 2, 1) := by decide +kernel
theorem dX12_alone_16 : decode cX12_alone 16 = .ok (.goto 8, 3) := by decide +kernel
theorem dX12_alone_19 : decode cX12_alone 19 = .ok (.aload_n 0, 1) := by decide +kernel
theorem dX12_alone_20 : decode cX12_alone 20 = .ok (.iload_n 1, 1) := by decide +kernel
theorem dX12_alone_21 : decode cX12_alone 21 = .ok (.invokevirtual 388, 3) := by decide +kernel
theorem dX12_alone_24 : decode cX12_alone 24 = .ok (.ireturn, 1) := by decide +kernel
def r_alone (F : Nat) (I : Nat → Nat → Int32) (J : Nat → Nat → Int64) (z : Nat) (v1 : Int32) : Option (Int32 × (Nat → Nat → Int32)) := let I1 := uI I z 0 0; (r_noAlone I1 z v1).bind (fun q3 => let u5 := q3; if u5 = 0 then ((r_laysMusic F I1 J z v1).bind (fun q7 => let u9 := q7.1; let I10 := q7.2; some (u9, I10))) else (some (u5, I1)))
theorem c_r_alone {l : Launch} {D : va_G} {E : Nat → ClassId} {B : Nat → Prop} {n F : Nat} {T : Nat → Option (Nat × Nat)} {I : Nat → Nat → Int32} {J : Nat → Nat → Int64} {P : Nat → Nat → Option Nat} {z : Nat} {v1 : Int32} {r : Int32 × (Nat → Nat → Int32)} (hs_z : isMd T P z) (hf : r_alone F I J z v1 = some r) : Ct l D E B yX12_alone cX12_alone 3 (some .int) 22 0 0 [.ref z, .int v1] (n, T, I, J, P) (Ret (some (.int r.1)) (n, T, r.2, J, P)) := by
  unfold r_alone at hf
  refine Ct.ofV (by decide) (Nat.le_of_ble_eq_true rfl) ?_
  refine V.aload_n dX12_alone_0 rfl ?_
  refine V.iconst (v := 0) dX12_alone_1 (by decide) ?_
  refine V.putiE fl_X12_1 dX12_alone_2 (hs_z.1 0 (12, 0) rfl) (by decide) (fun h => by cases h) rfl rfl rfl (Nat.le_of_ble_eq_true rfl) (fun I1 e2 => ?_)
  rw [← e2] at hf
  try dsimp only at hf
  clear e2
  refine V.aload_n dX12_alone_5 rfl ?_
  refine V.iload_n dX12_alone_6 rfl ?_
  obtain ⟨u5, hk4, hf⟩ := bnd_some hf
  try dsimp only at hf
  refine V.inv cv_X12_385 (c_r_noAlone hs_z hk4) dX12_alone_7 (hs_z.1 0 (12, 0) rfl) (by decide) rfl rfl rfl (Nat.le_of_ble_eq_true rfl) (by decide) (by decide) (Nat.le_refl _) (Nat.le_refl _) (fun _ _ hq => ?_)
  obtain ⟨rfl, rfl⟩ := hq
  refine V.istore_n dX12_alone_10 rfl (by decide) (by first | exact rfl | exact trivial) ?_
  refine V.iload_n dX12_alone_11 rfl ?_
  refine V.if_eq 19 dX12_alone_12 (by decide) (fun c6 => ?_) (fun c6 => ?_)
  · rw [if_pos c6] at hf
    refine V.aload_n dX12_alone_19 rfl ?_
    refine V.iload_n dX12_alone_20 rfl ?_
    obtain ⟨⟨u9, I10⟩, hk8, hf⟩ := bnd_some hf
    try dsimp only at hf
    refine V.inv cv_X12_388 (c_r_laysMusic hs_z hk8) dX12_alone_21 (hs_z.1 0 (12, 0) rfl) (by decide) rfl rfl rfl (Nat.le_of_ble_eq_true rfl) (by decide) (by decide) (Nat.le_refl _) (Nat.le_refl _) (fun _ _ hq => ?_)
    obtain ⟨rfl, rfl⟩ := hq
    try dsimp only
    obtain rfl := Option.some.inj hf
    exact V.iret dX12_alone_24 rfl (Nat.le_refl _) (Nat.le_refl _) ⟨rfl, rfl⟩
  · rw [if_neg c6] at hf
    refine V.iload_n dX12_alone_15 rfl ?_
    refine V.goto 24 dX12_alone_16 (by decide) ?_
    obtain rfl := Option.some.inj hf
    exact V.iret dX12_alone_24 rfl (Nat.le_refl _) (Nat.le_refl _) ⟨rfl, rfl⟩
theorem dX12_aloneBy_0 : decode cX12_aloneBy 0 = .ok (.aload_n 0, 1) := by decide +kernel
theorem dX12_aloneBy_1 : decode cX12_aloneBy 1 = .ok (.iconst 0, 1) := by decide +kernel
theorem dX12_aloneBy_2 : decode cX12_aloneBy 2 = .ok (.putfield 1, 3) := by decide +kernel
theorem dX12_aloneBy_5 : decode cX12_aloneBy 5 = .ok (.aload_n 0, 1) := by decide +kernel
theorem dX12_aloneBy_6 : decode cX12_aloneBy 6 = .ok (.iload_n 1, 1) := by decide +kernel
theorem dX12_aloneBy_7 : decode cX12_aloneBy 7 = .ok (.invokevirtual 385, 3) := by decide +kernel
theorem dX12_aloneBy_10 : decode cX12_aloneBy 10 = .ok (.istore_n 3, 1) := by decide +kernel
theorem dX12_aloneBy_11 : decode cX12_aloneBy 11 = .ok (.iload_n 3, 1) := by decide +kernel
theorem dX12_aloneBy_12 : decode cX12_aloneBy 12 = .ok (.ifCond .eq 5, 3) := by decide +kernel
theorem dX12_aloneBy_15 : decode cX12_aloneBy 15 = .ok (.iload_n 3, 1) := by decide +kernel
theorem dX12_aloneBy_16 : decode cX12_aloneBy 16 = .ok (.ireturn, 1) := by decide +kernel
theorem dX12_aloneBy_17 : decode cX12_aloneBy 17 = .ok (.iload_n 2, 1) := by decide +kernel
theorem dX12_aloneBy_18 : decode cX12_aloneBy 18 = .ok (.ifCond .ge 6, 3) := by decide +kernel
theorem dX12_aloneBy_21 : decode cX12_aloneBy 21 = .ok (.bipush (-3), 2) := by decide +kernel
theorem dX12_aloneBy_23 : decode cX12_aloneBy 23 = .ok (.ireturn, 1) := by decide +kernel
theorem dX12_aloneBy_24 : decode cX12_aloneBy 24 = .ok (.iload_n 2, 1) := by decide +kernel
theorem dX12_aloneBy_25 : decode cX12_aloneBy 25 = .ok (.aload_n 0, 1) := by decide +kernel
theorem dX12_aloneBy_26 : decode cX12_aloneBy 26 = .ok (.iload_n 1, 1) := by decide +kernel
theorem dX12_aloneBy_27 : decode cX12_aloneBy 27 = .ok (.invokevirtual 388, 3) := by decide +kernel
theorem dX12_aloneBy_30 : decode cX12_aloneBy 30 = .ok (.if_icmp .ge 12, 3) := by decide +kernel
theorem dX12_aloneBy_33 : decode cX12_aloneBy 33 = .ok (.aload_n 0, 1) := by decide +kernel
theorem dX12_aloneBy_34 : decode cX12_aloneBy 34 = .ok (.getfield 48, 3) := by decide +kernel
theorem dX12_aloneBy_37 : decode cX12_aloneBy 37 = .ok (.iload_n 2, 1) := by decide +kernel
theorem dX12_aloneBy_38 : decode cX12_aloneBy 38 = .ok (.iaload, 1) := by decide +kernel
theorem dX12_aloneBy_39 : decode cX12_aloneBy 39 = .ok (.goto 4, 3) := by decide +kernel
theorem dX12_aloneBy_42 : decode cX12_aloneBy 42 = .ok (.iconst (-1), 1) := by decide +kernel
theorem dX12_aloneBy_43 : decode cX12_aloneBy 43 = .ok (.ireturn, 1) := by decide +kernel
def r_aloneBy (F : Nat) (I : Nat → Nat → Int32) (J : Nat → Nat → Int64) (z : Nat) (v1 : Int32) (v2 : Int32) : Option (Int32 × (Nat → Nat → Int32)) := let I1 := uI I z 0 0; (r_noAlone I1 z v1).bind (fun q3 => let u5 := q3; if u5 = 0 then (if 0 ≤ v2 then ((r_laysMusic F I1 J z v1).bind (fun q8 => let u10 := q8.1; let I11 := q8.2; if u10 ≤ v2 then (some ((-1), I11)) else (chk v2 8 (some ((I11 (z + 11) (Int32.toNatClampNeg v2)), I11))))) else (some ((-3), I1))) else (some (u5, I1)))
theorem c_r_aloneBy {l : Launch} {D : va_G} {E : Nat → ClassId} {B : Nat → Prop} {n F : Nat} {T : Nat → Option (Nat × Nat)} {I : Nat → Nat → Int32} {J : Nat → Nat → Int64} {P : Nat → Nat → Option Nat} {z : Nat} {v1 : Int32} {v2 : Int32} {r : Int32 × (Nat → Nat → Int32)} (hs_z : isMd T P z) (hf : r_aloneBy F I J z v1 v2 = some r) : Ct l D E B yX12_aloneBy cX12_aloneBy 4 (some .int) 22 0 0 [.ref z, .int v1, .int v2] (n, T, I, J, P) (Ret (some (.int r.1)) (n, T, r.2, J, P)) := by
  unfold r_aloneBy at hf
  refine Ct.ofV (by decide) (Nat.le_of_ble_eq_true rfl) ?_
  refine V.aload_n dX12_aloneBy_0 rfl ?_
  refine V.iconst (v := 0) dX12_aloneBy_1 (by decide) ?_
  refine V.putiE fl_X12_1 dX12_aloneBy_2 (hs_z.1 0 (12, 0) rfl) (by decide) (fun h => by cases h) rfl rfl rfl (Nat.le_of_ble_eq_true rfl) (fun I1 e2 => ?_)
  rw [← e2] at hf
  try dsimp only at hf
  clear e2
  refine V.aload_n dX12_aloneBy_5 rfl ?_
  refine V.iload_n dX12_aloneBy_6 rfl ?_
  obtain ⟨u5, hk4, hf⟩ := bnd_some hf
  try dsimp only at hf
  refine V.inv cv_X12_385 (c_r_noAlone hs_z hk4) dX12_aloneBy_7 (hs_z.1 0 (12, 0) rfl) (by decide) rfl rfl rfl (Nat.le_of_ble_eq_true rfl) (by decide) (by decide) (Nat.le_refl _) (Nat.le_refl _) (fun _ _ hq => ?_)
  obtain ⟨rfl, rfl⟩ := hq
  refine V.istore_n dX12_aloneBy_10 rfl (by decide) (by first | exact rfl | exact trivial) ?_
  refine V.iload_n dX12_aloneBy_11 rfl ?_
  refine V.if_eq 17 dX12_aloneBy_12 (by decide) (fun c6 => ?_) (fun c6 => ?_)
  · rw [if_pos c6] at hf
    refine V.iload_n dX12_aloneBy_17 rfl ?_
    refine V.if_ge 24 dX12_aloneBy_18 (by decide) (fun c7 => ?_) (fun c7 => ?_)
    · rw [if_pos c7] at hf
      refine V.iload_n dX12_aloneBy_24 rfl ?_
      refine V.aload_n dX12_aloneBy_25 rfl ?_
      refine V.iload_n dX12_aloneBy_26 rfl ?_
      obtain ⟨⟨u10, I11⟩, hk9, hf⟩ := bnd_some hf
      try dsimp only at hf
      refine V.inv cv_X12_388 (c_r_laysMusic hs_z hk9) dX12_aloneBy_27 (hs_z.1 0 (12, 0) rfl) (by decide) rfl rfl rfl (Nat.le_of_ble_eq_true rfl) (by decide) (by decide) (Nat.le_refl _) (Nat.le_refl _) (fun _ _ hq => ?_)
      obtain ⟨rfl, rfl⟩ := hq
      try dsimp only
      refine V.icmp_ge 42 dX12_aloneBy_30 (by decide) (fun c12 => ?_) (fun c12 => ?_)
      · rw [if_pos c12] at hf
        refine V.iconst (v := -1) dX12_aloneBy_42 (by decide) ?_
        obtain rfl := Option.some.inj hf
        exact V.iret dX12_aloneBy_43 rfl (Nat.le_refl _) (Nat.le_refl _) ⟨rfl, rfl⟩
      · rw [if_neg c12] at hf
        refine V.aload_n dX12_aloneBy_33 rfl ?_
        refine V.getr fl_X12_48 dX12_aloneBy_34 (hs_z.1 0 (12, 0) rfl) (hs_z.2 0 23 11 rfl) (by decide) rfl ?_
        refine V.iload_n dX12_aloneBy_37 rfl ?_
        obtain ⟨hb13, hf⟩ := chk_some hf
        refine V.iald dX12_aloneBy_38 (hs_z.1 11 (20, 8) rfl) hb13 ?_
        refine V.goto 43 dX12_aloneBy_39 (by decide) ?_
        obtain rfl := Option.some.inj hf
        exact V.iret dX12_aloneBy_43 rfl (Nat.le_refl _) (Nat.le_refl _) ⟨rfl, rfl⟩
    · rw [if_neg c7] at hf
      refine V.bipush (v := -3) dX12_aloneBy_21 (by decide) ?_
      obtain rfl := Option.some.inj hf
      exact V.iret dX12_aloneBy_23 rfl (Nat.le_refl _) (Nat.le_refl _) ⟨rfl, rfl⟩
  · rw [if_neg c6] at hf
    refine V.iload_n dX12_aloneBy_15 rfl ?_
    obtain rfl := Option.some.inj hf
    exact V.iret dX12_aloneBy_16 rfl (Nat.le_refl _) (Nat.le_refl _) ⟨rfl, rfl⟩
theorem dX12_ways_0 : decode cX12_ways 0 = .ok (.aload_n 0, 1) := by decide +kernel
theorem dX12_ways_1 : decode cX12_ways 1 = .ok (.iconst 0, 1) := by decide +kernel
theorem dX12_ways_2 : decode cX12_ways 2 = .ok (.putfield 1, 3) := by decide +kernel
theorem dX12_ways_5 : decode cX12_ways 5 = .ok (.aload_n 0, 1) := by decide +kernel
theorem dX12_ways_6 : decode cX12_ways 6 = .ok (.iload_n 1, 1) := by decide +kernel
theorem dX12_ways_7 : decode cX12_ways 7 = .ok (.invokevirtual 385, 3) := by decide +kernel
theorem dX12_ways_10 : decode cX12_ways 10 = .ok (.istore_n 3, 1) := by decide +kernel
theorem dX12_ways_11 : decode cX12_ways 11 = .ok (.iload_n 3, 1) := by decide +kernel
theorem dX12_ways_12 : decode cX12_ways 12 = .ok (.ifCond .eq 5, 3) := by decide +kernel
theorem dX12_ways_15 : decode cX12_ways 15 = .ok (.iload_n 3, 1) := by decide +kernel
theorem dX12_ways_16 : decode cX12_ways 16 = .ok (.ireturn, 1) := by decide +kernel
theorem dX12_ways_17 : decode cX12_ways 17 = .ok (.iload_n 2, 1) := by decide +kernel
theorem dX12_ways_18 : decode cX12_ways 18 = .ok (.i2l, 1) := by decide +kernel
theorem dX12_ways_19 : decode cX12_ways 19 = .ok (.lconst 0, 1) := by decide +kernel
theorem dX12_ways_20 : decode cX12_ways 20 = .ok (.ldc2_w 391, 3) := by decide +kernel
theorem dX12_ways_23 : decode cX12_ways 23 = .ok (.invokestatic 145, 3) := by decide +kernel
theorem dX12_ways_26 : decode cX12_ways 26 = .ok (.ifCond .ne 6, 3) := by decide +kernel
theorem dX12_ways_29 : decode cX12_ways 29 = .ok (.bipush (-3), 2) := by decide +kernel
theorem dX12_ways_31 : decode cX12_ways 31 = .ok (.ireturn, 1) := by decide +kernel
theorem dX12_ways_32 : decode cX12_ways 32 = .ok (.aload_n 0, 1) := by decide +kernel
theorem dX12_ways_33 : decode cX12_ways 33 = .ok (.iconst 0, 1) := by decide +kernel
theorem dX12_ways_34 : decode cX12_ways 34 = .ok (.putfield 372, 3) := by decide +kernel
theorem dX12_ways_37 : decode cX12_ways 37 = .ok (.aload_n 0, 1) := by decide +kernel
theorem dX12_ways_38 : decode cX12_ways 38 = .ok (.iload_n 1, 1) := by decide +kernel
theorem dX12_ways_39 : decode cX12_ways 39 = .ok (.iconst 0, 1) := by decide +kernel
theorem dX12_ways_40 : decode cX12_ways 40 = .ok (.iload_n 2, 1) := by decide +kernel
theorem dX12_ways_41 : decode cX12_ways 41 = .ok (.iconst 1, 1) := by decide +kernel
theorem dX12_ways_42 : decode cX12_ways 42 = .ok (.invokevirtual 378, 3) := by decide +kernel
theorem dX12_ways_45 : decode cX12_ways 45 = .ok (.pop, 1) := by decide +kernel
theorem dX12_ways_46 : decode cX12_ways 46 = .ok (.aload_n 0, 1) := by decide +kernel
theorem dX12_ways_47 : decode cX12_ways 47 = .ok (.getfield 372, 3) := by decide +kernel
theorem dX12_ways_50 : decode cX12_ways 50 = .ok (.ireturn, 1) := by decide +kernel
def r_ways (F : Nat) (I : Nat → Nat → Int32) (J : Nat → Nat → Int64) (z : Nat) (v1 : Int32) (v2 : Int32) : Option (Int32 × (Nat → Nat → Int32)) := let I1 := uI I z 0 0; (r_noAlone I1 z v1).bind (fun q3 => let u5 := q3; if u5 = 0 then (if (r_within (Int32.toInt64 v2) 0 7) = 0 then (some ((-3), I1)) else (let I8 := uI I1 z 25 0; (r_seeksB_f F I8 J z v1 0 v2 1).bind (fun q10 => let u12 := q10.1; let I13 := q10.2; some ((I13 z 25), I13)))) else (some (u5, I1)))
theorem c_r_ways {l : Launch} {D : va_G} {E : Nat → ClassId} {B : Nat → Prop} {n F : Nat} {T : Nat → Option (Nat × Nat)} {I : Nat → Nat → Int32} {J : Nat → Nat → Int64} {P : Nat → Nat → Option Nat} {z : Nat} {v1 : Int32} {v2 : Int32} {r : Int32 × (Nat → Nat → Int32)} (hs_z : isMd T P z) (hf : r_ways F I J z v1 v2 = some r) : Ct l D E B yX12_ways cX12_ways 4 (some .int) 21 0 0 [.ref z, .int v1, .int v2] (n, T, I, J, P) (Ret (some (.int r.1)) (n, T, r.2, J, P)) := by
  unfold r_ways at hf
  refine Ct.ofV (by decide) (Nat.le_of_ble_eq_true rfl) ?_
  refine V.aload_n dX12_ways_0 rfl ?_
  refine V.iconst (v := 0) dX12_ways_1 (by decide) ?_
  refine V.putiE fl_X12_1 dX12_ways_2 (hs_z.1 0 (12, 0) rfl) (by decide) (fun h => by cases h) rfl rfl rfl (Nat.le_of_ble_eq_true rfl) (fun I1 e2 => ?_)
  rw [← e2] at hf
  try dsimp only at hf
  clear e2
  refine V.aload_n dX12_ways_5 rfl ?_
  refine V.iload_n dX12_ways_6 rfl ?_
  obtain ⟨u5, hk4, hf⟩ := bnd_some hf
  try dsimp only at hf
  refine V.inv cv_X12_385 (c_r_noAlone hs_z hk4) dX12_ways_7 (hs_z.1 0 (12, 0) rfl) (by decide) rfl rfl rfl (Nat.le_of_ble_eq_true rfl) (by decide) (by decide) (Nat.le_refl _) (Nat.le_refl _) (fun _ _ hq => ?_)
  obtain ⟨rfl, rfl⟩ := hq
  refine V.istore_n dX12_ways_10 rfl (by decide) (by first | exact rfl | exact trivial) ?_
  refine V.iload_n dX12_ways_11 rfl ?_
  refine V.if_eq 17 dX12_ways_12 (by decide) (fun c6 => ?_) (fun c6 => ?_)
  · rw [if_pos c6] at hf
    refine V.iload_n dX12_ways_17 rfl ?_
    refine V.i2l dX12_ways_18 ?_
    refine V.lconst (v := 0) dX12_ways_19 (by decide) ?_
    refine V.ldc2 dX12_ways_20 kc_X12_391 ?_
    refine V.ins cs_X12_145 (c_r_within) dX12_ways_23 rfl rfl (Nat.le_of_ble_eq_true rfl) (by decide) (by decide) (Nat.le_refl _) (Nat.le_refl _) (fun _ _ hq => ?_)
    obtain ⟨rfl, rfl⟩ := hq
    refine V.if_ne 32 dX12_ways_26 (by decide) (fun c7 => ?_) (fun c7 => ?_)
    · rw [if_neg c7] at hf
      refine V.aload_n dX12_ways_32 rfl ?_
      refine V.iconst (v := 0) dX12_ways_33 (by decide) ?_
      refine V.putiE fl_X12_372 dX12_ways_34 (hs_z.1 0 (12, 0) rfl) (by decide) (fun h => by cases h) rfl rfl rfl (Nat.le_of_ble_eq_true rfl) (fun I8 e9 => ?_)
      rw [← e9] at hf
      try dsimp only at hf
      clear e9
      refine V.aload_n dX12_ways_37 rfl ?_
      refine V.iload_n dX12_ways_38 rfl ?_
      refine V.iconst (v := 0) dX12_ways_39 (by decide) ?_
      refine V.iload_n dX12_ways_40 rfl ?_
      refine V.iconst (v := 1) dX12_ways_41 (by decide) ?_
      obtain ⟨⟨u12, I13⟩, hk11, hf⟩ := bnd_some hf
      try dsimp only at hf
      refine V.inv cv_X12_378 (c_r_seeksB_f hs_z hk11) dX12_ways_42 (hs_z.1 0 (12, 0) rfl) (by decide) rfl rfl rfl (Nat.le_of_ble_eq_true rfl) (by decide) (by decide) (Nat.le_refl _) (Nat.le_refl _) (fun _ _ hq => ?_)
      obtain ⟨rfl, rfl⟩ := hq
      try dsimp only
      refine V.pop dX12_ways_45 rfl ?_
      refine V.aload_n dX12_ways_46 rfl ?_
      refine V.getf fl_X12_372 dX12_ways_47 (hs_z.1 0 (12, 0) rfl) (by decide) rfl ?_
      obtain rfl := Option.some.inj hf
      exact V.iret dX12_ways_50 rfl (Nat.le_refl _) (Nat.le_refl _) ⟨rfl, rfl⟩
    · rw [if_pos c7] at hf
      refine V.bipush (v := -3) dX12_ways_29 (by decide) ?_
      obtain rfl := Option.some.inj hf
      exact V.iret dX12_ways_31 rfl (Nat.le_refl _) (Nat.le_refl _) ⟨rfl, rfl⟩
  · rw [if_neg c6] at hf
    refine V.iload_n dX12_ways_15 rfl ?_
    obtain rfl := Option.some.inj hf
    exact V.iret dX12_ways_16 rfl (Nat.le_refl _) (Nat.le_refl _) ⟨rfl, rfl⟩
theorem dX12_sits_0 : decode cX12_sits 0 = .ok (.aload_n 0, 1) := by decide +kernel
theorem dX12_sits_1 : decode cX12_sits 1 = .ok (.iconst 0, 1) := by decide +kernel
theorem dX12_sits_2 : decode cX12_sits 2 = .ok (.putfield 1, 3) := by decide +kernel
theorem dX12_sits_5 : decode cX12_sits 5 = .ok (.aload_n 0, 1) := by decide +kernel
theorem dX12_sits_6 : decode cX12_sits 6 = .ok (.iload_n 1, 1) := by decide +kernel
theorem dX12_sits_7 : decode cX12_sits 7 = .ok (.invokevirtual 395, 3) := by decide +kernel
theorem dX12_sits_10 : decode cX12_sits 10 = .ok (.istore_n 2, 1) := by decide +kernel
theorem dX12_sits_11 : decode cX12_sits 11 = .ok (.iload_n 2, 1) := by decide +kernel
theorem dX12_sits_12 : decode cX12_sits 12 = .ok (.ifCond .eq 5, 3) := by decide +kernel
theorem dX12_sits_15 : decode cX12_sits 15 = .ok (.iload_n 2, 1) := by decide +kernel
theorem dX12_sits_16 : decode cX12_sits 16 = .ok (.ireturn, 1) := by decide +kernel
theorem dX12_sits_17 : decode cX12_sits 17 = .ok (.aload_n 0, 1) := by decide +kernel
theorem dX12_sits_18 : decode cX12_sits 18 = .ok (.iload_n 1, 1) := by decide +kernel
theorem dX12_sits_19 : decode cX12_sits 19 = .ok (.putfield 366, 3) := by decide +kernel
theorem dX12_sits_22 : decode cX12_sits 22 = .ok (.aload_n 0, 1) := by decide +kernel
theorem dX12_sits_23 : decode cX12_sits 23 = .ok (.iconst (-1), 1) := by decide +kernel
theorem dX12_sits_24 : decode cX12_sits 24 = .ok (.invokevirtual 388, 3) := by decide +kernel
theorem dX12_sits_27 : decode cX12_sits 27 = .ok (.ireturn, 1) := by decide +kernel
def r_sits (F : Nat) (I : Nat → Nat → Int32) (J : Nat → Nat → Int64) (z : Nat) (v1 : Int32) : Option (Int32 × (Nat → Nat → Int32)) := let I1 := uI I z 0 0; (r_noSits F I1 J z v1).bind (fun q3 => let u5 := q3; if u5 = 0 then (let I7 := uI I1 z 24 v1; (r_laysMusic F I7 J z (-1)).bind (fun q9 => let u11 := q9.1; let I12 := q9.2; some (u11, I12))) else (some (u5, I1)))
theorem c_r_sits {l : Launch} {D : va_G} {E : Nat → ClassId} {B : Nat → Prop} {n F : Nat} {T : Nat → Option (Nat × Nat)} {I : Nat → Nat → Int32} {J : Nat → Nat → Int64} {P : Nat → Nat → Option Nat} {z : Nat} {v1 : Int32} {r : Int32 × (Nat → Nat → Int32)} (hs_z : isMd T P z) (hf : r_sits F I J z v1 = some r) : Ct l D E B yX12_sits cX12_sits 3 (some .int) 22 0 0 [.ref z, .int v1] (n, T, I, J, P) (Ret (some (.int r.1)) (n, T, r.2, J, P)) := by
  unfold r_sits at hf
  refine Ct.ofV (by decide) (Nat.le_of_ble_eq_true rfl) ?_
  refine V.aload_n dX12_sits_0 rfl ?_
  refine V.iconst (v := 0) dX12_sits_1 (by decide) ?_
  refine V.putiE fl_X12_1 dX12_sits_2 (hs_z.1 0 (12, 0) rfl) (by decide) (fun h => by cases h) rfl rfl rfl (Nat.le_of_ble_eq_true rfl) (fun I1 e2 => ?_)
  rw [← e2] at hf
  try dsimp only at hf
  clear e2
  refine V.aload_n dX12_sits_5 rfl ?_
  refine V.iload_n dX12_sits_6 rfl ?_
  obtain ⟨u5, hk4, hf⟩ := bnd_some hf
  try dsimp only at hf
  refine V.inv cv_X12_395 (c_r_noSits hs_z hk4) dX12_sits_7 (hs_z.1 0 (12, 0) rfl) (by decide) rfl rfl rfl (Nat.le_of_ble_eq_true rfl) (by decide) (by decide) (Nat.le_refl _) (Nat.le_refl _) (fun _ _ hq => ?_)
  obtain ⟨rfl, rfl⟩ := hq
  refine V.istore_n dX12_sits_10 rfl (by decide) (by first | exact rfl | exact trivial) ?_
  refine V.iload_n dX12_sits_11 rfl ?_
  refine V.if_eq 17 dX12_sits_12 (by decide) (fun c6 => ?_) (fun c6 => ?_)
  · rw [if_pos c6] at hf
    refine V.aload_n dX12_sits_17 rfl ?_
    refine V.iload_n dX12_sits_18 rfl ?_
    refine V.putiE fl_X12_366 dX12_sits_19 (hs_z.1 0 (12, 0) rfl) (by decide) (fun h => by cases h) rfl rfl rfl (Nat.le_of_ble_eq_true rfl) (fun I7 e8 => ?_)
    rw [← e8] at hf
    try dsimp only at hf
    clear e8
    refine V.aload_n dX12_sits_22 rfl ?_
    refine V.iconst (v := -1) dX12_sits_23 (by decide) ?_
    obtain ⟨⟨u11, I12⟩, hk10, hf⟩ := bnd_some hf
    try dsimp only at hf
    refine V.inv cv_X12_388 (c_r_laysMusic hs_z hk10) dX12_sits_24 (hs_z.1 0 (12, 0) rfl) (by decide) rfl rfl rfl (Nat.le_of_ble_eq_true rfl) (by decide) (by decide) (Nat.le_refl _) (Nat.le_refl _) (fun _ _ hq => ?_)
    obtain ⟨rfl, rfl⟩ := hq
    try dsimp only
    obtain rfl := Option.some.inj hf
    exact V.iret dX12_sits_27 rfl (Nat.le_refl _) (Nat.le_refl _) ⟨rfl, rfl⟩
  · rw [if_neg c6] at hf
    refine V.iload_n dX12_sits_15 rfl ?_
    obtain rfl := Option.some.inj hf
    exact V.iret dX12_sits_16 rfl (Nat.le_refl _) (Nat.le_refl _) ⟨rfl, rfl⟩
theorem dX12_sitsBy_0 : decode cX12_sitsBy 0 = .ok (.aload_n 0, 1) := by decide +kernel
theorem dX12_sitsBy_1 : decode cX12_sitsBy 1 = .ok (.iconst 0, 1) := by decide +kernel
theorem dX12_sitsBy_2 : decode cX12_sitsBy 2 = .ok (.putfield 1, 3) := by decide +kernel
theorem dX12_sitsBy_5 : decode cX12_sitsBy 5 = .ok (.aload_n 0, 1) := by decide +kernel
theorem dX12_sitsBy_6 : decode cX12_sitsBy 6 = .ok (.iload_n 1, 1) := by decide +kernel
theorem dX12_sitsBy_7 : decode cX12_sitsBy 7 = .ok (.invokevirtual 395, 3) := by decide +kernel
theorem dX12_sitsBy_10 : decode cX12_sitsBy 10 = .ok (.istore_n 3, 1) := by decide +kernel
theorem dX12_sitsBy_11 : decode cX12_sitsBy 11 = .ok (.iload_n 3, 1) := by decide +kernel
theorem dX12_sitsBy_12 : decode cX12_sitsBy 12 = .ok (.ifCond .eq 5, 3) := by decide +kernel
theorem dX12_sitsBy_15 : decode cX12_sitsBy 15 = .ok (.iload_n 3, 1) := by decide +kernel
theorem dX12_sitsBy_16 : decode cX12_sitsBy 16 = .ok (.ireturn, 1) := by decide +kernel
theorem dX12_sitsBy_17 : decode cX12_sitsBy 17 = .ok (.iload_n 2, 1) := by decide +kernel
theorem dX12_sitsBy_18 : decode cX12_sitsBy 18 = .ok (.ifCond .ge 6, 3) := by decide +kernel
theorem dX12_sitsBy_21 : decode cX12_sitsBy 21 = .ok (.bipush (-3), 2) := by decide +kernel
theorem dX12_sitsBy_23 : decode cX12_sitsBy 23 = .ok (.ireturn, 1) := by decide +kernel
theorem dX12_sitsBy_24 : decode cX12_sitsBy 24 = .ok (.aload_n 0, 1) := by decide +kernel
theorem dX12_sitsBy_25 : decode cX12_sitsBy 25 = .ok (.iload_n 1, 1) := by decide +kernel
theorem dX12_sitsBy_26 : decode cX12_sitsBy 26 = .ok (.putfield 366, 3) := by decide +kernel
theorem dX12_sitsBy_29 : decode cX12_sitsBy 29 = .ok (.iload_n 2, 1) := by decide +kernel
theorem dX12_sitsBy_30 : decode cX12_sitsBy 30 = .ok (.aload_n 0, 1) := by decide +kernel
theorem dX12_sitsBy_31 : decode cX12_sitsBy 31 = .ok (.iconst (-1), 1) := by decide +kernel
theorem dX12_sitsBy_32 : decode cX12_sitsBy 32 = .ok (.invokevirtual 388, 3) := by decide +kernel
theorem dX12_sitsBy_35 : decode cX12_sitsBy 35 = .ok (.if_icmp .ge 12, 3) := by decide +kernel
theorem dX12_sitsBy_38 : decode cX12_sitsBy 38 = .ok (.aload_n 0, 1) := by decide +kernel
theorem dX12_sitsBy_39 : decode cX12_sitsBy 39 = .ok (.getfield 48, 3) := by decide +kernel
theorem dX12_sitsBy_42 : decode cX12_sitsBy 42 = .ok (.iload_n 2, 1) := by decide +kernel
theorem dX12_sitsBy_43 : decode cX12_sitsBy 43 = .ok (.iaload, 1) := by decide +kernel
theorem dX12_sitsBy_44 : decode cX12_sitsBy 44 = .ok (.goto 4, 3) := by decide +kernel
theorem dX12_sitsBy_47 : decode cX12_sitsBy 47 = .ok (.iconst (-1), 1) := by decide +kernel
theorem dX12_sitsBy_48 : decode cX12_sitsBy 48 = .ok (.ireturn, 1) := by decide +kernel
def r_sitsBy (F : Nat) (I : Nat → Nat → Int32) (J : Nat → Nat → Int64) (z : Nat) (v1 : Int32) (v2 : Int32) : Option (Int32 × (Nat → Nat → Int32)) := let I1 := uI I z 0 0; (r_noSits F I1 J z v1).bind (fun q3 => let u5 := q3; if u5 = 0 then (if 0 ≤ v2 then (let I8 := uI I1 z 24 v1; (r_laysMusic F I8 J z (-1)).bind (fun q10 => let u12 := q10.1; let I13 := q10.2; if u12 ≤ v2 then (some ((-1), I13)) else (chk v2 8 (some ((I13 (z + 11) (Int32.toNatClampNeg v2)), I13))))) else (some ((-3), I1))) else (some (u5, I1)))
theorem c_r_sitsBy {l : Launch} {D : va_G} {E : Nat → ClassId} {B : Nat → Prop} {n F : Nat} {T : Nat → Option (Nat × Nat)} {I : Nat → Nat → Int32} {J : Nat → Nat → Int64} {P : Nat → Nat → Option Nat} {z : Nat} {v1 : Int32} {v2 : Int32} {r : Int32 × (Nat → Nat → Int32)} (hs_z : isMd T P z) (hf : r_sitsBy F I J z v1 v2 = some r) : Ct l D E B yX12_sitsBy cX12_sitsBy 4 (some .int) 22 0 0 [.ref z, .int v1, .int v2] (n, T, I, J, P) (Ret (some (.int r.1)) (n, T, r.2, J, P)) := by
  unfold r_sitsBy at hf
  refine Ct.ofV (by decide) (Nat.le_of_ble_eq_true rfl) ?_
  refine V.aload_n dX12_sitsBy_0 rfl ?_
  refine V.iconst (v := 0) dX12_sitsBy_1 (by decide) ?_
  refine V.putiE fl_X12_1 dX12_sitsBy_2 (hs_z.1 0 (12, 0) rfl) (by decide) (fun h => by cases h) rfl rfl rfl (Nat.le_of_ble_eq_true rfl) (fun I1 e2 => ?_)
  rw [← e2] at hf
  try dsimp only at hf
  clear e2
  refine V.aload_n dX12_sitsBy_5 rfl ?_
  refine V.iload_n dX12_sitsBy_6 rfl ?_
  obtain ⟨u5, hk4, hf⟩ := bnd_some hf
  try dsimp only at hf
  refine V.inv cv_X12_395 (c_r_noSits hs_z hk4) dX12_sitsBy_7 (hs_z.1 0 (12, 0) rfl) (by decide) rfl rfl rfl (Nat.le_of_ble_eq_true rfl) (by decide) (by decide) (Nat.le_refl _) (Nat.le_refl _) (fun _ _ hq => ?_)
  obtain ⟨rfl, rfl⟩ := hq
  refine V.istore_n dX12_sitsBy_10 rfl (by decide) (by first | exact rfl | exact trivial) ?_
  refine V.iload_n dX12_sitsBy_11 rfl ?_
  refine V.if_eq 17 dX12_sitsBy_12 (by decide) (fun c6 => ?_) (fun c6 => ?_)
  · rw [if_pos c6] at hf
    refine V.iload_n dX12_sitsBy_17 rfl ?_
    refine V.if_ge 24 dX12_sitsBy_18 (by decide) (fun c7 => ?_) (fun c7 => ?_)
    · rw [if_pos c7] at hf
      refine V.aload_n dX12_sitsBy_24 rfl ?_
      refine V.iload_n dX12_sitsBy_25 rfl ?_
      refine V.putiE fl_X12_366 dX12_sitsBy_26 (hs_z.1 0 (12, 0) rfl) (by decide) (fun h => by cases h) rfl rfl rfl (Nat.le_of_ble_eq_true rfl) (fun I8 e9 => ?_)
      rw [← e9] at hf
      try dsimp only at hf
      clear e9
      refine V.iload_n dX12_sitsBy_29 rfl ?_
      refine V.aload_n dX12_sitsBy_30 rfl ?_
      refine V.iconst (v := -1) dX12_sitsBy_31 (by decide) ?_
      obtain ⟨⟨u12, I13⟩, hk11, hf⟩ := bnd_some hf
      try dsimp only at hf
      refine V.inv cv_X12_388 (c_r_laysMusic hs_z hk11) dX12_sitsBy_32 (hs_z.1 0 (12, 0) rfl) (by decide) rfl rfl rfl (Nat.le_of_ble_eq_true rfl) (by decide) (by decide) (Nat.le_refl _) (Nat.le_refl _) (fun _ _ hq => ?_)
      obtain ⟨rfl, rfl⟩ := hq
      try dsimp only
      refine V.icmp_ge 47 dX12_sitsBy_35 (by decide) (fun c14 => ?_) (fun c14 => ?_)
      · rw [if_pos c14] at hf
        refine V.iconst (v := -1) dX12_sitsBy_47 (by decide) ?_
        obtain rfl := Option.some.inj hf
        exact V.iret dX12_sitsBy_48 rfl (Nat.le_refl _) (Nat.le_refl _) ⟨rfl, rfl⟩
      · rw [if_neg c14] at hf
        refine V.aload_n dX12_sitsBy_38 rfl ?_
        refine V.getr fl_X12_48 dX12_sitsBy_39 (hs_z.1 0 (12, 0) rfl) (hs_z.2 0 23 11 rfl) (by decide) rfl ?_
        refine V.iload_n dX12_sitsBy_42 rfl ?_
        obtain ⟨hb15, hf⟩ := chk_some hf
        refine V.iald dX12_sitsBy_43 (hs_z.1 11 (20, 8) rfl) hb15 ?_
        refine V.goto 48 dX12_sitsBy_44 (by decide) ?_
        obtain rfl := Option.some.inj hf
        exact V.iret dX12_sitsBy_48 rfl (Nat.le_refl _) (Nat.le_refl _) ⟨rfl, rfl⟩
    · rw [if_neg c7] at hf
      refine V.bipush (v := -3) dX12_sitsBy_21 (by decide) ?_
      obtain rfl := Option.some.inj hf
      exact V.iret dX12_sitsBy_23 rfl (Nat.le_refl _) (Nat.le_refl _) ⟨rfl, rfl⟩
  · rw [if_neg c6] at hf
    refine V.iload_n dX12_sitsBy_15 rfl ?_
    obtain rfl := Option.some.inj hf
    exact V.iret dX12_sitsBy_16 rfl (Nat.le_refl _) (Nat.le_refl _) ⟨rfl, rfl⟩
theorem dX12_lists_0 : decode cX12_lists 0 = .ok (.aload_n 0, 1) := by decide +kernel
theorem dX12_lists_1 : decode cX12_lists 1 = .ok (.iconst 0, 1) := by decide +kernel
theorem dX12_lists_2 : decode cX12_lists 2 = .ok (.putfield 1, 3) := by decide +kernel
theorem dX12_lists_5 : decode cX12_lists 5 = .ok (.iload_n 1, 1) := by decide +kernel
theorem dX12_lists_6 : decode cX12_lists 6 = .ok (.i2l, 1) := by decide +kernel
theorem dX12_lists_7 : decode cX12_lists 7 = .ok (.lconst 0, 1) := by decide +kernel
theorem dX12_lists_8 : decode cX12_lists 8 = .ok (.ldc2_w 316, 3) := by decide +kernel
theorem dX12_lists_11 : decode cX12_lists 11 = .ok (.invokestatic 145, 3) := by decide +kernel
theorem dX12_lists_14 : decode cX12_lists 14 = .ok (.ifCond .eq 12, 3) := by decide +kernel
theorem dX12_lists_17 : decode cX12_lists 17 = .ok (.aload_n 0, 1) := by decide +kernel
theorem dX12_lists_18 : decode cX12_lists 18 = .ok (.iload_n 2, 1) := by decide +kernel
theorem dX12_lists_19 : decode cX12_lists 19 = .ok (.i2l, 1) := by decide +kernel
theorem dX12_lists_20 : decode cX12_lists 20 = .ok (.invokevirtual 210, 3) := by decide +kernel
theorem dX12_lists_23 : decode cX12_lists 23 = .ok (.ifCond .ne 6, 3) := by decide +kernel
theorem dX12_lists_26 : decode cX12_lists 26 = .ok (.bipush (-2), 2) := by decide +kernel
theorem dX12_lists_28 : decode cX12_lists 28 = .ok (.ireturn, 1) := by decide +kernel
theorem dX12_lists_29 : decode cX12_lists 29 = .ok (.aload_n 0, 1) := by decide +kernel
theorem dX12_lists_30 : decode cX12_lists 30 = .ok (.iload_n 1, 1) := by decide +kernel
theorem dX12_lists_31 : decode cX12_lists 31 = .ok (.invokevirtual 318, 3) := by decide +kernel
theorem dX12_lists_34 : decode cX12_lists 34 = .ok (.istore_n 3, 1) := by decide +kernel
theorem dX12_lists_35 : decode cX12_lists 35 = .ok (.iload_n 3, 1) := by decide +kernel
theorem dX12_lists_36 : decode cX12_lists 36 = .ok (.ifCond .eq 5, 3) := by decide +kernel
theorem dX12_lists_39 : decode cX12_lists 39 = .ok (.iload_n 3, 1) := by decide +kernel
theorem dX12_lists_40 : decode cX12_lists 40 = .ok (.ireturn, 1) := by decide +kernel
theorem dX12_lists_41 : decode cX12_lists 41 = .ok (.aload_n 0, 1) := by decide +kernel
theorem dX12_lists_42 : decode cX12_lists 42 = .ok (.iload_n 2, 1) := by decide +kernel
theorem dX12_lists_43 : decode cX12_lists 43 = .ok (.invokevirtual 218, 3) := by decide +kernel
theorem dX12_lists_46 : decode cX12_lists 46 = .ok (.ifCond .eq 11, 3) := by decide +kernel
theorem dX12_lists_49 : decode cX12_lists 49 = .ok (.aload_n 0, 1) := by decide +kernel
theorem dX12_lists_50 : decode cX12_lists 50 = .ok (.iload_n 2, 1) := by decide +kernel
theorem dX12_lists_51 : decode cX12_lists 51 = .ok (.invokevirtual 388, 3) := by decide +kernel
theorem dX12_lists_54 : decode cX12_lists 54 = .ok (.goto 4, 3) := by decide +kernel
theorem dX12_lists_57 : decode cX12_lists 57 = .ok (.iconst (-1), 1) := by decide +kernel
theorem dX12_lists_58 : decode cX12_lists 58 = .ok (.istore 4, 2) := by decide +kernel
theorem dX12_lists_60 : decode cX12_lists 60 = .ok (.iload 4, 2) := by decide +kernel
theorem dX12_lists_62 : decode cX12_lists 62 = .ok (.iconst (-1), 1) := by decide +kernel
theorem dX12_lists_63 : decode cX12_lists 63 = .ok (.if_icmp .ne 6, 3) := by decide +kernel
theorem dX12_lists_66 : decode cX12_lists 66 = .ok (.bipush (-5), 2) := by decide +kernel
theorem dX12_lists_68 : decode cX12_lists 68 = .ok (.ireturn, 1) := by decide +kernel
theorem dX12_lists_69 : decode cX12_lists 69 = .ok (.iload 4, 2) := by decide +kernel
theorem dX12_lists_71 : decode cX12_lists 71 = .ok (.aload_n 0, 1) := by decide +kernel
theorem dX12_lists_72 : decode cX12_lists 72 = .ok (.getfield 73, 3) := by decide +kernel
theorem dX12_lists_75 : decode cX12_lists 75 = .ok (.iload_n 1, 1) := by decide +kernel
theorem dX12_lists_76 : decode cX12_lists 76 = .ok (.iaload, 1) := by decide +kernel
theorem dX12_lists_77 : decode cX12_lists 77 = .ok (.if_icmp .ge 8, 3) := by decide +kernel
theorem dX12_lists_80 : decode cX12_lists 80 = .ok (.iload 4, 2) := by decide +kernel
theorem dX12_lists_82 : decode cX12_lists 82 = .ok (.goto 9, 3) := by decide +kernel
theorem dX12_lists_85 : decode cX12_lists 85 = .ok (.aload_n 0, 1) := by decide +kernel
theorem dX12_lists_86 : decode cX12_lists 86 = .ok (.getfield 73, 3) := by decide +kernel
theorem dX12_lists_89 : decode cX12_lists 89 = .ok (.iload_n 1, 1) := by decide +kernel
theorem dX12_lists_90 : decode cX12_lists 90 = .ok (.iaload, 1) := by decide +kernel
theorem dX12_lists_91 : decode cX12_lists 91 = .ok (.istore 5, 2) := by decide +kernel
theorem dX12_lists_93 : decode cX12_lists 93 = .ok (.iconst 0, 1) := by decide +kernel
theorem dX12_lists_94 : decode cX12_lists 94 = .ok (.istore 6, 2) := by decide +kernel
theorem dX12_lists_96 : decode cX12_lists 96 = .ok (.iload 6, 2) := by decide +kernel
theorem dX12_lists_98 : decode cX12_lists 98 = .ok (.iload 5, 2) := by decide +kernel
theorem dX12_lists_100 : decode cX12_lists 100 = .ok (.if_icmp .ge 29, 3) := by decide +kernel
theorem dX12_lists_103 : decode cX12_lists 103 = .ok (.aload_n 0, 1) := by decide +kernel
theorem dX12_lists_104 : decode cX12_lists 104 = .ok (.getfield 76, 3) := by decide +kernel
theorem dX12_lists_107 : decode cX12_lists 107 = .ok (.bipush 40, 2) := by decide +kernel
theorem dX12_lists_109 : decode cX12_lists 109 = .ok (.iload_n 1, 1) := by decide +kernel
theorem dX12_lists_110 : decode cX12_lists 110 = .ok (.imul, 1) := by decide +kernel
theorem dX12_lists_111 : decode cX12_lists 111 = .ok (.iload 6, 2) := by decide +kernel
theorem dX12_lists_113 : decode cX12_lists 113 = .ok (.iadd, 1) := by decide +kernel
theorem dX12_lists_114 : decode cX12_lists 114 = .ok (.aload_n 0, 1) := by decide +kernel
theorem dX12_lists_115 : decode cX12_lists 115 = .ok (.getfield 48, 3) := by decide +kernel
theorem dX12_lists_118 : decode cX12_lists 118 = .ok (.iload 6, 2) := by decide +kernel
theorem dX12_lists_120 : decode cX12_lists 120 = .ok (.iaload, 1) := by decide +kernel
theorem dX12_lists_121 : decode cX12_lists 121 = .ok (.i2l, 1) := by decide +kernel
theorem dX12_lists_122 : decode cX12_lists 122 = .ok (.lastore, 1) := by decide +kernel
theorem dX12_lists_123 : decode cX12_lists 123 = .ok (.iinc 6 1, 3) := by decide +kernel
theorem dX12_lists_126 : decode cX12_lists 126 = .ok (.goto (-30), 3) := by decide +kernel
theorem dX12_lists_129 : decode cX12_lists 129 = .ok (.iload 5, 2) := by decide +kernel
theorem dX12_lists_131 : decode cX12_lists 131 = .ok (.ireturn, 1) := by decide +kernel
def r_lists_96 (F : Nat) (I : Nat → Nat → Int32) (z : Nat) (g1 : Int32) (g2 : Int32) (g3 : Int32) (g4 : Int32) (g5 : Int32) : Nat → Int32 → (Nat → Nat → Int64) → Option (Int32 × (Nat → Nat → Int64))
  | 0, _, _ => none
  | k + 1, l6, J => if g5 ≤ l6 then (some (l6, J)) else (chk l6 8 (chk ((40 * g1) + l6) 160 (let J29 := uJ J (z + 20) (Int32.toNatClampNeg ((40 * g1) + l6)) (Int32.toInt64 (I (z + 11) (Int32.toNatClampNeg l6))); r_lists_96 F I z g1 g2 g3 g4 g5 k (l6 + 1) J29)))
def r_lists (F : Nat) (I : Nat → Nat → Int32) (J : Nat → Nat → Int64) (z : Nat) (v1 : Int32) (v2 : Int32) : Option (Int32 × (Nat → Nat → Int32) × (Nat → Nat → Int64)) := let I1 := uI I z 0 0; if (r_within (Int32.toInt64 v1) 0 3) = 0 then (some ((-2), I1, J)) else ((r_isPerson I1 z (Int32.toInt64 v2)).bind (fun q4 => let u6 := q4; if u6 = 0 then (some ((-2), I1, J)) else ((r_noTray I1 z v1).bind (fun q8 => let u10 := q8; if u10 = 0 then ((r_isUp I1 z v2).bind (fun q12 => let u14 := q12; if u14 = 0 then (some ((-5), I1, J)) else ((r_laysMusic F I1 J z v2).bind (fun q17 => let u19 := q17.1; let I20 := q17.2; if u19 = (-1) then (some ((-5), I20, J)) else (chk v1 4 (if (I20 (z + 19) (Int32.toNatClampNeg v1)) ≤ u19 then (let x24 := (I20 (z + 19) (Int32.toNatClampNeg v1)); (r_lists_96 F I20 z v1 v2 u10 u19 x24 F 0 J).bind (fun q31 => let m33 := q31.1; let J34 := q31.2; some (x24, I20, J34))) else ((r_lists_96 F I20 z v1 v2 u10 u19 u19 F 0 J).bind (fun q35 => let m37 := q35.1; let J38 := q35.2; some (u19, I20, J38))))))))) else (some (u10, I1, J))))))
theorem l_r_lists_96 {l : Launch} {D : va_G} {E : Nat → ClassId} {B : Nat → Prop} {n F : Nat} {Q : Option Value → HT → Prop} {T : Nat → Option (Nat × Nat)} {I : Nat → Nat → Int32} {P : Nat → Nat → Option Nat} {z : Nat} {g1 : Int32} {g2 : Int32} {g3 : Int32} {g4 : Int32} {g5 : Int32} (hs_z : isMd T P z)  (r : Int32 × (Nat → Nat → Int64)) : ∀ (k : Nat) (l6 : Int32) (J : (Nat → Nat → Int64)), r_lists_96 F I z g1 g2 g3 g4 g5 k l6 J = some r → V l D E B yX12_lists cX12_lists 7 (some .int) 22 0 0 Q 0 0 (n, T, I, r.2, P) 129 [(0, some (.ref z)), (1, some (.int g1)), (2, some (.int g2)), (3, some (.int g3)), (4, some (.int g4)), (5, some (.int g5)), (6, some (.int (r.1)))] [] → V l D E B yX12_lists cX12_lists 7 (some .int) 22 0 0 Q 0 0 (n, T, I, J, P) 96 [(0, some (.ref z)), (1, some (.int g1)), (2, some (.int g2)), (3, some (.int g3)), (4, some (.int g4)), (5, some (.int g5)), (6, some (.int l6))] [] := by
  intro k
  induction k with
  | zero =>
    intro l6 J hf hk
    cases hf
  | succ k ih =>
    intro l6 J hf hk
    unfold r_lists_96 at hf
    refine V.iload dX12_lists_96 rfl ?_
    refine V.iload dX12_lists_98 rfl ?_
    refine V.icmp_ge 129 dX12_lists_100 (by decide) (fun c26 => ?_) (fun c26 => ?_)
    · rw [if_pos c26] at hf
      obtain rfl := Option.some.inj hf
      exact V.lo [(0, some (.ref z)), (1, some (.int g1)), (2, some (.int g2)), (3, some (.int g3)), (4, some (.int g4)), (5, some (.int g5)), (6, some (.int l6))] (by simp only [Subs]; repeat' first | exact trivial | constructor | rfl) hk
    · rw [if_neg c26] at hf
      refine V.aload_n dX12_lists_103 rfl ?_
      refine V.getr fl_X12_76 dX12_lists_104 (hs_z.1 0 (12, 0) rfl) (hs_z.2 0 35 20 rfl) (by decide) rfl ?_
      refine V.bipush (v := 40) dX12_lists_107 (by decide) ?_
      refine V.iload_n dX12_lists_109 rfl ?_
      refine V.imul dX12_lists_110 ?_
      refine V.iload dX12_lists_111 rfl ?_
      refine V.iadd dX12_lists_113 ?_
      refine V.aload_n dX12_lists_114 rfl ?_
      refine V.getr fl_X12_48 dX12_lists_115 (hs_z.1 0 (12, 0) rfl) (hs_z.2 0 23 11 rfl) (by decide) rfl ?_
      refine V.iload dX12_lists_118 rfl ?_
      obtain ⟨hb27, hf⟩ := chk_some hf
      refine V.iald dX12_lists_120 (hs_z.1 11 (20, 8) rfl) hb27 ?_
      refine V.i2l dX12_lists_121 ?_
      obtain ⟨hb28, hf⟩ := chk_some hf
      refine V.lastE dX12_lists_122 (hs_z.1 20 (22, 160) rfl) hb28 (fun J29 e30 => ?_)
      rw [← e30] at hf
      try dsimp only at hf
      clear e30
      refine V.iinc (v := (l6 + 1)) dX12_lists_123 rfl rfl (by first | exact rfl | exact trivial) ?_
      refine V.goto 96 dX12_lists_126 (by decide) ?_
      exact V.lo [(0, some (.ref z)), (1, some (.int g1)), (2, some (.int g2)), (3, some (.int g3)), (4, some (.int g4)), (5, some (.int g5)), (6, some (.int (l6 + 1)))] (by simp only [Subs]; repeat' first | exact trivial | constructor | rfl) (ih _ _ hf hk)
theorem c_r_lists {l : Launch} {D : va_G} {E : Nat → ClassId} {B : Nat → Prop} {n F : Nat} {T : Nat → Option (Nat × Nat)} {I : Nat → Nat → Int32} {J : Nat → Nat → Int64} {P : Nat → Nat → Option Nat} {z : Nat} {v1 : Int32} {v2 : Int32} {r : Int32 × (Nat → Nat → Int32) × (Nat → Nat → Int64)} (hs_z : isMd T P z) (hf : r_lists F I J z v1 v2 = some r) : Ct l D E B yX12_lists cX12_lists 7 (some .int) 22 0 0 [.ref z, .int v1, .int v2] (n, T, I, J, P) (Ret (some (.int r.1)) (n, T, r.2.1, r.2.2, P)) := by
  unfold r_lists at hf
  refine Ct.ofV (by decide) (Nat.le_of_ble_eq_true rfl) ?_
  refine V.aload_n dX12_lists_0 rfl ?_
  refine V.iconst (v := 0) dX12_lists_1 (by decide) ?_
  refine V.putiE fl_X12_1 dX12_lists_2 (hs_z.1 0 (12, 0) rfl) (by decide) (fun h => by cases h) rfl rfl rfl (Nat.le_of_ble_eq_true rfl) (fun I1 e2 => ?_)
  rw [← e2] at hf
  try dsimp only at hf
  clear e2
  refine V.iload_n dX12_lists_5 rfl ?_
  refine V.i2l dX12_lists_6 ?_
  refine V.lconst (v := 0) dX12_lists_7 (by decide) ?_
  refine V.ldc2 dX12_lists_8 kc_X12_316 ?_
  refine V.ins cs_X12_145 (c_r_within) dX12_lists_11 rfl rfl (Nat.le_of_ble_eq_true rfl) (by decide) (by decide) (Nat.le_refl _) (Nat.le_refl _) (fun _ _ hq => ?_)
  obtain ⟨rfl, rfl⟩ := hq
  refine V.if_eq 26 dX12_lists_14 (by decide) (fun c3 => ?_) (fun c3 => ?_)
  · rw [if_pos c3] at hf
    refine V.bipush (v := -2) dX12_lists_26 (by decide) ?_
    obtain rfl := Option.some.inj hf
    exact V.iret dX12_lists_28 rfl (Nat.le_refl _) (Nat.le_refl _) ⟨rfl, rfl⟩
  · rw [if_neg c3] at hf
    refine V.aload_n dX12_lists_17 rfl ?_
    refine V.iload_n dX12_lists_18 rfl ?_
    refine V.i2l dX12_lists_19 ?_
    obtain ⟨u6, hk5, hf⟩ := bnd_some hf
    try dsimp only at hf
    refine V.inv cv_X12_210 (c_r_isPerson hs_z hk5) dX12_lists_20 (hs_z.1 0 (12, 0) rfl) (by decide) rfl rfl rfl (Nat.le_of_ble_eq_true rfl) (by decide) (by decide) (Nat.le_refl _) (Nat.le_refl _) (fun _ _ hq => ?_)
    obtain ⟨rfl, rfl⟩ := hq
    refine V.if_ne 29 dX12_lists_23 (by decide) (fun c7 => ?_) (fun c7 => ?_)
    · rw [if_neg c7] at hf
      refine V.aload_n dX12_lists_29 rfl ?_
      refine V.iload_n dX12_lists_30 rfl ?_
      obtain ⟨u10, hk9, hf⟩ := bnd_some hf
      try dsimp only at hf
      refine V.inv cv_X12_318 (c_r_noTray hs_z hk9) dX12_lists_31 (hs_z.1 0 (12, 0) rfl) (by decide) rfl rfl rfl (Nat.le_of_ble_eq_true rfl) (by decide) (by decide) (Nat.le_refl _) (Nat.le_refl _) (fun _ _ hq => ?_)
      obtain ⟨rfl, rfl⟩ := hq
      refine V.istore_n dX12_lists_34 rfl (by decide) (by first | exact rfl | exact trivial) ?_
      refine V.iload_n dX12_lists_35 rfl ?_
      refine V.if_eq 41 dX12_lists_36 (by decide) (fun c11 => ?_) (fun c11 => ?_)
      · rw [if_pos c11] at hf
        refine V.aload_n dX12_lists_41 rfl ?_
        refine V.iload_n dX12_lists_42 rfl ?_
        obtain ⟨u14, hk13, hf⟩ := bnd_some hf
        try dsimp only at hf
        refine V.inv cv_X12_218 (c_r_isUp hs_z hk13) dX12_lists_43 (hs_z.1 0 (12, 0) rfl) (by decide) rfl rfl rfl (Nat.le_of_ble_eq_true rfl) (by decide) (by decide) (Nat.le_refl _) (Nat.le_refl _) (fun _ _ hq => ?_)
        obtain ⟨rfl, rfl⟩ := hq
        refine V.if_eq 57 dX12_lists_46 (by decide) (fun c15 => ?_) (fun c15 => ?_)
        · rw [if_pos c15] at hf
          refine V.iconst (v := -1) dX12_lists_57 (by decide) ?_
          refine V.istore dX12_lists_58 (by decide) (by first | exact rfl | exact trivial) ?_
          refine V.iload dX12_lists_60 rfl ?_
          refine V.iconst (v := -1) dX12_lists_62 (by decide) ?_
          refine V.icmp_ne 69 dX12_lists_63 (by decide) (fun c16 => absurd c16 (by decide)) (fun c16 => ?_)
          refine V.bipush (v := -5) dX12_lists_66 (by decide) ?_
          obtain rfl := Option.some.inj hf
          exact V.iret dX12_lists_68 rfl (Nat.le_refl _) (Nat.le_refl _) ⟨rfl, rfl⟩
        · rw [if_neg c15] at hf
          refine V.aload_n dX12_lists_49 rfl ?_
          refine V.iload_n dX12_lists_50 rfl ?_
          obtain ⟨⟨u19, I20⟩, hk18, hf⟩ := bnd_some hf
          try dsimp only at hf
          refine V.inv cv_X12_388 (c_r_laysMusic hs_z hk18) dX12_lists_51 (hs_z.1 0 (12, 0) rfl) (by decide) rfl rfl rfl (Nat.le_of_ble_eq_true rfl) (by decide) (by decide) (Nat.le_refl _) (Nat.le_refl _) (fun _ _ hq => ?_)
          obtain ⟨rfl, rfl⟩ := hq
          try dsimp only
          refine V.goto 58 dX12_lists_54 (by decide) ?_
          refine V.istore dX12_lists_58 (by decide) (by first | exact rfl | exact trivial) ?_
          refine V.iload dX12_lists_60 rfl ?_
          refine V.iconst (v := -1) dX12_lists_62 (by decide) ?_
          refine V.icmp_ne 69 dX12_lists_63 (by decide) (fun c21 => ?_) (fun c21 => ?_)
          · rw [if_neg c21] at hf
            refine V.iload dX12_lists_69 rfl ?_
            refine V.aload_n dX12_lists_71 rfl ?_
            refine V.getr fl_X12_73 dX12_lists_72 (hs_z.1 0 (12, 0) rfl) (hs_z.2 0 34 19 rfl) (by decide) rfl ?_
            refine V.iload_n dX12_lists_75 rfl ?_
            obtain ⟨hb22, hf⟩ := chk_some hf
            refine V.iald dX12_lists_76 (hs_z.1 19 (20, 4) rfl) hb22 ?_
            refine V.icmp_ge 85 dX12_lists_77 (by decide) (fun c23 => ?_) (fun c23 => ?_)
            · rw [if_pos c23] at hf
              refine V.aload_n dX12_lists_85 rfl ?_
              refine V.getr fl_X12_73 dX12_lists_86 (hs_z.1 0 (12, 0) rfl) (hs_z.2 0 34 19 rfl) (by decide) rfl ?_
              refine V.iload_n dX12_lists_89 rfl ?_
              refine V.iald dX12_lists_90 (hs_z.1 19 (20, 4) rfl) hb22 ?_
              refine V.istore dX12_lists_91 (by decide) (by first | exact rfl | exact trivial) ?_
              obtain ⟨x24, e25⟩ : ∃ zz_, zz_ = (I20 (z + 19) (Int32.toNatClampNeg v1)) := ⟨_, rfl⟩
              rw [← e25] at hf ⊢
              try dsimp only at hf
              refine V.iconst (v := 0) dX12_lists_93 (by decide) ?_
              refine V.istore dX12_lists_94 (by decide) (by first | exact rfl | exact trivial) ?_
              obtain ⟨⟨m33, J34⟩, hk32, hf⟩ := bnd_some hf
              try dsimp only at hf
              refine V.lo [(0, some (.ref z)), (1, some (.int v1)), (2, some (.int v2)), (3, some (.int u10)), (4, some (.int u19)), (5, some (.int x24)), (6, some (.int 0))] (by simp only [Subs]; repeat' first | exact trivial | constructor | rfl) (l_r_lists_96 hs_z _ F _ _ hk32 ?_)
              try dsimp only
              refine V.iload dX12_lists_129 rfl ?_
              obtain rfl := Option.some.inj hf
              exact V.iret dX12_lists_131 rfl (Nat.le_refl _) (Nat.le_refl _) ⟨rfl, rfl⟩
            · rw [if_neg c23] at hf
              refine V.iload dX12_lists_80 rfl ?_
              refine V.goto 91 dX12_lists_82 (by decide) ?_
              refine V.istore dX12_lists_91 (by decide) (by first | exact rfl | exact trivial) ?_
              refine V.iconst (v := 0) dX12_lists_93 (by decide) ?_
              refine V.istore dX12_lists_94 (by decide) (by first | exact rfl | exact trivial) ?_
              obtain ⟨⟨m37, J38⟩, hk36, hf⟩ := bnd_some hf
              try dsimp only at hf
              refine V.lo [(0, some (.ref z)), (1, some (.int v1)), (2, some (.int v2)), (3, some (.int u10)), (4, some (.int u19)), (5, some (.int u19)), (6, some (.int 0))] (by simp only [Subs]; repeat' first | exact trivial | constructor | rfl) (l_r_lists_96 hs_z _ F _ _ hk36 ?_)
              try dsimp only
              refine V.iload dX12_lists_129 rfl ?_
              obtain rfl := Option.some.inj hf
              exact V.iret dX12_lists_131 rfl (Nat.le_refl _) (Nat.le_refl _) ⟨rfl, rfl⟩
          · rw [if_pos c21] at hf
            refine V.bipush (v := -5) dX12_lists_66 (by decide) ?_
            obtain rfl := Option.some.inj hf
            exact V.iret dX12_lists_68 rfl (Nat.le_refl _) (Nat.le_refl _) ⟨rfl, rfl⟩
      · rw [if_neg c11] at hf
        refine V.iload_n dX12_lists_39 rfl ?_
        obtain rfl := Option.some.inj hf
        exact V.iret dX12_lists_40 rfl (Nat.le_refl _) (Nat.le_refl _) ⟨rfl, rfl⟩
    · rw [if_pos c7] at hf
      refine V.bipush (v := -2) dX12_lists_26 (by decide) ?_
      obtain rfl := Option.some.inj hf
      exact V.iret dX12_lists_28 rfl (Nat.le_refl _) (Nat.le_refl _) ⟨rfl, rfl⟩
theorem dX12_orders_0 : decode cX12_orders 0 = .ok (.iload_n 3, 1) := by decide +kernel
theorem dX12_orders_1 : decode cX12_orders 1 = .ok (.aload_n 0, 1) := by decide +kernel
theorem dX12_orders_2 : decode cX12_orders 2 = .ok (.getfield 13, 3) := by decide +kernel
theorem dX12_orders_5 : decode cX12_orders 5 = .ok (.iconst 1, 1) := by decide +kernel
theorem dX12_orders_6 : decode cX12_orders 6 = .ok (.iaload, 1) := by decide +kernel
theorem dX12_orders_7 : decode cX12_orders 7 = .ok (.if_icmp .ne 99, 3) := by decide +kernel
theorem dX12_orders_10 : decode cX12_orders 10 = .ok (.iconst 0, 1) := by decide +kernel
theorem dX12_orders_11 : decode cX12_orders 11 = .ok (.istore 5, 2) := by decide +kernel
theorem dX12_orders_13 : decode cX12_orders 13 = .ok (.iload 5, 2) := by decide +kernel
theorem dX12_orders_15 : decode cX12_orders 15 = .ok (.aload_n 0, 1) := by decide +kernel
theorem dX12_orders_16 : decode cX12_orders 16 = .ok (.getfield 13, 3) := by decide +kernel
theorem dX12_orders_19 : decode cX12_orders 19 = .ok (.iconst 1, 1) := by decide +kernel
theorem dX12_orders_20 : decode cX12_orders 20 = .ok (.iaload, 1) := by decide +kernel
theorem dX12_orders_21 : decode cX12_orders 21 = .ok (.if_icmp .ge 26, 3) := by decide +kernel
theorem dX12_orders_24 : decode cX12_orders 24 = .ok (.aload_n 0, 1) := by decide +kernel
theorem dX12_orders_25 : decode cX12_orders 25 = .ok (.getfield 13, 3) := by decide +kernel
theorem dX12_orders_28 : decode cX12_orders 28 = .ok (.bipush 35, 2) := by decide +kernel
theorem dX12_orders_30 : decode cX12_orders 30 = .ok (.aload_n 0, 1) := by decide +kernel
theorem dX12_orders_31 : decode cX12_orders 31 = .ok (.getfield 51, 3) := by decide +kernel
theorem dX12_orders_34 : decode cX12_orders 34 = .ok (.iload 5, 2) := by decide +kernel
theorem dX12_orders_36 : decode cX12_orders 36 = .ok (.iaload, 1) := by decide +kernel
theorem dX12_orders_37 : decode cX12_orders 37 = .ok (.iadd, 1) := by decide +kernel
theorem dX12_orders_38 : decode cX12_orders 38 = .ok (.iload 5, 2) := by decide +kernel
theorem dX12_orders_40 : decode cX12_orders 40 = .ok (.iastore, 1) := by decide +kernel
theorem dX12_orders_41 : decode cX12_orders 41 = .ok (.iinc 5 1, 3) := by decide +kernel
theorem dX12_orders_44 : decode cX12_orders 44 = .ok (.goto (-31), 3) := by decide +kernel
theorem dX12_orders_47 : decode cX12_orders 47 = .ok (.aload_n 0, 1) := by decide +kernel
theorem dX12_orders_48 : decode cX12_orders 48 = .ok (.iload_n 1, 1) := by decide +kernel
theorem dX12_orders_49 : decode cX12_orders 49 = .ok (.iload_n 2, 1) := by decide +kernel
theorem dX12_orders_50 : decode cX12_orders 50 = .ok (.invokevirtual 351, 3) := by decide +kernel
theorem dX12_orders_53 : decode cX12_orders 53 = .ok (.istore 5, 2) := by decide +kernel
theorem dX12_orders_55 : decode cX12_orders 55 = .ok (.aload_n 0, 1) := by decide +kernel
theorem dX12_orders_56 : decode cX12_orders 56 = .ok (.invokevirtual 327, 3) := by decide +kernel
theorem dX12_orders_59 : decode cX12_orders 59 = .ok (.iload 5, 2) := by decide +kernel
theorem dX12_orders_61 : decode cX12_orders 61 = .ok (.aload_n 0, 1) := by decide +kernel
theorem dX12_orders_62 : decode cX12_orders 62 = .ok (.getfield 398, 3) := by decide +kernel
theorem dX12_orders_65 : decode cX12_orders 65 = .ok (.if_icmp .gt 4, 3) := by decide +kernel
theorem dX12_orders_68 : decode cX12_orders 68 = .ok (.return_, 1) := by decide +kernel
theorem dX12_orders_69 : decode cX12_orders 69 = .ok (.aload_n 0, 1) := by decide +kernel
theorem dX12_orders_70 : decode cX12_orders 70 = .ok (.iload 5, 2) := by decide +kernel
theorem dX12_orders_72 : decode cX12_orders 72 = .ok (.putfield 398, 3) := by decide +kernel
theorem dX12_orders_75 : decode cX12_orders 75 = .ok (.iconst 0, 1) := by decide +kernel
theorem dX12_orders_76 : decode cX12_orders 76 = .ok (.istore 6, 2) := by decide +kernel
theorem dX12_orders_78 : decode cX12_orders 78 = .ok (.iload 6, 2) := by decide +kernel
theorem dX12_orders_80 : decode cX12_orders 80 = .ok (.bipush 6, 2) := by decide +kernel
theorem dX12_orders_82 : decode cX12_orders 82 = .ok (.if_icmp .ge 23, 3) := by decide +kernel
theorem dX12_orders_85 : decode cX12_orders 85 = .ok (.aload_n 0, 1) := by decide +kernel
theorem dX12_orders_86 : decode cX12_orders 86 = .ok (.getfield 54, 3) := by decide +kernel
theorem dX12_orders_89 : decode cX12_orders 89 = .ok (.iload 6, 2) := by decide +kernel
theorem dX12_orders_91 : decode cX12_orders 91 = .ok (.aload_n 0, 1) := by decide +kernel
theorem dX12_orders_92 : decode cX12_orders 92 = .ok (.getfield 51, 3) := by decide +kernel
theorem dX12_orders_95 : decode cX12_orders 95 = .ok (.iload 6, 2) := by decide +kernel
theorem dX12_orders_97 : decode cX12_orders 97 = .ok (.iaload, 1) := by decide +kernel
theorem dX12_orders_98 : decode cX12_orders 98 = .ok (.iastore, 1) := by decide +kernel
theorem dX12_orders_99 : decode cX12_orders 99 = .ok (.iinc 6 1, 3) := by decide +kernel
theorem dX12_orders_102 : decode cX12_orders 102 = .ok (.goto (-24), 3) := by decide +kernel
theorem dX12_orders_105 : decode cX12_orders 105 = .ok (.return_, 1) := by decide +kernel
theorem dX12_orders_106 : decode cX12_orders 106 = .ok (.iconst 0, 1) := by decide +kernel
theorem dX12_orders_107 : decode cX12_orders 107 = .ok (.istore 5, 2) := by decide +kernel
theorem dX12_orders_109 : decode cX12_orders 109 = .ok (.iload 5, 2) := by decide +kernel
theorem dX12_orders_111 : decode cX12_orders 111 = .ok (.aload_n 0, 1) := by decide +kernel
theorem dX12_orders_112 : decode cX12_orders 112 = .ok (.getfield 13, 3) := by decide +kernel
theorem dX12_orders_115 : decode cX12_orders 115 = .ok (.iconst 1, 1) := by decide +kernel
theorem dX12_orders_116 : decode cX12_orders 116 = .ok (.iaload, 1) := by decide +kernel
theorem dX12_orders_117 : decode cX12_orders 117 = .ok (.if_icmp .ge 47, 3) := by decide +kernel
theorem dX12_orders_120 : decode cX12_orders 120 = .ok (.iload 4, 2) := by decide +kernel
theorem dX12_orders_122 : decode cX12_orders 122 = .ok (.i2l, 1) := by decide +kernel
theorem dX12_orders_123 : decode cX12_orders 123 = .ok (.iload 5, 2) := by decide +kernel
theorem dX12_orders_125 : decode cX12_orders 125 = .ok (.invokestatic 214, 3) := by decide +kernel
theorem dX12_orders_128 : decode cX12_orders 128 = .ok (.ifCond .eq 6, 3) := by decide +kernel
theorem dX12_orders_131 : decode cX12_orders 131 = .ok (.goto 27, 3) := by decide +kernel
theorem dX12_orders_134 : decode cX12_orders 134 = .ok (.aload_n 0, 1) := by decide +kernel
theorem dX12_orders_135 : decode cX12_orders 135 = .ok (.getfield 51, 3) := by decide +kernel
theorem dX12_orders_138 : decode cX12_orders 138 = .ok (.iload_n 3, 1) := by decide +kernel
theorem dX12_orders_139 : decode cX12_orders 139 = .ok (.iload 5, 2) := by decide +kernel
theorem dX12_orders_141 : decode cX12_orders 141 = .ok (.iastore, 1) := by decide +kernel
theorem dX12_orders_142 : decode cX12_orders 142 = .ok (.aload_n 0, 1) := by decide +kernel
theorem dX12_orders_143 : decode cX12_orders 143 = .ok (.iload_n 1, 1) := by decide +kernel
theorem dX12_orders_144 : decode cX12_orders 144 = .ok (.iload_n 2, 1) := by decide +kernel
theorem dX12_orders_145 : decode cX12_orders 145 = .ok (.iload_n 3, 1) := by decide +kernel
theorem dX12_orders_146 : decode cX12_orders 146 = .ok (.iconst 1, 1) := by decide +kernel
theorem dX12_orders_147 : decode cX12_orders 147 = .ok (.iadd, 1) := by decide +kernel
theorem dX12_orders_148 : decode cX12_orders 148 = .ok (.iload 4, 2) := by decide +kernel
theorem dX12_orders_150 : decode cX12_orders 150 = .ok (.iconst 1, 1) := by decide +kernel
theorem dX12_orders_151 : decode cX12_orders 151 = .ok (.iload 5, 2) := by decide +kernel
theorem dX12_orders_153 : decode cX12_orders 153 = .ok (.ishl, 1) := by decide +kernel
theorem dX12_orders_154 : decode cX12_orders 154 = .ok (.ior, 1) := by decide +kernel
theorem dX12_orders_155 : decode cX12_orders 155 = .ok (.invokevirtual 401, 3) := by decide +kernel
theorem dX12_orders_158 : decode cX12_orders 158 = .ok (.iinc 5 1, 3) := by decide +kernel
theorem dX12_orders_161 : decode cX12_orders 161 = .ok (.goto (-52), 3) := by decide +kernel
theorem dX12_orders_164 : decode cX12_orders 164 = .ok (.return_, 1) := by decide +kernel
def r_ordersB_109 (rec : Int32 → Int32 → Int32 → Int32 → (Nat → Nat → Int32) → Option ((Nat → Nat → Int32))) (F : Nat) (z : Nat) (g1 : Int32) (g2 : Int32) (g3 : Int32) (g4 : Int32) : Nat → Int32 → (Nat → Nat → Int32) → Option (Int32 × (Nat → Nat → Int32))
  | 0, _, _ => none
  | k + 1, l5, I => if (I (z + 1) (Int32.toNatClampNeg 1)) ≤ l5 then (some (l5, I)) else (if (r_isIn (Int32.toInt64 g4) l5) = 0 then (chk g3 6 (let I5 := uI I (z + 12) (Int32.toNatClampNeg g3) l5; (rec g1 g2 (g3 + 1) (g4 ||| (1 <<< (l5 &&& 31))) I5).bind (fun q7 => let I9 := q7; r_ordersB_109 rec F z g1 g2 g3 g4 k (l5 + 1) I9))) else (r_ordersB_109 rec F z g1 g2 g3 g4 k (l5 + 1) I))
def r_ordersB_13 (rec : Int32 → Int32 → Int32 → Int32 → (Nat → Nat → Int32) → Option ((Nat → Nat → Int32))) (F : Nat) (z : Nat) (g1 : Int32) (g2 : Int32) (g3 : Int32) (g4 : Int32) : Nat → Int32 → (Nat → Nat → Int32) → Option (Int32 × (Nat → Nat → Int32))
  | 0, _, _ => none
  | k + 1, l5, I => if (I (z + 1) (Int32.toNatClampNeg 1)) ≤ l5 then (some (l5, I)) else (chk l5 6 (chk (35 + (I (z + 12) (Int32.toNatClampNeg l5))) 3891 (let I17 := uI I (z + 1) (Int32.toNatClampNeg (35 + (I (z + 12) (Int32.toNatClampNeg l5)))) l5; r_ordersB_13 rec F z g1 g2 g3 g4 k (l5 + 1) I17)))
def r_ordersB_78 (rec : Int32 → Int32 → Int32 → Int32 → (Nat → Nat → Int32) → Option ((Nat → Nat → Int32))) (F : Nat) (z : Nat) (g1 : Int32) (g2 : Int32) (g3 : Int32) (g4 : Int32) (g5 : Int32) : Nat → Int32 → (Nat → Nat → Int32) → Option (Int32 × (Nat → Nat → Int32))
  | 0, _, _ => none
  | k + 1, l6, I => if 6 ≤ l6 then (some (l6, I)) else (chk l6 6 (let I35 := uI I (z + 13) (Int32.toNatClampNeg l6) (I (z + 12) (Int32.toNatClampNeg l6)); r_ordersB_78 rec F z g1 g2 g3 g4 g5 k (l6 + 1) I35))
def r_ordersB (rec : Int32 → Int32 → Int32 → Int32 → (Nat → Nat → Int32) → Option ((Nat → Nat → Int32))) (F : Nat) (I : Nat → Nat → Int32) (J : Nat → Nat → Int64) (z : Nat) (v1 : Int32) (v2 : Int32) (v3 : Int32) (v4 : Int32) : Option ((Nat → Nat → Int32)) := if v3 = (I (z + 1) (Int32.toNatClampNeg 1)) then ((r_ordersB_13 rec F z v1 v2 v3 v4 F 0 I).bind (fun q19 => let m21 := q19.1; let I22 := q19.2; (r_standsIn F I22 J z v1 v2).bind (fun q23 => let u25 := q23.1; let I26 := q23.2; (r_isAgain F I26 z).bind (fun q27 => let I29 := q27; if (I29 z 28) < u25 then (let I31 := uI I29 z 28 u25; (r_ordersB_78 rec F z v1 v2 v3 v4 u25 F 0 I31).bind (fun q37 => let m39 := q37.1; let I40 := q37.2; some I40)) else (some I29))))) else ((r_ordersB_109 rec F z v1 v2 v3 v4 F 0 I).bind (fun q10 => let m12 := q10.1; let I13 := q10.2; some I13))
def r_orders (F : Nat) (J : Nat → Nat → Int64) (z : Nat) : Nat → Int32 → Int32 → Int32 → Int32 → (Nat → Nat → Int32) → Option ((Nat → Nat → Int32))
  | 0, _, _, _, _, _ => none
  | kr + 1, a0, a1, a2, a3, I => r_ordersB (r_orders F J z kr) F I J z a0 a1 a2 a3
def r_orders_H (l : Launch) (D : va_G) (E : Nat → ClassId) (B : Nat → Prop) (n F : Nat) (T : Nat → Option (Nat × Nat)) (J : Nat → Nat → Int64) (P : Nat → Nat → Option Nat) (z : Nat) (k : Nat) : Prop := (∀ {a0 : Int32} {a1 : Int32} {a2 : Int32} {a3 : Int32} {I : Nat → Nat → Int32} {r : (Nat → Nat → Int32)}, isMd T P z → r_orders F J z k a0 a1 a2 a3 I = some r → Ct l D E B yX12_orders cX12_orders 7 none (10 + k) 0 0 [.ref z, .int a0, .int a1, .int a2, .int a3] (n, T, I, J, P) (Ret (none) (n, T, r, J, P)))
theorem l_r_ordersB_109 {l : Launch} {D : va_G} {E : Nat → ClassId} {B : Nat → Prop} {n F : Nat} {Q : Option Value → HT → Prop} {T : Nat → Option (Nat × Nat)} {J : Nat → Nat → Int64} {P : Nat → Nat → Option Nat} {z : Nat} {g1 : Int32} {g2 : Int32} {g3 : Int32} {g4 : Int32} (hs_z : isMd T P z) {kr : Nat} (ih0 : r_orders_H l D E B n F T J P z kr) (r : Int32 × (Nat → Nat → Int32)) : ∀ (k : Nat) (l5 : Int32) (I : (Nat → Nat → Int32)), r_ordersB_109 (r_orders F J z kr) F z g1 g2 g3 g4 k l5 I = some r → V l D E B yX12_orders cX12_orders 7 none (10 + (kr + 1)) 0 0 Q 0 0 (n, T, r.2, J, P) 164 [(0, some (.ref z)), (1, some (.int g1)), (2, some (.int g2)), (3, some (.int g3)), (4, some (.int g4)), (5, some (.int (r.1)))] [] → V l D E B yX12_orders cX12_orders 7 none (10 + (kr + 1)) 0 0 Q 0 0 (n, T, I, J, P) 109 [(0, some (.ref z)), (1, some (.int g1)), (2, some (.int g2)), (3, some (.int g3)), (4, some (.int g4)), (5, some (.int l5))] [] := by
  intro k
  induction k with
  | zero =>
    intro l5 I hf hk
    cases hf
  | succ k ih =>
    intro l5 I hf hk
    unfold r_ordersB_109 at hf
    refine V.iload dX12_orders_109 rfl ?_
    refine V.aload_n dX12_orders_111 rfl ?_
    refine V.getr fl_X12_13 dX12_orders_112 (hs_z.1 0 (12, 0) rfl) (hs_z.2 0 1 1 rfl) (by decide) rfl ?_
    refine V.iconst (v := 1) dX12_orders_115 (by decide) ?_
    refine V.iald dX12_orders_116 (hs_z.1 1 (20, 3891) rfl) (vp_lit (by decide)) ?_
    refine V.icmp_ge 164 dX12_orders_117 (by decide) (fun c2 => ?_) (fun c2 => ?_)
    · rw [if_pos c2] at hf
      obtain rfl := Option.some.inj hf
      exact V.lo [(0, some (.ref z)), (1, some (.int g1)), (2, some (.int g2)), (3, some (.int g3)), (4, some (.int g4)), (5, some (.int l5))] (by simp only [Subs]; repeat' first | exact trivial | constructor | rfl) hk
    · rw [if_neg c2] at hf
      refine V.iload dX12_orders_120 rfl ?_
      refine V.i2l dX12_orders_122 ?_
      refine V.iload dX12_orders_123 rfl ?_
      refine V.ins cs_X12_214 (c_r_isIn) dX12_orders_125 rfl rfl (Nat.le_of_ble_eq_true rfl) (by omega) (by decide) (Nat.le_refl _) (Nat.le_refl _) (fun _ _ hq => ?_)
      obtain ⟨rfl, rfl⟩ := hq
      refine V.if_eq 134 dX12_orders_128 (by decide) (fun c3 => ?_) (fun c3 => ?_)
      · rw [if_pos c3] at hf
        refine V.aload_n dX12_orders_134 rfl ?_
        refine V.getr fl_X12_51 dX12_orders_135 (hs_z.1 0 (12, 0) rfl) (hs_z.2 0 26 12 rfl) (by decide) rfl ?_
        refine V.iload_n dX12_orders_138 rfl ?_
        refine V.iload dX12_orders_139 rfl ?_
        obtain ⟨hb4, hf⟩ := chk_some hf
        refine V.iastE dX12_orders_141 (hs_z.1 12 (20, 6) rfl) hb4 (fun I5 e6 => ?_)
        rw [← e6] at hf
        try dsimp only at hf
        clear e6
        refine V.aload_n dX12_orders_142 rfl ?_
        refine V.iload_n dX12_orders_143 rfl ?_
        refine V.iload_n dX12_orders_144 rfl ?_
        refine V.iload_n dX12_orders_145 rfl ?_
        refine V.iconst (v := 1) dX12_orders_146 (by decide) ?_
        refine V.iadd dX12_orders_147 ?_
        refine V.iload dX12_orders_148 rfl ?_
        refine V.iconst (v := 1) dX12_orders_150 (by decide) ?_
        refine V.iload dX12_orders_151 rfl ?_
        refine V.ishl dX12_orders_153 ?_
        refine V.ior dX12_orders_154 ?_
        obtain ⟨I9, hk8, hf⟩ := bnd_some hf
        try dsimp only at hf
        refine V.inv cv_X12_401 ((ih0) hs_z hk8) dX12_orders_155 (hs_z.1 0 (12, 0) rfl) (by decide) rfl rfl rfl (Nat.le_of_ble_eq_true rfl) (by omega) (by decide) (Nat.le_refl _) (Nat.le_refl _) (fun _ _ hq => ?_)
        obtain ⟨rfl, rfl⟩ := hq
        refine V.iinc (v := (l5 + 1)) dX12_orders_158 rfl rfl (by first | exact rfl | exact trivial) ?_
        refine V.goto 109 dX12_orders_161 (by decide) ?_
        exact V.lo [(0, some (.ref z)), (1, some (.int g1)), (2, some (.int g2)), (3, some (.int g3)), (4, some (.int g4)), (5, some (.int (l5 + 1)))] (by simp only [Subs]; repeat' first | exact trivial | constructor | rfl) (ih _ _ hf hk)
      · rw [if_neg c3] at hf
        refine V.goto 158 dX12_orders_131 (by decide) ?_
        refine V.iinc (v := (l5 + 1)) dX12_orders_158 rfl rfl (by first | exact rfl | exact trivial) ?_
        refine V.goto 109 dX12_orders_161 (by decide) ?_
        exact V.lo [(0, some (.ref z)), (1, some (.int g1)), (2, some (.int g2)), (3, some (.int g3)), (4, some (.int g4)), (5, some (.int (l5 + 1)))] (by simp only [Subs]; repeat' first | exact trivial | constructor | rfl) (ih _ _ hf hk)
theorem l_r_ordersB_13 {l : Launch} {D : va_G} {E : Nat → ClassId} {B : Nat → Prop} {n F : Nat} {Q : Option Value → HT → Prop} {T : Nat → Option (Nat × Nat)} {J : Nat → Nat → Int64} {P : Nat → Nat → Option Nat} {z : Nat} {g1 : Int32} {g2 : Int32} {g3 : Int32} {g4 : Int32} (hs_z : isMd T P z) {kr : Nat} (ih0 : r_orders_H l D E B n F T J P z kr) (r : Int32 × (Nat → Nat → Int32)) : ∀ (k : Nat) (l5 : Int32) (I : (Nat → Nat → Int32)), r_ordersB_13 (r_orders F J z kr) F z g1 g2 g3 g4 k l5 I = some r → V l D E B yX12_orders cX12_orders 7 none (10 + (kr + 1)) 0 0 Q 0 0 (n, T, r.2, J, P) 47 [(0, some (.ref z)), (1, some (.int g1)), (2, some (.int g2)), (3, some (.int g3)), (4, some (.int g4)), (5, some (.int (r.1)))] [] → V l D E B yX12_orders cX12_orders 7 none (10 + (kr + 1)) 0 0 Q 0 0 (n, T, I, J, P) 13 [(0, some (.ref z)), (1, some (.int g1)), (2, some (.int g2)), (3, some (.int g3)), (4, some (.int g4)), (5, some (.int l5))] [] := by
  intro k
  induction k with
  | zero =>
    intro l5 I hf hk
    cases hf
  | succ k ih =>
    intro l5 I hf hk
    unfold r_ordersB_13 at hf
    refine V.iload dX12_orders_13 rfl ?_
    refine V.aload_n dX12_orders_15 rfl ?_
    refine V.getr fl_X12_13 dX12_orders_16 (hs_z.1 0 (12, 0) rfl) (hs_z.2 0 1 1 rfl) (by decide) rfl ?_
    refine V.iconst (v := 1) dX12_orders_19 (by decide) ?_
    refine V.iald dX12_orders_20 (hs_z.1 1 (20, 3891) rfl) (vp_lit (by decide)) ?_
    refine V.icmp_ge 47 dX12_orders_21 (by decide) (fun c14 => ?_) (fun c14 => ?_)
    · rw [if_pos c14] at hf
      obtain rfl := Option.some.inj hf
      exact V.lo [(0, some (.ref z)), (1, some (.int g1)), (2, some (.int g2)), (3, some (.int g3)), (4, some (.int g4)), (5, some (.int l5))] (by simp only [Subs]; repeat' first | exact trivial | constructor | rfl) hk
    · rw [if_neg c14] at hf
      refine V.aload_n dX12_orders_24 rfl ?_
      refine V.getr fl_X12_13 dX12_orders_25 (hs_z.1 0 (12, 0) rfl) (hs_z.2 0 1 1 rfl) (by decide) rfl ?_
      refine V.bipush (v := 35) dX12_orders_28 (by decide) ?_
      refine V.aload_n dX12_orders_30 rfl ?_
      refine V.getr fl_X12_51 dX12_orders_31 (hs_z.1 0 (12, 0) rfl) (hs_z.2 0 26 12 rfl) (by decide) rfl ?_
      refine V.iload dX12_orders_34 rfl ?_
      obtain ⟨hb15, hf⟩ := chk_some hf
      refine V.iald dX12_orders_36 (hs_z.1 12 (20, 6) rfl) hb15 ?_
      refine V.iadd dX12_orders_37 ?_
      refine V.iload dX12_orders_38 rfl ?_
      obtain ⟨hb16, hf⟩ := chk_some hf
      refine V.iastE dX12_orders_40 (hs_z.1 1 (20, 3891) rfl) hb16 (fun I17 e18 => ?_)
      rw [← e18] at hf
      try dsimp only at hf
      clear e18
      refine V.iinc (v := (l5 + 1)) dX12_orders_41 rfl rfl (by first | exact rfl | exact trivial) ?_
      refine V.goto 13 dX12_orders_44 (by decide) ?_
      exact V.lo [(0, some (.ref z)), (1, some (.int g1)), (2, some (.int g2)), (3, some (.int g3)), (4, some (.int g4)), (5, some (.int (l5 + 1)))] (by simp only [Subs]; repeat' first | exact trivial | constructor | rfl) (ih _ _ hf hk)
theorem l_r_ordersB_78 {l : Launch} {D : va_G} {E : Nat → ClassId} {B : Nat → Prop} {n F : Nat} {Q : Option Value → HT → Prop} {T : Nat → Option (Nat × Nat)} {J : Nat → Nat → Int64} {P : Nat → Nat → Option Nat} {z : Nat} {g1 : Int32} {g2 : Int32} {g3 : Int32} {g4 : Int32} {g5 : Int32} (hs_z : isMd T P z) {kr : Nat} (ih0 : r_orders_H l D E B n F T J P z kr) (r : Int32 × (Nat → Nat → Int32)) : ∀ (k : Nat) (l6 : Int32) (I : (Nat → Nat → Int32)), r_ordersB_78 (r_orders F J z kr) F z g1 g2 g3 g4 g5 k l6 I = some r → V l D E B yX12_orders cX12_orders 7 none (10 + (kr + 1)) 0 0 Q 0 0 (n, T, r.2, J, P) 105 [(0, some (.ref z)), (1, some (.int g1)), (2, some (.int g2)), (3, some (.int g3)), (4, some (.int g4)), (5, some (.int g5)), (6, some (.int (r.1)))] [] → V l D E B yX12_orders cX12_orders 7 none (10 + (kr + 1)) 0 0 Q 0 0 (n, T, I, J, P) 78 [(0, some (.ref z)), (1, some (.int g1)), (2, some (.int g2)), (3, some (.int g3)), (4, some (.int g4)), (5, some (.int g5)), (6, some (.int l6))] [] := by
  intro k
  induction k with
  | zero =>
    intro l6 I hf hk
    cases hf
  | succ k ih =>
    intro l6 I hf hk
    unfold r_ordersB_78 at hf
    refine V.iload dX12_orders_78 rfl ?_
    refine V.bipush (v := 6) dX12_orders_80 (by decide) ?_
    refine V.icmp_ge 105 dX12_orders_82 (by decide) (fun c33 => ?_) (fun c33 => ?_)
    · rw [if_pos c33] at hf
      obtain rfl := Option.some.inj hf
      exact V.lo [(0, some (.ref z)), (1, some (.int g1)), (2, some (.int g2)), (3, some (.int g3)), (4, some (.int g4)), (5, some (.int g5)), (6, some (.int l6))] (by simp only [Subs]; repeat' first | exact trivial | constructor | rfl) hk
    · rw [if_neg c33] at hf
      refine V.aload_n dX12_orders_85 rfl ?_
      refine V.getr fl_X12_54 dX12_orders_86 (hs_z.1 0 (12, 0) rfl) (hs_z.2 0 27 13 rfl) (by decide) rfl ?_
      refine V.iload dX12_orders_89 rfl ?_
      refine V.aload_n dX12_orders_91 rfl ?_
      refine V.getr fl_X12_51 dX12_orders_92 (hs_z.1 0 (12, 0) rfl) (hs_z.2 0 26 12 rfl) (by decide) rfl ?_
      refine V.iload dX12_orders_95 rfl ?_
      obtain ⟨hb34, hf⟩ := chk_some hf
      refine V.iald dX12_orders_97 (hs_z.1 12 (20, 6) rfl) hb34 ?_
      refine V.iastE dX12_orders_98 (hs_z.1 13 (20, 6) rfl) hb34 (fun I35 e36 => ?_)
      rw [← e36] at hf
      try dsimp only at hf
      clear e36
      refine V.iinc (v := (l6 + 1)) dX12_orders_99 rfl rfl (by first | exact rfl | exact trivial) ?_
      refine V.goto 78 dX12_orders_102 (by decide) ?_
      exact V.lo [(0, some (.ref z)), (1, some (.int g1)), (2, some (.int g2)), (3, some (.int g3)), (4, some (.int g4)), (5, some (.int g5)), (6, some (.int (l6 + 1)))] (by simp only [Subs]; repeat' first | exact trivial | constructor | rfl) (ih _ _ hf hk)
theorem s_r_ordersB {l : Launch} {D : va_G} {E : Nat → ClassId} {B : Nat → Prop} {n F : Nat} {T : Nat → Option (Nat × Nat)} {J : Nat → Nat → Int64} {P : Nat → Nat → Option Nat} {z : Nat} {kr : Nat} (ih0 : r_orders_H l D E B n F T J P z kr) {v1 : Int32} {v2 : Int32} {v3 : Int32} {v4 : Int32} {I : Nat → Nat → Int32} {r : (Nat → Nat → Int32)} (hs_z : isMd T P z) (hf : r_ordersB (r_orders F J z kr) F I J z v1 v2 v3 v4 = some r) : Ct l D E B yX12_orders cX12_orders 7 none (10 + (kr + 1)) 0 0 [.ref z, .int v1, .int v2, .int v3, .int v4] (n, T, I, J, P) (Ret (none) (n, T, r, J, P)) := by
  unfold r_ordersB at hf
  refine Ct.ofV (by decide) (Nat.le_of_ble_eq_true rfl) ?_
  refine V.iload_n dX12_orders_0 rfl ?_
  refine V.aload_n dX12_orders_1 rfl ?_
  refine V.getr fl_X12_13 dX12_orders_2 (hs_z.1 0 (12, 0) rfl) (hs_z.2 0 1 1 rfl) (by decide) rfl ?_
  refine V.iconst (v := 1) dX12_orders_5 (by decide) ?_
  refine V.iald dX12_orders_6 (hs_z.1 1 (20, 3891) rfl) (vp_lit (by decide)) ?_
  refine V.icmp_ne 106 dX12_orders_7 (by decide) (fun c1 => ?_) (fun c1 => ?_)
  · rw [if_neg c1] at hf
    refine V.iconst (v := 0) dX12_orders_106 (by decide) ?_
    refine V.istore dX12_orders_107 (by decide) (by first | exact rfl | exact trivial) ?_
    obtain ⟨⟨m12, I13⟩, hk11, hf⟩ := bnd_some hf
    try dsimp only at hf
    refine V.lo [(0, some (.ref z)), (1, some (.int v1)), (2, some (.int v2)), (3, some (.int v3)), (4, some (.int v4)), (5, some (.int 0))] (by simp only [Subs]; repeat' first | exact trivial | constructor | rfl) (l_r_ordersB_109 hs_z ih0 _ F _ _ hk11 ?_)
    try dsimp only
    obtain rfl := Option.some.inj hf
    exact V.vret dX12_orders_164 rfl (Nat.le_refl _) (Nat.le_refl _) ⟨rfl, rfl⟩
  · rw [if_pos c1] at hf
    refine V.iconst (v := 0) dX12_orders_10 (by decide) ?_
    refine V.istore dX12_orders_11 (by decide) (by first | exact rfl | exact trivial) ?_
    obtain ⟨⟨m21, I22⟩, hk20, hf⟩ := bnd_some hf
    try dsimp only at hf
    refine V.lo [(0, some (.ref z)), (1, some (.int v1)), (2, some (.int v2)), (3, some (.int v3)), (4, some (.int v4)), (5, some (.int 0))] (by simp only [Subs]; repeat' first | exact trivial | constructor | rfl) (l_r_ordersB_13 hs_z ih0 _ F _ _ hk20 ?_)
    try dsimp only
    refine V.aload_n dX12_orders_47 rfl ?_
    refine V.iload_n dX12_orders_48 rfl ?_
    refine V.iload_n dX12_orders_49 rfl ?_
    obtain ⟨⟨u25, I26⟩, hk24, hf⟩ := bnd_some hf
    try dsimp only at hf
    refine V.inv cv_X12_351 (c_r_standsIn hs_z hk24) dX12_orders_50 (hs_z.1 0 (12, 0) rfl) (by decide) rfl rfl rfl (Nat.le_of_ble_eq_true rfl) (by omega) (by decide) (Nat.le_refl _) (Nat.le_refl _) (fun _ _ hq => ?_)
    obtain ⟨rfl, rfl⟩ := hq
    try dsimp only
    refine V.istore dX12_orders_53 (by decide) (by first | exact rfl | exact trivial) ?_
    refine V.aload_n dX12_orders_55 rfl ?_
    obtain ⟨I29, hk28, hf⟩ := bnd_some hf
    try dsimp only at hf
    refine V.inv cv_X12_327 (c_r_isAgain hs_z hk28) dX12_orders_56 (hs_z.1 0 (12, 0) rfl) (by decide) rfl rfl rfl (Nat.le_of_ble_eq_true rfl) (by omega) (by decide) (Nat.le_refl _) (Nat.le_refl _) (fun _ _ hq => ?_)
    obtain ⟨rfl, rfl⟩ := hq
    refine V.iload dX12_orders_59 rfl ?_
    refine V.aload_n dX12_orders_61 rfl ?_
    refine V.getf fl_X12_398 dX12_orders_62 (hs_z.1 0 (12, 0) rfl) (by decide) rfl ?_
    refine V.icmp_gt 69 dX12_orders_65 (by decide) (fun c30 => ?_) (fun c30 => ?_)
    · rw [if_pos c30] at hf
      refine V.aload_n dX12_orders_69 rfl ?_
      refine V.iload dX12_orders_70 rfl ?_
      refine V.putiE fl_X12_398 dX12_orders_72 (hs_z.1 0 (12, 0) rfl) (by decide) (fun h => by cases h) rfl rfl rfl (Nat.le_of_ble_eq_true rfl) (fun I31 e32 => ?_)
      rw [← e32] at hf
      try dsimp only at hf
      clear e32
      refine V.iconst (v := 0) dX12_orders_75 (by decide) ?_
      refine V.istore dX12_orders_76 (by decide) (by first | exact rfl | exact trivial) ?_
      obtain ⟨⟨m39, I40⟩, hk38, hf⟩ := bnd_some hf
      try dsimp only at hf
      refine V.lo [(0, some (.ref z)), (1, some (.int v1)), (2, some (.int v2)), (3, some (.int v3)), (4, some (.int v4)), (5, some (.int u25)), (6, some (.int 0))] (by simp only [Subs]; repeat' first | exact trivial | constructor | rfl) (l_r_ordersB_78 hs_z ih0 _ F _ _ hk38 ?_)
      try dsimp only
      obtain rfl := Option.some.inj hf
      exact V.vret dX12_orders_105 rfl (Nat.le_refl _) (Nat.le_refl _) ⟨rfl, rfl⟩
    · rw [if_neg c30] at hf
      obtain rfl := Option.some.inj hf
      exact V.vret dX12_orders_68 rfl (Nat.le_refl _) (Nat.le_refl _) ⟨rfl, rfl⟩
theorem r_orders_all {l : Launch} {D : va_G} {E : Nat → ClassId} {B : Nat → Prop} {n F : Nat} {T : Nat → Option (Nat × Nat)} {J : Nat → Nat → Int64} {P : Nat → Nat → Option Nat} {z : Nat} : ∀ k, r_orders_H l D E B n F T J P z k := by
  intro k
  induction k with
  | zero =>
    exact fun _ hf => by cases hf
  | succ kr ih0 =>
    exact fun hs_z hf => s_r_ordersB ih0 hs_z hf
def r_ordersB_f (F : Nat) (I : Nat → Nat → Int32) (J : Nat → Nat → Int64) (z : Nat) (v1 : Int32) (v2 : Int32) (v3 : Int32) (v4 : Int32) : Option ((Nat → Nat → Int32)) := r_orders F J z 10 v1 v2 v3 v4 I
theorem c_r_ordersB_f {l : Launch} {D : va_G} {E : Nat → ClassId} {B : Nat → Prop} {n F : Nat} {T : Nat → Option (Nat × Nat)} {J : Nat → Nat → Int64} {P : Nat → Nat → Option Nat} {z : Nat} {v1 : Int32} {v2 : Int32} {v3 : Int32} {v4 : Int32} {I : Nat → Nat → Int32} {r : (Nat → Nat → Int32)} (hs_z : isMd T P z) (hf : r_ordersB_f F I J z v1 v2 v3 v4 = some r) : Ct l D E B yX12_orders cX12_orders 7 none 20 0 0 [.ref z, .int v1, .int v2, .int v3, .int v4] (n, T, I, J, P) (Ret (none) (n, T, r, J, P)) := (r_orders_all 10) hs_z hf
theorem dX12_laysOrder_0 : decode cX12_laysOrder 0 = .ok (.aload_n 0, 1) := by decide +kernel
theorem dX12_laysOrder_1 : decode cX12_laysOrder 1 = .ok (.invokevirtual 264, 3) := by decide +kernel
theorem dX12_laysOrder_4 : decode cX12_laysOrder 4 = .ok (.aload_n 0, 1) := by decide +kernel
theorem dX12_laysOrder_5 : decode cX12_laysOrder 5 = .ok (.iconst (-1), 1) := by decide +kernel
theorem dX12_laysOrder_6 : decode cX12_laysOrder 6 = .ok (.putfield 398, 3) := by decide +kernel
theorem dX12_laysOrder_9 : decode cX12_laysOrder 9 = .ok (.aload_n 0, 1) := by decide +kernel
theorem dX12_laysOrder_10 : decode cX12_laysOrder 10 = .ok (.iload_n 1, 1) := by decide +kernel
theorem dX12_laysOrder_11 : decode cX12_laysOrder 11 = .ok (.iload_n 2, 1) := by decide +kernel
theorem dX12_laysOrder_12 : decode cX12_laysOrder 12 = .ok (.iconst 0, 1) := by decide +kernel
theorem dX12_laysOrder_13 : decode cX12_laysOrder 13 = .ok (.iconst 0, 1) := by decide +kernel
theorem dX12_laysOrder_14 : decode cX12_laysOrder 14 = .ok (.invokevirtual 401, 3) := by decide +kernel
theorem dX12_laysOrder_17 : decode cX12_laysOrder 17 = .ok (.return_, 1) := by decide +kernel
def r_laysOrder (F : Nat) (I : Nat → Nat → Int32) (J : Nat → Nat → Int64) (z : Nat) (v1 : Int32) (v2 : Int32) : Option ((Nat → Nat → Int32)) := (r_keeps F I z).bind (fun q1 => let I3 := q1; let I4 := uI I3 z 28 (-1); (r_ordersB_f F I4 J z v1 v2 0 0).bind (fun q6 => let I8 := q6; some I8))
theorem c_r_laysOrder {l : Launch} {D : va_G} {E : Nat → ClassId} {B : Nat → Prop} {n F : Nat} {T : Nat → Option (Nat × Nat)} {I : Nat → Nat → Int32} {J : Nat → Nat → Int64} {P : Nat → Nat → Option Nat} {z : Nat} {v1 : Int32} {v2 : Int32} {r : (Nat → Nat → Int32)} (hs_z : isMd T P z) (hf : r_laysOrder F I J z v1 v2 = some r) : Ct l D E B yX12_laysOrder cX12_laysOrder 3 none 21 0 0 [.ref z, .int v1, .int v2] (n, T, I, J, P) (Ret (none) (n, T, r, J, P)) := by
  unfold r_laysOrder at hf
  refine Ct.ofV (by decide) (Nat.le_of_ble_eq_true rfl) ?_
  refine V.aload_n dX12_laysOrder_0 rfl ?_
  obtain ⟨I3, hk2, hf⟩ := bnd_some hf
  try dsimp only at hf
  refine V.inv cv_X12_264 (c_r_keeps hs_z hk2) dX12_laysOrder_1 (hs_z.1 0 (12, 0) rfl) (by decide) rfl rfl rfl (Nat.le_of_ble_eq_true rfl) (by decide) (by decide) (Nat.le_refl _) (Nat.le_refl _) (fun _ _ hq => ?_)
  obtain ⟨rfl, rfl⟩ := hq
  refine V.aload_n dX12_laysOrder_4 rfl ?_
  refine V.iconst (v := -1) dX12_laysOrder_5 (by decide) ?_
  refine V.putiE fl_X12_398 dX12_laysOrder_6 (hs_z.1 0 (12, 0) rfl) (by decide) (fun h => by cases h) rfl rfl rfl (Nat.le_of_ble_eq_true rfl) (fun I4 e5 => ?_)
  rw [← e5] at hf
  try dsimp only at hf
  clear e5
  refine V.aload_n dX12_laysOrder_9 rfl ?_
  refine V.iload_n dX12_laysOrder_10 rfl ?_
  refine V.iload_n dX12_laysOrder_11 rfl ?_
  refine V.iconst (v := 0) dX12_laysOrder_12 (by decide) ?_
  refine V.iconst (v := 0) dX12_laysOrder_13 (by decide) ?_
  obtain ⟨I8, hk7, hf⟩ := bnd_some hf
  try dsimp only at hf
  refine V.inv cv_X12_401 (c_r_ordersB_f hs_z hk7) dX12_laysOrder_14 (hs_z.1 0 (12, 0) rfl) (by decide) rfl rfl rfl (Nat.le_of_ble_eq_true rfl) (by decide) (by decide) (Nat.le_refl _) (Nat.le_refl _) (fun _ _ hq => ?_)
  obtain ⟨rfl, rfl⟩ := hq
  obtain rfl := Option.some.inj hf
  exact V.vret dX12_laysOrder_17 rfl (Nat.le_refl _) (Nat.le_refl _) ⟨rfl, rfl⟩
theorem dX12_row_0 : decode cX12_row 0 = .ok (.aload_n 0, 1) := by decide +kernel
theorem dX12_row_1 : decode cX12_row 1 = .ok (.iconst 0, 1) := by decide +kernel
theorem dX12_row_2 : decode cX12_row 2 = .ok (.putfield 1, 3) := by decide +kernel
theorem dX12_row_5 : decode cX12_row 5 = .ok (.aload_n 0, 1) := by decide +kernel
theorem dX12_row_6 : decode cX12_row 6 = .ok (.iload_n 1, 1) := by decide +kernel
theorem dX12_row_7 : decode cX12_row 7 = .ok (.iload_n 2, 1) := by decide +kernel
theorem dX12_row_8 : decode cX12_row 8 = .ok (.invokevirtual 348, 3) := by decide +kernel
theorem dX12_row_11 : decode cX12_row 11 = .ok (.istore_n 3, 1) := by decide +kernel
theorem dX12_row_12 : decode cX12_row 12 = .ok (.iload_n 3, 1) := by decide +kernel
theorem dX12_row_13 : decode cX12_row 13 = .ok (.ifCond .eq 5, 3) := by decide +kernel
theorem dX12_row_16 : decode cX12_row 16 = .ok (.iload_n 3, 1) := by decide +kernel
theorem dX12_row_17 : decode cX12_row 17 = .ok (.ireturn, 1) := by decide +kernel
theorem dX12_row_18 : decode cX12_row 18 = .ok (.aload_n 0, 1) := by decide +kernel
theorem dX12_row_19 : decode cX12_row 19 = .ok (.iload_n 1, 1) := by decide +kernel
theorem dX12_row_20 : decode cX12_row 20 = .ok (.iload_n 2, 1) := by decide +kernel
theorem dX12_row_21 : decode cX12_row 21 = .ok (.invokevirtual 405, 3) := by decide +kernel
theorem dX12_row_24 : decode cX12_row 24 = .ok (.aload_n 0, 1) := by decide +kernel
theorem dX12_row_25 : decode cX12_row 25 = .ok (.getfield 398, 3) := by decide +kernel
theorem dX12_row_28 : decode cX12_row 28 = .ok (.ireturn, 1) := by decide +kernel
def r_row (F : Nat) (I : Nat → Nat → Int32) (J : Nat → Nat → Int64) (z : Nat) (v1 : Int32) (v2 : Int32) : Option (Int32 × (Nat → Nat → Int32)) := let I1 := uI I z 0 0; (r_noStands F I1 J z v1 v2).bind (fun q3 => let u5 := q3; if u5 = 0 then ((r_laysOrder F I1 J z v1 v2).bind (fun q7 => let I9 := q7; some ((I9 z 28), I9))) else (some (u5, I1)))
theorem c_r_row {l : Launch} {D : va_G} {E : Nat → ClassId} {B : Nat → Prop} {n F : Nat} {T : Nat → Option (Nat × Nat)} {I : Nat → Nat → Int32} {J : Nat → Nat → Int64} {P : Nat → Nat → Option Nat} {z : Nat} {v1 : Int32} {v2 : Int32} {r : Int32 × (Nat → Nat → Int32)} (hs_z : isMd T P z) (hf : r_row F I J z v1 v2 = some r) : Ct l D E B yX12_row cX12_row 4 (some .int) 22 0 0 [.ref z, .int v1, .int v2] (n, T, I, J, P) (Ret (some (.int r.1)) (n, T, r.2, J, P)) := by
  unfold r_row at hf
  refine Ct.ofV (by decide) (Nat.le_of_ble_eq_true rfl) ?_
  refine V.aload_n dX12_row_0 rfl ?_
  refine V.iconst (v := 0) dX12_row_1 (by decide) ?_
  refine V.putiE fl_X12_1 dX12_row_2 (hs_z.1 0 (12, 0) rfl) (by decide) (fun h => by cases h) rfl rfl rfl (Nat.le_of_ble_eq_true rfl) (fun I1 e2 => ?_)
  rw [← e2] at hf
  try dsimp only at hf
  clear e2
  refine V.aload_n dX12_row_5 rfl ?_
  refine V.iload_n dX12_row_6 rfl ?_
  refine V.iload_n dX12_row_7 rfl ?_
  obtain ⟨u5, hk4, hf⟩ := bnd_some hf
  try dsimp only at hf
  refine V.inv cv_X12_348 (c_r_noStands hs_z hk4) dX12_row_8 (hs_z.1 0 (12, 0) rfl) (by decide) rfl rfl rfl (Nat.le_of_ble_eq_true rfl) (by decide) (by decide) (Nat.le_refl _) (Nat.le_refl _) (fun _ _ hq => ?_)
  obtain ⟨rfl, rfl⟩ := hq
  refine V.istore_n dX12_row_11 rfl (by decide) (by first | exact rfl | exact trivial) ?_
  refine V.iload_n dX12_row_12 rfl ?_
  refine V.if_eq 18 dX12_row_13 (by decide) (fun c6 => ?_) (fun c6 => ?_)
  · rw [if_pos c6] at hf
    refine V.aload_n dX12_row_18 rfl ?_
    refine V.iload_n dX12_row_19 rfl ?_
    refine V.iload_n dX12_row_20 rfl ?_
    obtain ⟨I9, hk8, hf⟩ := bnd_some hf
    try dsimp only at hf
    refine V.inv cv_X12_405 (c_r_laysOrder hs_z hk8) dX12_row_21 (hs_z.1 0 (12, 0) rfl) (by decide) rfl rfl rfl (Nat.le_of_ble_eq_true rfl) (by decide) (by decide) (Nat.le_refl _) (Nat.le_refl _) (fun _ _ hq => ?_)
    obtain ⟨rfl, rfl⟩ := hq
    refine V.aload_n dX12_row_24 rfl ?_
    refine V.getf fl_X12_398 dX12_row_25 (hs_z.1 0 (12, 0) rfl) (by decide) rfl ?_
    obtain rfl := Option.some.inj hf
    exact V.iret dX12_row_28 rfl (Nat.le_refl _) (Nat.le_refl _) ⟨rfl, rfl⟩
  · rw [if_neg c6] at hf
    refine V.iload_n dX12_row_16 rfl ?_
    obtain rfl := Option.some.inj hf
    exact V.iret dX12_row_17 rfl (Nat.le_refl _) (Nat.le_refl _) ⟨rfl, rfl⟩
theorem dX12_rowSpot_0 : decode cX12_rowSpot 0 = .ok (.aload_n 0, 1) := by decide +kernel
theorem dX12_rowSpot_1 : decode cX12_rowSpot 1 = .ok (.iconst 0, 1) := by decide +kernel
theorem dX12_rowSpot_2 : decode cX12_rowSpot 2 = .ok (.putfield 1, 3) := by decide +kernel
theorem dX12_rowSpot_5 : decode cX12_rowSpot 5 = .ok (.aload_n 0, 1) := by decide +kernel
theorem dX12_rowSpot_6 : decode cX12_rowSpot 6 = .ok (.iload_n 1, 1) := by decide +kernel
theorem dX12_rowSpot_7 : decode cX12_rowSpot 7 = .ok (.iload_n 2, 1) := by decide +kernel
theorem dX12_rowSpot_8 : decode cX12_rowSpot 8 = .ok (.invokevirtual 348, 3) := by decide +kernel
theorem dX12_rowSpot_11 : decode cX12_rowSpot 11 = .ok (.istore 4, 2) := by decide +kernel
theorem dX12_rowSpot_13 : decode cX12_rowSpot 13 = .ok (.iload 4, 2) := by decide +kernel
theorem dX12_rowSpot_15 : decode cX12_rowSpot 15 = .ok (.ifCond .eq 6, 3) := by decide +kernel
theorem dX12_rowSpot_18 : decode cX12_rowSpot 18 = .ok (.iload 4, 2) := by decide +kernel
theorem dX12_rowSpot_20 : decode cX12_rowSpot 20 = .ok (.ireturn, 1) := by decide +kernel
theorem dX12_rowSpot_21 : decode cX12_rowSpot 21 = .ok (.iload_n 3, 1) := by decide +kernel
theorem dX12_rowSpot_22 : decode cX12_rowSpot 22 = .ok (.i2l, 1) := by decide +kernel
theorem dX12_rowSpot_23 : decode cX12_rowSpot 23 = .ok (.lconst 0, 1) := by decide +kernel
theorem dX12_rowSpot_24 : decode cX12_rowSpot 24 = .ok (.aload_n 0, 1) := by decide +kernel
theorem dX12_rowSpot_25 : decode cX12_rowSpot 25 = .ok (.getfield 13, 3) := by decide +kernel
theorem dX12_rowSpot_28 : decode cX12_rowSpot 28 = .ok (.iconst 1, 1) := by decide +kernel
theorem dX12_rowSpot_29 : decode cX12_rowSpot 29 = .ok (.iaload, 1) := by decide +kernel
theorem dX12_rowSpot_30 : decode cX12_rowSpot 30 = .ok (.iconst 1, 1) := by decide +kernel
theorem dX12_rowSpot_31 : decode cX12_rowSpot 31 = .ok (.isub, 1) := by decide +kernel
theorem dX12_rowSpot_32 : decode cX12_rowSpot 32 = .ok (.i2l, 1) := by decide +kernel
theorem dX12_rowSpot_33 : decode cX12_rowSpot 33 = .ok (.invokestatic 145, 3) := by decide +kernel
theorem dX12_rowSpot_36 : decode cX12_rowSpot 36 = .ok (.ifCond .ne 6, 3) := by decide +kernel
theorem dX12_rowSpot_39 : decode cX12_rowSpot 39 = .ok (.bipush (-7), 2) := by decide +kernel
theorem dX12_rowSpot_41 : decode cX12_rowSpot 41 = .ok (.ireturn, 1) := by decide +kernel
theorem dX12_rowSpot_42 : decode cX12_rowSpot 42 = .ok (.aload_n 0, 1) := by decide +kernel
theorem dX12_rowSpot_43 : decode cX12_rowSpot 43 = .ok (.iload_n 1, 1) := by decide +kernel
theorem dX12_rowSpot_44 : decode cX12_rowSpot 44 = .ok (.iload_n 2, 1) := by decide +kernel
theorem dX12_rowSpot_45 : decode cX12_rowSpot 45 = .ok (.invokevirtual 405, 3) := by decide +kernel
theorem dX12_rowSpot_48 : decode cX12_rowSpot 48 = .ok (.aload_n 0, 1) := by decide +kernel
theorem dX12_rowSpot_49 : decode cX12_rowSpot 49 = .ok (.getfield 54, 3) := by decide +kernel
theorem dX12_rowSpot_52 : decode cX12_rowSpot 52 = .ok (.iload_n 3, 1) := by decide +kernel
theorem dX12_rowSpot_53 : decode cX12_rowSpot 53 = .ok (.iaload, 1) := by decide +kernel
theorem dX12_rowSpot_54 : decode cX12_rowSpot 54 = .ok (.ireturn, 1) := by decide +kernel
def r_rowSpot (F : Nat) (I : Nat → Nat → Int32) (J : Nat → Nat → Int64) (z : Nat) (v1 : Int32) (v2 : Int32) (v3 : Int32) : Option (Int32 × (Nat → Nat → Int32)) := let I1 := uI I z 0 0; (r_noStands F I1 J z v1 v2).bind (fun q3 => let u5 := q3; if u5 = 0 then (if (r_within (Int32.toInt64 v3) 0 (Int32.toInt64 ((I1 (z + 1) (Int32.toNatClampNeg 1)) - 1))) = 0 then (some ((-7), I1)) else ((r_laysOrder F I1 J z v1 v2).bind (fun q8 => let I10 := q8; chk v3 6 (some ((I10 (z + 13) (Int32.toNatClampNeg v3)), I10))))) else (some (u5, I1)))
theorem c_r_rowSpot {l : Launch} {D : va_G} {E : Nat → ClassId} {B : Nat → Prop} {n F : Nat} {T : Nat → Option (Nat × Nat)} {I : Nat → Nat → Int32} {J : Nat → Nat → Int64} {P : Nat → Nat → Option Nat} {z : Nat} {v1 : Int32} {v2 : Int32} {v3 : Int32} {r : Int32 × (Nat → Nat → Int32)} (hs_z : isMd T P z) (hf : r_rowSpot F I J z v1 v2 v3 = some r) : Ct l D E B yX12_rowSpot cX12_rowSpot 5 (some .int) 22 0 0 [.ref z, .int v1, .int v2, .int v3] (n, T, I, J, P) (Ret (some (.int r.1)) (n, T, r.2, J, P)) := by
  unfold r_rowSpot at hf
  refine Ct.ofV (by decide) (Nat.le_of_ble_eq_true rfl) ?_
  refine V.aload_n dX12_rowSpot_0 rfl ?_
  refine V.iconst (v := 0) dX12_rowSpot_1 (by decide) ?_
  refine V.putiE fl_X12_1 dX12_rowSpot_2 (hs_z.1 0 (12, 0) rfl) (by decide) (fun h => by cases h) rfl rfl rfl (Nat.le_of_ble_eq_true rfl) (fun I1 e2 => ?_)
  rw [← e2] at hf
  try dsimp only at hf
  clear e2
  refine V.aload_n dX12_rowSpot_5 rfl ?_
  refine V.iload_n dX12_rowSpot_6 rfl ?_
  refine V.iload_n dX12_rowSpot_7 rfl ?_
  obtain ⟨u5, hk4, hf⟩ := bnd_some hf
  try dsimp only at hf
  refine V.inv cv_X12_348 (c_r_noStands hs_z hk4) dX12_rowSpot_8 (hs_z.1 0 (12, 0) rfl) (by decide) rfl rfl rfl (Nat.le_of_ble_eq_true rfl) (by decide) (by decide) (Nat.le_refl _) (Nat.le_refl _) (fun _ _ hq => ?_)
  obtain ⟨rfl, rfl⟩ := hq
  refine V.istore dX12_rowSpot_11 (by decide) (by first | exact rfl | exact trivial) ?_
  refine V.iload dX12_rowSpot_13 rfl ?_
  refine V.if_eq 21 dX12_rowSpot_15 (by decide) (fun c6 => ?_) (fun c6 => ?_)
  · rw [if_pos c6] at hf
    refine V.iload_n dX12_rowSpot_21 rfl ?_
    refine V.i2l dX12_rowSpot_22 ?_
    refine V.lconst (v := 0) dX12_rowSpot_23 (by decide) ?_
    refine V.aload_n dX12_rowSpot_24 rfl ?_
    refine V.getr fl_X12_13 dX12_rowSpot_25 (hs_z.1 0 (12, 0) rfl) (hs_z.2 0 1 1 rfl) (by decide) rfl ?_
    refine V.iconst (v := 1) dX12_rowSpot_28 (by decide) ?_
    refine V.iald dX12_rowSpot_29 (hs_z.1 1 (20, 3891) rfl) (vp_lit (by decide)) ?_
    refine V.iconst (v := 1) dX12_rowSpot_30 (by decide) ?_
    refine V.isub dX12_rowSpot_31 ?_
    refine V.i2l dX12_rowSpot_32 ?_
    refine V.ins cs_X12_145 (c_r_within) dX12_rowSpot_33 rfl rfl (Nat.le_of_ble_eq_true rfl) (by decide) (by decide) (Nat.le_refl _) (Nat.le_refl _) (fun _ _ hq => ?_)
    obtain ⟨rfl, rfl⟩ := hq
    refine V.if_ne 42 dX12_rowSpot_36 (by decide) (fun c7 => ?_) (fun c7 => ?_)
    · rw [if_neg c7] at hf
      refine V.aload_n dX12_rowSpot_42 rfl ?_
      refine V.iload_n dX12_rowSpot_43 rfl ?_
      refine V.iload_n dX12_rowSpot_44 rfl ?_
      obtain ⟨I10, hk9, hf⟩ := bnd_some hf
      try dsimp only at hf
      refine V.inv cv_X12_405 (c_r_laysOrder hs_z hk9) dX12_rowSpot_45 (hs_z.1 0 (12, 0) rfl) (by decide) rfl rfl rfl (Nat.le_of_ble_eq_true rfl) (by decide) (by decide) (Nat.le_refl _) (Nat.le_refl _) (fun _ _ hq => ?_)
      obtain ⟨rfl, rfl⟩ := hq
      refine V.aload_n dX12_rowSpot_48 rfl ?_
      refine V.getr fl_X12_54 dX12_rowSpot_49 (hs_z.1 0 (12, 0) rfl) (hs_z.2 0 27 13 rfl) (by decide) rfl ?_
      refine V.iload_n dX12_rowSpot_52 rfl ?_
      obtain ⟨hb11, hf⟩ := chk_some hf
      refine V.iald dX12_rowSpot_53 (hs_z.1 13 (20, 6) rfl) hb11 ?_
      obtain rfl := Option.some.inj hf
      exact V.iret dX12_rowSpot_54 rfl (Nat.le_refl _) (Nat.le_refl _) ⟨rfl, rfl⟩
    · rw [if_pos c7] at hf
      refine V.bipush (v := -7) dX12_rowSpot_39 (by decide) ?_
      obtain rfl := Option.some.inj hf
      exact V.iret dX12_rowSpot_41 rfl (Nat.le_refl _) (Nat.le_refl _) ⟨rfl, rfl⟩
  · rw [if_neg c6] at hf
    refine V.iload dX12_rowSpot_18 rfl ?_
    obtain rfl := Option.some.inj hf
    exact V.iret dX12_rowSpot_20 rfl (Nat.le_refl _) (Nat.le_refl _) ⟨rfl, rfl⟩
theorem dX12_plays1_0 : decode cX12_plays1 0 = .ok (.iload_n 1, 1) := by decide +kernel
theorem dX12_plays1_1 : decode cX12_plays1 1 = .ok (.iload_n 2, 1) := by decide +kernel
theorem dX12_plays1_2 : decode cX12_plays1 2 = .ok (.if_icmp .ne 27, 3) := by decide +kernel
theorem dX12_plays1_5 : decode cX12_plays1 5 = .ok (.aload_n 0, 1) := by decide +kernel
theorem dX12_plays1_6 : decode cX12_plays1 6 = .ok (.invokevirtual 324, 3) := by decide +kernel
theorem dX12_plays1_9 : decode cX12_plays1 9 = .ok (.istore 5, 2) := by decide +kernel
theorem dX12_plays1_11 : decode cX12_plays1 11 = .ok (.iload 5, 2) := by decide +kernel
theorem dX12_plays1_13 : decode cX12_plays1 13 = .ok (.iconst (-1), 1) := by decide +kernel
theorem dX12_plays1_14 : decode cX12_plays1 14 = .ok (.if_icmp .eq 14, 3) := by decide +kernel
theorem dX12_plays1_17 : decode cX12_plays1 17 = .ok (.aload_n 0, 1) := by decide +kernel
theorem dX12_plays1_18 : decode cX12_plays1 18 = .ok (.getfield 66, 3) := by decide +kernel
theorem dX12_plays1_21 : decode cX12_plays1 21 = .ok (.iload 5, 2) := by decide +kernel
theorem dX12_plays1_23 : decode cX12_plays1 23 = .ok (.dup2, 1) := by decide +kernel
theorem dX12_plays1_24 : decode cX12_plays1 24 = .ok (.laload, 1) := by decide +kernel
theorem dX12_plays1_25 : decode cX12_plays1 25 = .ok (.lload_n 3, 1) := by decide +kernel
theorem dX12_plays1_26 : decode cX12_plays1 26 = .ok (.ladd, 1) := by decide +kernel
theorem dX12_plays1_27 : decode cX12_plays1 27 = .ok (.lastore, 1) := by decide +kernel
theorem dX12_plays1_28 : decode cX12_plays1 28 = .ok (.return_, 1) := by decide +kernel
theorem dX12_plays1_29 : decode cX12_plays1 29 = .ok (.aload_n 0, 1) := by decide +kernel
theorem dX12_plays1_30 : decode cX12_plays1 30 = .ok (.iload_n 1, 1) := by decide +kernel
theorem dX12_plays1_31 : decode cX12_plays1 31 = .ok (.invokevirtual 375, 3) := by decide +kernel
theorem dX12_plays1_34 : decode cX12_plays1 34 = .ok (.iconst 0, 1) := by decide +kernel
theorem dX12_plays1_35 : decode cX12_plays1 35 = .ok (.istore 5, 2) := by decide +kernel
theorem dX12_plays1_37 : decode cX12_plays1 37 = .ok (.iload 5, 2) := by decide +kernel
theorem dX12_plays1_39 : decode cX12_plays1 39 = .ok (.aload_n 0, 1) := by decide +kernel
theorem dX12_plays1_40 : decode cX12_plays1 40 = .ok (.getfield 13, 3) := by decide +kernel
theorem dX12_plays1_43 : decode cX12_plays1 43 = .ok (.iconst 2, 1) := by decide +kernel
theorem dX12_plays1_44 : decode cX12_plays1 44 = .ok (.iaload, 1) := by decide +kernel
theorem dX12_plays1_45 : decode cX12_plays1 45 = .ok (.if_icmp .ge 58, 3) := by decide +kernel
theorem dX12_plays1_48 : decode cX12_plays1 48 = .ok (.aload_n 0, 1) := by decide +kernel
theorem dX12_plays1_49 : decode cX12_plays1 49 = .ok (.getfield 13, 3) := by decide +kernel
theorem dX12_plays1_52 : decode cX12_plays1 52 = .ok (.bipush 22, 2) := by decide +kernel
theorem dX12_plays1_54 : decode cX12_plays1 54 = .ok (.iload 5, 2) := by decide +kernel
theorem dX12_plays1_56 : decode cX12_plays1 56 = .ok (.iadd, 1) := by decide +kernel
theorem dX12_plays1_57 : decode cX12_plays1 57 = .ok (.iaload, 1) := by decide +kernel
theorem dX12_plays1_58 : decode cX12_plays1 58 = .ok (.ifCond .ne 6, 3) := by decide +kernel
theorem dX12_plays1_61 : decode cX12_plays1 61 = .ok (.goto 36, 3) := by decide +kernel
theorem dX12_plays1_64 : decode cX12_plays1 64 = .ok (.aload_n 0, 1) := by decide +kernel
theorem dX12_plays1_65 : decode cX12_plays1 65 = .ok (.iload 5, 2) := by decide +kernel
theorem dX12_plays1_67 : decode cX12_plays1 67 = .ok (.invokevirtual 267, 3) := by decide +kernel
theorem dX12_plays1_70 : decode cX12_plays1 70 = .ok (.pop, 1) := by decide +kernel
theorem dX12_plays1_71 : decode cX12_plays1 71 = .ok (.aload_n 0, 1) := by decide +kernel
theorem dX12_plays1_72 : decode cX12_plays1 72 = .ok (.iload_n 1, 1) := by decide +kernel
theorem dX12_plays1_73 : decode cX12_plays1 73 = .ok (.iconst 1, 1) := by decide +kernel
theorem dX12_plays1_74 : decode cX12_plays1 74 = .ok (.iadd, 1) := by decide +kernel
theorem dX12_plays1_75 : decode cX12_plays1 75 = .ok (.iload_n 2, 1) := by decide +kernel
theorem dX12_plays1_76 : decode cX12_plays1 76 = .ok (.lload_n 3, 1) := by decide +kernel
theorem dX12_plays1_77 : decode cX12_plays1 77 = .ok (.aload_n 0, 1) := by decide +kernel
theorem dX12_plays1_78 : decode cX12_plays1 78 = .ok (.getfield 13, 3) := by decide +kernel
theorem dX12_plays1_81 : decode cX12_plays1 81 = .ok (.bipush 22, 2) := by decide +kernel
theorem dX12_plays1_83 : decode cX12_plays1 83 = .ok (.iload 5, 2) := by decide +kernel
theorem dX12_plays1_85 : decode cX12_plays1 85 = .ok (.iadd, 1) := by decide +kernel
theorem dX12_plays1_86 : decode cX12_plays1 86 = .ok (.iaload, 1) := by decide +kernel
theorem dX12_plays1_87 : decode cX12_plays1 87 = .ok (.i2l, 1) := by decide +kernel
theorem dX12_plays1_88 : decode cX12_plays1 88 = .ok (.lmul, 1) := by decide +kernel
theorem dX12_plays1_89 : decode cX12_plays1 89 = .ok (.invokevirtual 435, 3) := by decide +kernel
theorem dX12_plays1_92 : decode cX12_plays1 92 = .ok (.aload_n 0, 1) := by decide +kernel
theorem dX12_plays1_93 : decode cX12_plays1 93 = .ok (.iload_n 1, 1) := by decide +kernel
theorem dX12_plays1_94 : decode cX12_plays1 94 = .ok (.invokevirtual 382, 3) := by decide +kernel
theorem dX12_plays1_97 : decode cX12_plays1 97 = .ok (.iinc 5 1, 3) := by decide +kernel
theorem dX12_plays1_100 : decode cX12_plays1 100 = .ok (.goto (-63), 3) := by decide +kernel
theorem dX12_plays1_103 : decode cX12_plays1 103 = .ok (.return_, 1) := by decide +kernel
def r_plays1B_37 (rec : Int32 → Int32 → Int64 → (Nat → Nat → Int32) → (Nat → Nat → Int64) → Option ((Nat → Nat → Int32) × (Nat → Nat → Int64))) (F : Nat) (z : Nat) (g1 : Int32) (g2 : Int32) (g3 : Int64) : Nat → Int32 → (Nat → Nat → Int32) → (Nat → Nat → Int64) → Option (Int32 × (Nat → Nat → Int32) × (Nat → Nat → Int64))
  | 0, _, _, _ => none
  | k + 1, l5, I, J => if (I (z + 1) (Int32.toNatClampNeg 2)) ≤ l5 then (some (l5, I, J)) else (chk (22 + l5) 3891 (if (I (z + 1) (Int32.toNatClampNeg (22 + l5))) = 0 then (r_plays1B_37 rec F z g1 g2 g3 k (l5 + 1) I J) else ((r_plays F I z l5).bind (fun q8 => let u10 := q8.1; let I11 := q8.2; (rec (g1 + 1) g2 (g3 * (Int32.toInt64 (I11 (z + 1) (Int32.toNatClampNeg (22 + l5))))) I11 J).bind (fun q12 => let I14 := q12.1; let J15 := q12.2; (r_isAheadAgain F I14 z g1).bind (fun q16 => let I18 := q16; r_plays1B_37 rec F z g1 g2 g3 k (l5 + 1) I18 J15))))))
def r_plays1B (rec : Int32 → Int32 → Int64 → (Nat → Nat → Int32) → (Nat → Nat → Int64) → Option ((Nat → Nat → Int32) × (Nat → Nat → Int64))) (F : Nat) (I : Nat → Nat → Int32) (J : Nat → Nat → Int64) (z : Nat) (v1 : Int32) (v2 : Int32) (v3 : Int64) : Option ((Nat → Nat → Int32) × (Nat → Nat → Int64)) := if v1 = v2 then ((r_firstNow F I z).bind (fun q24 => let u26 := q24; if u26 = (-1) then (some (I, J)) else (chk u26 6 (let J29 := uJ J (z + 17) (Int32.toNatClampNeg u26) ((J (z + 17) (Int32.toNatClampNeg u26)) + v3); some (I, J29))))) else ((r_keepsAhead F I z v1).bind (fun q2 => let I4 := q2; (r_plays1B_37 rec F z v1 v2 v3 F 0 I4 J).bind (fun q19 => let m21 := q19.1; let I22 := q19.2.1; let J23 := q19.2.2; some (I22, J23))))
def r_plays1 (F : Nat) (z : Nat) : Nat → Int32 → Int32 → Int64 → (Nat → Nat → Int32) → (Nat → Nat → Int64) → Option ((Nat → Nat → Int32) × (Nat → Nat → Int64))
  | 0, _, _, _, _, _ => none
  | kr + 1, a0, a1, a2, I, J => r_plays1B (r_plays1 F z kr) F I J z a0 a1 a2
def r_plays1_H (l : Launch) (D : va_G) (E : Nat → ClassId) (B : Nat → Prop) (n F : Nat) (T : Nat → Option (Nat × Nat)) (P : Nat → Nat → Option Nat) (z : Nat) (k : Nat) : Prop := (∀ {a0 : Int32} {a1 : Int32} {a2 : Int64} {I : Nat → Nat → Int32} {J : Nat → Nat → Int64} {r : (Nat → Nat → Int32) × (Nat → Nat → Int64)}, isMd T P z → r_plays1 F z k a0 a1 a2 I J = some r → Ct l D E B yX12_plays1 cX12_plays1 6 none (10 + k) 0 0 [.ref z, .int a0, .int a1, .long a2] (n, T, I, J, P) (Ret (none) (n, T, r.1, r.2, P)))
theorem l_r_plays1B_37 {l : Launch} {D : va_G} {E : Nat → ClassId} {B : Nat → Prop} {n F : Nat} {Q : Option Value → HT → Prop} {T : Nat → Option (Nat × Nat)} {P : Nat → Nat → Option Nat} {z : Nat} {g1 : Int32} {g2 : Int32} {g3 : Int64} (hs_z : isMd T P z) {kr : Nat} (ih0 : r_plays1_H l D E B n F T P z kr) (r : Int32 × (Nat → Nat → Int32) × (Nat → Nat → Int64)) : ∀ (k : Nat) (l5 : Int32) (I : (Nat → Nat → Int32)) (J : (Nat → Nat → Int64)), r_plays1B_37 (r_plays1 F z kr) F z g1 g2 g3 k l5 I J = some r → V l D E B yX12_plays1 cX12_plays1 6 none (10 + (kr + 1)) 0 0 Q 0 0 (n, T, r.2.1, r.2.2, P) 103 [(0, some (.ref z)), (1, some (.int g1)), (2, some (.int g2)), (3, some (.long g3)), (5, some (.int (r.1)))] [] → V l D E B yX12_plays1 cX12_plays1 6 none (10 + (kr + 1)) 0 0 Q 0 0 (n, T, I, J, P) 37 [(0, some (.ref z)), (1, some (.int g1)), (2, some (.int g2)), (3, some (.long g3)), (5, some (.int l5))] [] := by
  intro k
  induction k with
  | zero =>
    intro l5 I J hf hk
    cases hf
  | succ k ih =>
    intro l5 I J hf hk
    unfold r_plays1B_37 at hf
    refine V.iload dX12_plays1_37 rfl ?_
    refine V.aload_n dX12_plays1_39 rfl ?_
    refine V.getr fl_X12_13 dX12_plays1_40 (hs_z.1 0 (12, 0) rfl) (hs_z.2 0 1 1 rfl) (by decide) rfl ?_
    refine V.iconst (v := 2) dX12_plays1_43 (by decide) ?_
    refine V.iald dX12_plays1_44 (hs_z.1 1 (20, 3891) rfl) (vp_lit (by decide)) ?_
    refine V.icmp_ge 103 dX12_plays1_45 (by decide) (fun c5 => ?_) (fun c5 => ?_)
    · rw [if_pos c5] at hf
      obtain rfl := Option.some.inj hf
      exact V.lo [(0, some (.ref z)), (1, some (.int g1)), (2, some (.int g2)), (3, some (.long g3)), (5, some (.int l5))] (by simp only [Subs]; repeat' first | exact trivial | constructor | rfl) hk
    · rw [if_neg c5] at hf
      refine V.aload_n dX12_plays1_48 rfl ?_
      refine V.getr fl_X12_13 dX12_plays1_49 (hs_z.1 0 (12, 0) rfl) (hs_z.2 0 1 1 rfl) (by decide) rfl ?_
      refine V.bipush (v := 22) dX12_plays1_52 (by decide) ?_
      refine V.iload dX12_plays1_54 rfl ?_
      refine V.iadd dX12_plays1_56 ?_
      obtain ⟨hb6, hf⟩ := chk_some hf
      refine V.iald dX12_plays1_57 (hs_z.1 1 (20, 3891) rfl) hb6 ?_
      refine V.if_ne 64 dX12_plays1_58 (by decide) (fun c7 => ?_) (fun c7 => ?_)
      · rw [if_neg c7] at hf
        refine V.aload_n dX12_plays1_64 rfl ?_
        refine V.iload dX12_plays1_65 rfl ?_
        obtain ⟨⟨u10, I11⟩, hk9, hf⟩ := bnd_some hf
        try dsimp only at hf
        refine V.inv cv_X12_267 (c_r_plays hs_z hk9) dX12_plays1_67 (hs_z.1 0 (12, 0) rfl) (by decide) rfl rfl rfl (Nat.le_of_ble_eq_true rfl) (by omega) (by decide) (Nat.le_refl _) (Nat.le_refl _) (fun _ _ hq => ?_)
        obtain ⟨rfl, rfl⟩ := hq
        try dsimp only
        refine V.pop dX12_plays1_70 rfl ?_
        refine V.aload_n dX12_plays1_71 rfl ?_
        refine V.iload_n dX12_plays1_72 rfl ?_
        refine V.iconst (v := 1) dX12_plays1_73 (by decide) ?_
        refine V.iadd dX12_plays1_74 ?_
        refine V.iload_n dX12_plays1_75 rfl ?_
        refine V.lload_n dX12_plays1_76 rfl ?_
        refine V.aload_n dX12_plays1_77 rfl ?_
        refine V.getr fl_X12_13 dX12_plays1_78 (hs_z.1 0 (12, 0) rfl) (hs_z.2 0 1 1 rfl) (by decide) rfl ?_
        refine V.bipush (v := 22) dX12_plays1_81 (by decide) ?_
        refine V.iload dX12_plays1_83 rfl ?_
        refine V.iadd dX12_plays1_85 ?_
        refine V.iald dX12_plays1_86 (hs_z.1 1 (20, 3891) rfl) hb6 ?_
        refine V.i2l dX12_plays1_87 ?_
        refine V.lmul dX12_plays1_88 ?_
        obtain ⟨⟨I14, J15⟩, hk13, hf⟩ := bnd_some hf
        try dsimp only at hf
        refine V.inv cv_X12_435 ((ih0) hs_z hk13) dX12_plays1_89 (hs_z.1 0 (12, 0) rfl) (by decide) rfl rfl rfl (Nat.le_of_ble_eq_true rfl) (by omega) (by decide) (Nat.le_refl _) (Nat.le_refl _) (fun _ _ hq => ?_)
        obtain ⟨rfl, rfl⟩ := hq
        try dsimp only
        refine V.aload_n dX12_plays1_92 rfl ?_
        refine V.iload_n dX12_plays1_93 rfl ?_
        obtain ⟨I18, hk17, hf⟩ := bnd_some hf
        try dsimp only at hf
        refine V.inv cv_X12_382 (c_r_isAheadAgain hs_z hk17) dX12_plays1_94 (hs_z.1 0 (12, 0) rfl) (by decide) rfl rfl rfl (Nat.le_of_ble_eq_true rfl) (by omega) (by decide) (Nat.le_refl _) (Nat.le_refl _) (fun _ _ hq => ?_)
        obtain ⟨rfl, rfl⟩ := hq
        refine V.iinc (v := (l5 + 1)) dX12_plays1_97 rfl rfl (by first | exact rfl | exact trivial) ?_
        refine V.goto 37 dX12_plays1_100 (by decide) ?_
        exact V.lo [(0, some (.ref z)), (1, some (.int g1)), (2, some (.int g2)), (3, some (.long g3)), (5, some (.int (l5 + 1)))] (by simp only [Subs]; repeat' first | exact trivial | constructor | rfl) (ih _ _ _ hf hk)
      · rw [if_pos c7] at hf
        refine V.goto 97 dX12_plays1_61 (by decide) ?_
        refine V.iinc (v := (l5 + 1)) dX12_plays1_97 rfl rfl (by first | exact rfl | exact trivial) ?_
        refine V.goto 37 dX12_plays1_100 (by decide) ?_
        exact V.lo [(0, some (.ref z)), (1, some (.int g1)), (2, some (.int g2)), (3, some (.long g3)), (5, some (.int (l5 + 1)))] (by simp only [Subs]; repeat' first | exact trivial | constructor | rfl) (ih _ _ _ hf hk)
theorem s_r_plays1B {l : Launch} {D : va_G} {E : Nat → ClassId} {B : Nat → Prop} {n F : Nat} {T : Nat → Option (Nat × Nat)} {P : Nat → Nat → Option Nat} {z : Nat} {kr : Nat} (ih0 : r_plays1_H l D E B n F T P z kr) {v1 : Int32} {v2 : Int32} {v3 : Int64} {I : Nat → Nat → Int32} {J : Nat → Nat → Int64} {r : (Nat → Nat → Int32) × (Nat → Nat → Int64)} (hs_z : isMd T P z) (hf : r_plays1B (r_plays1 F z kr) F I J z v1 v2 v3 = some r) : Ct l D E B yX12_plays1 cX12_plays1 6 none (10 + (kr + 1)) 0 0 [.ref z, .int v1, .int v2, .long v3] (n, T, I, J, P) (Ret (none) (n, T, r.1, r.2, P)) := by
  unfold r_plays1B at hf
  refine Ct.ofV (by decide) (Nat.le_of_ble_eq_true rfl) ?_
  refine V.iload_n dX12_plays1_0 rfl ?_
  refine V.iload_n dX12_plays1_1 rfl ?_
  refine V.icmp_ne 29 dX12_plays1_2 (by decide) (fun c1 => ?_) (fun c1 => ?_)
  · rw [if_neg c1] at hf
    refine V.aload_n dX12_plays1_29 rfl ?_
    refine V.iload_n dX12_plays1_30 rfl ?_
    obtain ⟨I4, hk3, hf⟩ := bnd_some hf
    try dsimp only at hf
    refine V.inv cv_X12_375 (c_r_keepsAhead hs_z hk3) dX12_plays1_31 (hs_z.1 0 (12, 0) rfl) (by decide) rfl rfl rfl (Nat.le_of_ble_eq_true rfl) (by omega) (by decide) (Nat.le_refl _) (Nat.le_refl _) (fun _ _ hq => ?_)
    obtain ⟨rfl, rfl⟩ := hq
    refine V.iconst (v := 0) dX12_plays1_34 (by decide) ?_
    refine V.istore dX12_plays1_35 (by decide) (by first | exact rfl | exact trivial) ?_
    obtain ⟨⟨m21, I22, J23⟩, hk20, hf⟩ := bnd_some hf
    try dsimp only at hf
    refine V.lo [(0, some (.ref z)), (1, some (.int v1)), (2, some (.int v2)), (3, some (.long v3)), (5, some (.int 0))] (by simp only [Subs]; repeat' first | exact trivial | constructor | rfl) (l_r_plays1B_37 hs_z ih0 _ F _ _ _ hk20 ?_)
    try dsimp only
    obtain rfl := Option.some.inj hf
    exact V.vret dX12_plays1_103 rfl (Nat.le_refl _) (Nat.le_refl _) ⟨rfl, rfl⟩
  · rw [if_pos c1] at hf
    refine V.aload_n dX12_plays1_5 rfl ?_
    obtain ⟨u26, hk25, hf⟩ := bnd_some hf
    try dsimp only at hf
    refine V.inv cv_X12_324 (c_r_firstNow hs_z hk25) dX12_plays1_6 (hs_z.1 0 (12, 0) rfl) (by decide) rfl rfl rfl (Nat.le_of_ble_eq_true rfl) (by omega) (by decide) (Nat.le_refl _) (Nat.le_refl _) (fun _ _ hq => ?_)
    obtain ⟨rfl, rfl⟩ := hq
    refine V.istore dX12_plays1_9 (by decide) (by first | exact rfl | exact trivial) ?_
    refine V.iload dX12_plays1_11 rfl ?_
    refine V.iconst (v := -1) dX12_plays1_13 (by decide) ?_
    refine V.icmp_eq 28 dX12_plays1_14 (by decide) (fun c27 => ?_) (fun c27 => ?_)
    · rw [if_pos c27] at hf
      obtain rfl := Option.some.inj hf
      exact V.vret dX12_plays1_28 rfl (Nat.le_refl _) (Nat.le_refl _) ⟨rfl, rfl⟩
    · rw [if_neg c27] at hf
      refine V.aload_n dX12_plays1_17 rfl ?_
      refine V.getr fl_X12_66 dX12_plays1_18 (hs_z.1 0 (12, 0) rfl) (hs_z.2 0 32 17 rfl) (by decide) rfl ?_
      refine V.iload dX12_plays1_21 rfl ?_
      refine V.dup2 dX12_plays1_23 rfl rfl ?_
      obtain ⟨hb28, hf⟩ := chk_some hf
      refine V.lald dX12_plays1_24 (hs_z.1 17 (22, 6) rfl) hb28 ?_
      refine V.lload_n dX12_plays1_25 rfl ?_
      refine V.ladd dX12_plays1_26 ?_
      refine V.lastE dX12_plays1_27 (hs_z.1 17 (22, 6) rfl) hb28 (fun J29 e30 => ?_)
      rw [← e30] at hf
      try dsimp only at hf
      clear e30
      obtain rfl := Option.some.inj hf
      exact V.vret dX12_plays1_28 rfl (Nat.le_refl _) (Nat.le_refl _) ⟨rfl, rfl⟩
theorem r_plays1_all {l : Launch} {D : va_G} {E : Nat → ClassId} {B : Nat → Prop} {n F : Nat} {T : Nat → Option (Nat × Nat)} {P : Nat → Nat → Option Nat} {z : Nat} : ∀ k, r_plays1_H l D E B n F T P z k := by
  intro k
  induction k with
  | zero =>
    exact fun _ hf => by cases hf
  | succ kr ih0 =>
    exact fun hs_z hf => s_r_plays1B ih0 hs_z hf
def r_plays1B_f (F : Nat) (I : Nat → Nat → Int32) (J : Nat → Nat → Int64) (z : Nat) (v1 : Int32) (v2 : Int32) (v3 : Int64) : Option ((Nat → Nat → Int32) × (Nat → Nat → Int64)) := r_plays1 F z 10 v1 v2 v3 I J
theorem c_r_plays1B_f {l : Launch} {D : va_G} {E : Nat → ClassId} {B : Nat → Prop} {n F : Nat} {T : Nat → Option (Nat × Nat)} {P : Nat → Nat → Option Nat} {z : Nat} {v1 : Int32} {v2 : Int32} {v3 : Int64} {I : Nat → Nat → Int32} {J : Nat → Nat → Int64} {r : (Nat → Nat → Int32) × (Nat → Nat → Int64)} (hs_z : isMd T P z) (hf : r_plays1B_f F I J z v1 v2 v3 = some r) : Ct l D E B yX12_plays1 cX12_plays1 6 none 20 0 0 [.ref z, .int v1, .int v2, .long v3] (n, T, I, J, P) (Ret (none) (n, T, r.1, r.2, P)) := (r_plays1_all 10) hs_z hf
theorem dX12_laysFirsts_0 : decode cX12_laysFirsts 0 = .ok (.iconst 0, 1) := by decide +kernel
theorem dX12_laysFirsts_1 : decode cX12_laysFirsts 1 = .ok (.istore_n 2, 1) := by decide +kernel
theorem dX12_laysFirsts_2 : decode cX12_laysFirsts 2 = .ok (.iload_n 2, 1) := by decide +kernel
theorem dX12_laysFirsts_3 : decode cX12_laysFirsts 3 = .ok (.bipush 6, 2) := by decide +kernel
theorem dX12_laysFirsts_5 : decode cX12_laysFirsts 5 = .ok (.if_icmp .ge 16, 3) := by decide +kernel
theorem dX12_laysFirsts_8 : decode cX12_laysFirsts 8 = .ok (.aload_n 0, 1) := by decide +kernel
theorem dX12_laysFirsts_9 : decode cX12_laysFirsts 9 = .ok (.getfield 66, 3) := by decide +kernel
theorem dX12_laysFirsts_12 : decode cX12_laysFirsts 12 = .ok (.iload_n 2, 1) := by decide +kernel
theorem dX12_laysFirsts_13 : decode cX12_laysFirsts 13 = .ok (.lconst 0, 1) := by decide +kernel
theorem dX12_laysFirsts_14 : decode cX12_laysFirsts 14 = .ok (.lastore, 1) := by decide +kernel
theorem dX12_laysFirsts_15 : decode cX12_laysFirsts 15 = .ok (.iinc 2 1, 3) := by decide +kernel
theorem dX12_laysFirsts_18 : decode cX12_laysFirsts 18 = .ok (.goto (-16), 3) := by decide +kernel
theorem dX12_laysFirsts_21 : decode cX12_laysFirsts 21 = .ok (.aload_n 0, 1) := by decide +kernel
theorem dX12_laysFirsts_22 : decode cX12_laysFirsts 22 = .ok (.iconst 0, 1) := by decide +kernel
theorem dX12_laysFirsts_23 : decode cX12_laysFirsts 23 = .ok (.aload_n 0, 1) := by decide +kernel
theorem dX12_laysFirsts_24 : decode cX12_laysFirsts 24 = .ok (.iload_n 1, 1) := by decide +kernel
theorem dX12_laysFirsts_25 : decode cX12_laysFirsts 25 = .ok (.invokevirtual 442, 3) := by decide +kernel
theorem dX12_laysFirsts_28 : decode cX12_laysFirsts 28 = .ok (.lconst 1, 1) := by decide +kernel
theorem dX12_laysFirsts_29 : decode cX12_laysFirsts 29 = .ok (.invokevirtual 435, 3) := by decide +kernel
theorem dX12_laysFirsts_32 : decode cX12_laysFirsts 32 = .ok (.return_, 1) := by decide +kernel
def r_laysFirsts_2 (F : Nat) (z : Nat) (g1 : Int32) : Nat → Int32 → (Nat → Nat → Int64) → Option (Int32 × (Nat → Nat → Int64))
  | 0, _, _ => none
  | k + 1, l2, J => if 6 ≤ l2 then (some (l2, J)) else (chk l2 6 (let J3 := uJ J (z + 17) (Int32.toNatClampNeg l2) 0; r_laysFirsts_2 F z g1 k (l2 + 1) J3))
def r_laysFirsts (F : Nat) (I : Nat → Nat → Int32) (J : Nat → Nat → Int64) (z : Nat) (v1 : Int32) : Option ((Nat → Nat → Int32) × (Nat → Nat → Int64)) := (r_laysFirsts_2 F z v1 F 0 J).bind (fun q5 => let m7 := q5.1; let J8 := q5.2; (r_minutesOf F I z v1).bind (fun q9 => let u11 := q9; (r_plays1B_f F I J8 z 0 u11 1).bind (fun q12 => let I14 := q12.1; let J15 := q12.2; some (I14, J15))))
theorem l_r_laysFirsts_2 {l : Launch} {D : va_G} {E : Nat → ClassId} {B : Nat → Prop} {n F : Nat} {Q : Option Value → HT → Prop} {T : Nat → Option (Nat × Nat)} {I : Nat → Nat → Int32} {P : Nat → Nat → Option Nat} {z : Nat} {g1 : Int32} (hs_z : isMd T P z)  (r : Int32 × (Nat → Nat → Int64)) : ∀ (k : Nat) (l2 : Int32) (J : (Nat → Nat → Int64)), r_laysFirsts_2 F z g1 k l2 J = some r → V l D E B yX12_laysFirsts cX12_laysFirsts 3 none 21 0 0 Q 0 0 (n, T, I, r.2, P) 21 [(0, some (.ref z)), (1, some (.int g1)), (2, some (.int (r.1)))] [] → V l D E B yX12_laysFirsts cX12_laysFirsts 3 none 21 0 0 Q 0 0 (n, T, I, J, P) 2 [(0, some (.ref z)), (1, some (.int g1)), (2, some (.int l2))] [] := by
  intro k
  induction k with
  | zero =>
    intro l2 J hf hk
    cases hf
  | succ k ih =>
    intro l2 J hf hk
    unfold r_laysFirsts_2 at hf
    refine V.iload_n dX12_laysFirsts_2 rfl ?_
    refine V.bipush (v := 6) dX12_laysFirsts_3 (by decide) ?_
    refine V.icmp_ge 21 dX12_laysFirsts_5 (by decide) (fun c1 => ?_) (fun c1 => ?_)
    · rw [if_pos c1] at hf
      obtain rfl := Option.some.inj hf
      exact V.lo [(0, some (.ref z)), (1, some (.int g1)), (2, some (.int l2))] (by simp only [Subs]; repeat' first | exact trivial | constructor | rfl) hk
    · rw [if_neg c1] at hf
      refine V.aload_n dX12_laysFirsts_8 rfl ?_
      refine V.getr fl_X12_66 dX12_laysFirsts_9 (hs_z.1 0 (12, 0) rfl) (hs_z.2 0 32 17 rfl) (by decide) rfl ?_
      refine V.iload_n dX12_laysFirsts_12 rfl ?_
      refine V.lconst (v := 0) dX12_laysFirsts_13 (by decide) ?_
      obtain ⟨hb2, hf⟩ := chk_some hf
      refine V.lastE dX12_laysFirsts_14 (hs_z.1 17 (22, 6) rfl) hb2 (fun J3 e4 => ?_)
      rw [← e4] at hf
      try dsimp only at hf
      clear e4
      refine V.iinc (v := (l2 + 1)) dX12_laysFirsts_15 rfl rfl (by first | exact rfl | exact trivial) ?_
      refine V.goto 2 dX12_laysFirsts_18 (by decide) ?_
      exact V.lo [(0, some (.ref z)), (1, some (.int g1)), (2, some (.int (l2 + 1)))] (by simp only [Subs]; repeat' first | exact trivial | constructor | rfl) (ih _ _ hf hk)
theorem c_r_laysFirsts {l : Launch} {D : va_G} {E : Nat → ClassId} {B : Nat → Prop} {n F : Nat} {T : Nat → Option (Nat × Nat)} {I : Nat → Nat → Int32} {J : Nat → Nat → Int64} {P : Nat → Nat → Option Nat} {z : Nat} {v1 : Int32} {r : (Nat → Nat → Int32) × (Nat → Nat → Int64)} (hs_z : isMd T P z) (hf : r_laysFirsts F I J z v1 = some r) : Ct l D E B yX12_laysFirsts cX12_laysFirsts 3 none 21 0 0 [.ref z, .int v1] (n, T, I, J, P) (Ret (none) (n, T, r.1, r.2, P)) := by
  unfold r_laysFirsts at hf
  refine Ct.ofV (by decide) (Nat.le_of_ble_eq_true rfl) ?_
  refine V.iconst (v := 0) dX12_laysFirsts_0 (by decide) ?_
  refine V.istore_n dX12_laysFirsts_1 rfl (by decide) (by first | exact rfl | exact trivial) ?_
  obtain ⟨⟨m7, J8⟩, hk6, hf⟩ := bnd_some hf
  try dsimp only at hf
  refine V.lo [(0, some (.ref z)), (1, some (.int v1)), (2, some (.int 0))] (by simp only [Subs]; repeat' first | exact trivial | constructor | rfl) (l_r_laysFirsts_2 hs_z _ F _ _ hk6 ?_)
  try dsimp only
  refine V.aload_n dX12_laysFirsts_21 rfl ?_
  refine V.iconst (v := 0) dX12_laysFirsts_22 (by decide) ?_
  refine V.aload_n dX12_laysFirsts_23 rfl ?_
  refine V.iload_n dX12_laysFirsts_24 rfl ?_
  obtain ⟨u11, hk10, hf⟩ := bnd_some hf
  try dsimp only at hf
  refine V.inv cv_X12_442 (c_r_minutesOf hs_z hk10) dX12_laysFirsts_25 (hs_z.1 0 (12, 0) rfl) (by decide) rfl rfl rfl (Nat.le_of_ble_eq_true rfl) (by decide) (by decide) (Nat.le_refl _) (Nat.le_refl _) (fun _ _ hq => ?_)
  obtain ⟨rfl, rfl⟩ := hq
  refine V.lconst (v := 1) dX12_laysFirsts_28 (by decide) ?_
  obtain ⟨⟨I14, J15⟩, hk13, hf⟩ := bnd_some hf
  try dsimp only at hf
  refine V.inv cv_X12_435 (c_r_plays1B_f hs_z hk13) dX12_laysFirsts_29 (hs_z.1 0 (12, 0) rfl) (by decide) rfl rfl rfl (Nat.le_of_ble_eq_true rfl) (by decide) (by decide) (Nat.le_refl _) (Nat.le_refl _) (fun _ _ hq => ?_)
  obtain ⟨rfl, rfl⟩ := hq
  try dsimp only
  obtain rfl := Option.some.inj hf
  exact V.vret dX12_laysFirsts_32 rfl (Nat.le_refl _) (Nat.le_refl _) ⟨rfl, rfl⟩
theorem dX12_chance_0 : decode cX12_chance 0 = .ok (.aload_n 0, 1) := by decide +kernel
theorem dX12_chance_1 : decode cX12_chance 1 = .ok (.iconst 0, 1) := by decide +kernel
theorem dX12_chance_2 : decode cX12_chance 2 = .ok (.putfield 1, 3) := by decide +kernel
theorem dX12_chance_5 : decode cX12_chance 5 = .ok (.aload_n 0, 1) := by decide +kernel
theorem dX12_chance_6 : decode cX12_chance 6 = .ok (.iload_n 1, 1) := by decide +kernel
theorem dX12_chance_7 : decode cX12_chance 7 = .ok (.i2l, 1) := by decide +kernel
theorem dX12_chance_8 : decode cX12_chance 8 = .ok (.invokevirtual 210, 3) := by decide +kernel
theorem dX12_chance_11 : decode cX12_chance 11 = .ok (.ifCond .eq 10, 3) := by decide +kernel
theorem dX12_chance_14 : decode cX12_chance 14 = .ok (.iload_n 3, 1) := by decide +kernel
theorem dX12_chance_15 : decode cX12_chance 15 = .ok (.invokestatic 408, 3) := by decide +kernel
theorem dX12_chance_18 : decode cX12_chance 18 = .ok (.ifCond .ne 7, 3) := by decide +kernel
theorem dX12_chance_21 : decode cX12_chance 21 = .ok (.ldc2_w 449, 3) := by decide +kernel
theorem dX12_chance_24 : decode cX12_chance 24 = .ok (.lreturn, 1) := by decide +kernel
theorem dX12_chance_25 : decode cX12_chance 25 = .ok (.iload_n 2, 1) := by decide +kernel
theorem dX12_chance_26 : decode cX12_chance 26 = .ok (.i2l, 1) := by decide +kernel
theorem dX12_chance_27 : decode cX12_chance 27 = .ok (.lconst 0, 1) := by decide +kernel
theorem dX12_chance_28 : decode cX12_chance 28 = .ok (.ldc2_w 393, 3) := by decide +kernel
theorem dX12_chance_31 : decode cX12_chance 31 = .ok (.invokestatic 145, 3) := by decide +kernel
theorem dX12_chance_34 : decode cX12_chance 34 = .ok (.ifCond .ne 7, 3) := by decide +kernel
theorem dX12_chance_37 : decode cX12_chance 37 = .ok (.ldc2_w 451, 3) := by decide +kernel
theorem dX12_chance_40 : decode cX12_chance 40 = .ok (.lreturn, 1) := by decide +kernel
theorem dX12_chance_41 : decode cX12_chance 41 = .ok (.aload_n 0, 1) := by decide +kernel
theorem dX12_chance_42 : decode cX12_chance 42 = .ok (.iload_n 2, 1) := by decide +kernel
theorem dX12_chance_43 : decode cX12_chance 43 = .ok (.invokevirtual 453, 3) := by decide +kernel
theorem dX12_chance_46 : decode cX12_chance 46 = .ok (.lconst 1, 1) := by decide +kernel
theorem dX12_chance_47 : decode cX12_chance 47 = .ok (.lstore 4, 2) := by decide +kernel
theorem dX12_chance_49 : decode cX12_chance 49 = .ok (.iconst 0, 1) := by decide +kernel
theorem dX12_chance_50 : decode cX12_chance 50 = .ok (.istore 6, 2) := by decide +kernel
theorem dX12_chance_52 : decode cX12_chance 52 = .ok (.iload 6, 2) := by decide +kernel
theorem dX12_chance_54 : decode cX12_chance 54 = .ok (.aload_n 0, 1) := by decide +kernel
theorem dX12_chance_55 : decode cX12_chance 55 = .ok (.iload_n 2, 1) := by decide +kernel
theorem dX12_chance_56 : decode cX12_chance 56 = .ok (.invokevirtual 442, 3) := by decide +kernel
theorem dX12_chance_59 : decode cX12_chance 59 = .ok (.if_icmp .ge 19, 3) := by decide +kernel
theorem dX12_chance_62 : decode cX12_chance 62 = .ok (.lload 4, 2) := by decide +kernel
theorem dX12_chance_64 : decode cX12_chance 64 = .ok (.aload_n 0, 1) := by decide +kernel
theorem dX12_chance_65 : decode cX12_chance 65 = .ok (.invokevirtual 439, 3) := by decide +kernel
theorem dX12_chance_68 : decode cX12_chance 68 = .ok (.i2l, 1) := by decide +kernel
theorem dX12_chance_69 : decode cX12_chance 69 = .ok (.lmul, 1) := by decide +kernel
theorem dX12_chance_70 : decode cX12_chance 70 = .ok (.lstore 4, 2) := by decide +kernel
theorem dX12_chance_72 : decode cX12_chance 72 = .ok (.iinc 6 1, 3) := by decide +kernel
theorem dX12_chance_75 : decode cX12_chance 75 = .ok (.goto (-23), 3) := by decide +kernel
theorem dX12_chance_78 : decode cX12_chance 78 = .ok (.iload_n 3, 1) := by decide +kernel
theorem dX12_chance_79 : decode cX12_chance 79 = .ok (.ifCond .ne 12, 3) := by decide +kernel
theorem dX12_chance_82 : decode cX12_chance 82 = .ok (.aload_n 0, 1) := by decide +kernel
theorem dX12_chance_83 : decode cX12_chance 83 = .ok (.getfield 66, 3) := by decide +kernel
theorem dX12_chance_86 : decode cX12_chance 86 = .ok (.iload_n 1, 1) := by decide +kernel
theorem dX12_chance_87 : decode cX12_chance 87 = .ok (.laload, 1) := by decide +kernel
theorem dX12_chance_88 : decode cX12_chance 88 = .ok (.goto 5, 3) := by decide +kernel
theorem dX12_chance_91 : decode cX12_chance 91 = .ok (.lload 4, 2) := by decide +kernel
theorem dX12_chance_93 : decode cX12_chance 93 = .ok (.aload_n 0, 1) := by decide +kernel
theorem dX12_chance_94 : decode cX12_chance 94 = .ok (.getfield 66, 3) := by decide +kernel
theorem dX12_chance_97 : decode cX12_chance 97 = .ok (.iload_n 1, 1) := by decide +kernel
theorem dX12_chance_98 : decode cX12_chance 98 = .ok (.laload, 1) := by decide +kernel
theorem dX12_chance_99 : decode cX12_chance 99 = .ok (.lload 4, 2) := by decide +kernel
theorem dX12_chance_101 : decode cX12_chance 101 = .ok (.invokestatic 445, 3) := by decide +kernel
theorem dX12_chance_104 : decode cX12_chance 104 = .ok (.ldiv, 1) := by decide +kernel
theorem dX12_chance_105 : decode cX12_chance 105 = .ok (.lreturn, 1) := by decide +kernel
def r_chance_52 (F : Nat) (I : Nat → Nat → Int32) (z : Nat) (g1 : Int32) (g2 : Int32) (g3 : Int32) : Nat → Int64 → Int32 → Option (Int64 × Int32)
  | 0, _, _ => none
  | k + 1, l4, l6 => (r_minutesOf F I z g2).bind (fun q16 => let u18 := q16; if u18 ≤ l6 then (some (l4, l6)) else ((r_oddsAll F I z).bind (fun q20 => let u22 := q20; let x23 := (l4 * (Int32.toInt64 u22)); r_chance_52 F I z g1 g2 g3 k x23 (l6 + 1))))
def r_chance (F : Nat) (I : Nat → Nat → Int32) (J : Nat → Nat → Int64) (z : Nat) (v1 : Int32) (v2 : Int32) (v3 : Int32) : Option (Int64 × (Nat → Nat → Int32) × (Nat → Nat → Int64)) := let I1 := uI I z 0 0; (r_isPerson I1 z (Int32.toInt64 v1)).bind (fun q3 => let u5 := q3; if u5 = 0 then (some ((-2), I1, J)) else ((r_isWhat v3).bind (fun q7 => let u9 := q7; if u9 = 0 then (some ((-2), I1, J)) else (if (r_within (Int32.toInt64 v2) 0 6) = 0 then (some ((-3), I1, J)) else ((r_laysFirsts F I1 J z v2).bind (fun q12 => let I14 := q12.1; let J15 := q12.2; (r_chance_52 F I14 z v1 v2 v3 F 1 0).bind (fun q25 => let m27 := q25.1; let m28 := q25.2; if v3 = 0 then (chk v1 6 ((r_commonB_f F (J15 (z + 17) (Int32.toNatClampNeg v1)) m27).bind (fun q36 => let u38 := q36; nzl u38 (some (((J15 (z + 17) (Int32.toNatClampNeg v1)) / u38), I14, J15))))) else (chk v1 6 ((r_commonB_f F (J15 (z + 17) (Int32.toNatClampNeg v1)) m27).bind (fun q31 => let u33 := q31; nzl u33 (some ((m27 / u33), I14, J15))))))))))))
theorem l_r_chance_52 {l : Launch} {D : va_G} {E : Nat → ClassId} {B : Nat → Prop} {n F : Nat} {Q : Option Value → HT → Prop} {T : Nat → Option (Nat × Nat)} {I : Nat → Nat → Int32} {J : Nat → Nat → Int64} {P : Nat → Nat → Option Nat} {z : Nat} {g1 : Int32} {g2 : Int32} {g3 : Int32} (hs_z : isMd T P z)  (r : Int64 × Int32) : ∀ (k : Nat) (l4 : Int64) (l6 : Int32), r_chance_52 F I z g1 g2 g3 k l4 l6 = some r → V l D E B yX12_chance cX12_chance 7 (some .long) 201 0 0 Q 0 0 (n, T, I, J, P) 78 [(0, some (.ref z)), (1, some (.int g1)), (2, some (.int g2)), (3, some (.int g3)), (4, some (.long (r.1))), (6, some (.int (r.2)))] [] → V l D E B yX12_chance cX12_chance 7 (some .long) 201 0 0 Q 0 0 (n, T, I, J, P) 52 [(0, some (.ref z)), (1, some (.int g1)), (2, some (.int g2)), (3, some (.int g3)), (4, some (.long l4)), (6, some (.int l6))] [] := by
  intro k
  induction k with
  | zero =>
    intro l4 l6 hf hk
    cases hf
  | succ k ih =>
    intro l4 l6 hf hk
    unfold r_chance_52 at hf
    refine V.iload dX12_chance_52 rfl ?_
    refine V.aload_n dX12_chance_54 rfl ?_
    refine V.iload_n dX12_chance_55 rfl ?_
    obtain ⟨u18, hk17, hf⟩ := bnd_some hf
    try dsimp only at hf
    refine V.inv cv_X12_442 (c_r_minutesOf hs_z hk17) dX12_chance_56 (hs_z.1 0 (12, 0) rfl) (by decide) rfl rfl rfl (Nat.le_of_ble_eq_true rfl) (by decide) (by decide) (Nat.le_refl _) (Nat.le_refl _) (fun _ _ hq => ?_)
    obtain ⟨rfl, rfl⟩ := hq
    refine V.icmp_ge 78 dX12_chance_59 (by decide) (fun c19 => ?_) (fun c19 => ?_)
    · rw [if_pos c19] at hf
      obtain rfl := Option.some.inj hf
      exact V.lo [(0, some (.ref z)), (1, some (.int g1)), (2, some (.int g2)), (3, some (.int g3)), (4, some (.long l4)), (6, some (.int l6))] (by simp only [Subs]; repeat' first | exact trivial | constructor | rfl) hk
    · rw [if_neg c19] at hf
      refine V.lload dX12_chance_62 rfl ?_
      refine V.aload_n dX12_chance_64 rfl ?_
      obtain ⟨u22, hk21, hf⟩ := bnd_some hf
      try dsimp only at hf
      refine V.inv cv_X12_439 (c_r_oddsAll hs_z hk21) dX12_chance_65 (hs_z.1 0 (12, 0) rfl) (by decide) rfl rfl rfl (Nat.le_of_ble_eq_true rfl) (by decide) (by decide) (Nat.le_refl _) (Nat.le_refl _) (fun _ _ hq => ?_)
      obtain ⟨rfl, rfl⟩ := hq
      refine V.i2l dX12_chance_68 ?_
      refine V.lmul dX12_chance_69 ?_
      refine V.lstore dX12_chance_70 (by decide) (by first | exact rfl | exact trivial) ?_
      obtain ⟨x23, e24⟩ : ∃ zz_, zz_ = (l4 * (Int32.toInt64 u22)) := ⟨_, rfl⟩
      rw [← e24] at hf ⊢
      try dsimp only at hf
      refine V.iinc (v := (l6 + 1)) dX12_chance_72 rfl rfl (by first | exact rfl | exact trivial) ?_
      refine V.goto 52 dX12_chance_75 (by decide) ?_
      exact V.lo [(0, some (.ref z)), (1, some (.int g1)), (2, some (.int g2)), (3, some (.int g3)), (4, some (.long x23)), (6, some (.int (l6 + 1)))] (by simp only [Subs]; repeat' first | exact trivial | constructor | rfl) (ih _ _ hf hk)
theorem c_r_chance {l : Launch} {D : va_G} {E : Nat → ClassId} {B : Nat → Prop} {n F : Nat} {T : Nat → Option (Nat × Nat)} {I : Nat → Nat → Int32} {J : Nat → Nat → Int64} {P : Nat → Nat → Option Nat} {z : Nat} {v1 : Int32} {v2 : Int32} {v3 : Int32} {r : Int64 × (Nat → Nat → Int32) × (Nat → Nat → Int64)} (hs_z : isMd T P z) (hf : r_chance F I J z v1 v2 v3 = some r) : Ct l D E B yX12_chance cX12_chance 7 (some .long) 201 0 0 [.ref z, .int v1, .int v2, .int v3] (n, T, I, J, P) (Ret (some (.long r.1)) (n, T, r.2.1, r.2.2, P)) := by
  unfold r_chance at hf
  refine Ct.ofV (by decide) (Nat.le_of_ble_eq_true rfl) ?_
  refine V.aload_n dX12_chance_0 rfl ?_
  refine V.iconst (v := 0) dX12_chance_1 (by decide) ?_
  refine V.putiE fl_X12_1 dX12_chance_2 (hs_z.1 0 (12, 0) rfl) (by decide) (fun h => by cases h) rfl rfl rfl (Nat.le_of_ble_eq_true rfl) (fun I1 e2 => ?_)
  rw [← e2] at hf
  try dsimp only at hf
  clear e2
  refine V.aload_n dX12_chance_5 rfl ?_
  refine V.iload_n dX12_chance_6 rfl ?_
  refine V.i2l dX12_chance_7 ?_
  obtain ⟨u5, hk4, hf⟩ := bnd_some hf
  try dsimp only at hf
  refine V.inv cv_X12_210 (c_r_isPerson hs_z hk4) dX12_chance_8 (hs_z.1 0 (12, 0) rfl) (by decide) rfl rfl rfl (Nat.le_of_ble_eq_true rfl) (by decide) (by decide) (Nat.le_refl _) (Nat.le_refl _) (fun _ _ hq => ?_)
  obtain ⟨rfl, rfl⟩ := hq
  refine V.if_eq 21 dX12_chance_11 (by decide) (fun c6 => ?_) (fun c6 => ?_)
  · rw [if_pos c6] at hf
    refine V.ldc2 dX12_chance_21 kc_X12_449 ?_
    obtain rfl := Option.some.inj hf
    exact V.lret dX12_chance_24 rfl (Nat.le_refl _) (Nat.le_refl _) ⟨rfl, rfl⟩
  · rw [if_neg c6] at hf
    refine V.iload_n dX12_chance_14 rfl ?_
    obtain ⟨u9, hk8, hf⟩ := bnd_some hf
    try dsimp only at hf
    refine V.ins cs_X12_408 (c_r_isWhat hk8) dX12_chance_15 rfl rfl (Nat.le_of_ble_eq_true rfl) (by decide) (by decide) (Nat.le_refl _) (Nat.le_refl _) (fun _ _ hq => ?_)
    obtain ⟨rfl, rfl⟩ := hq
    refine V.if_ne 25 dX12_chance_18 (by decide) (fun c10 => ?_) (fun c10 => ?_)
    · rw [if_neg c10] at hf
      refine V.iload_n dX12_chance_25 rfl ?_
      refine V.i2l dX12_chance_26 ?_
      refine V.lconst (v := 0) dX12_chance_27 (by decide) ?_
      refine V.ldc2 dX12_chance_28 kc_X12_393 ?_
      refine V.ins cs_X12_145 (c_r_within) dX12_chance_31 rfl rfl (Nat.le_of_ble_eq_true rfl) (by decide) (by decide) (Nat.le_refl _) (Nat.le_refl _) (fun _ _ hq => ?_)
      obtain ⟨rfl, rfl⟩ := hq
      refine V.if_ne 41 dX12_chance_34 (by decide) (fun c11 => ?_) (fun c11 => ?_)
      · rw [if_neg c11] at hf
        refine V.aload_n dX12_chance_41 rfl ?_
        refine V.iload_n dX12_chance_42 rfl ?_
        obtain ⟨⟨I14, J15⟩, hk13, hf⟩ := bnd_some hf
        try dsimp only at hf
        refine V.inv cv_X12_453 (c_r_laysFirsts hs_z hk13) dX12_chance_43 (hs_z.1 0 (12, 0) rfl) (by decide) rfl rfl rfl (Nat.le_of_ble_eq_true rfl) (by decide) (by decide) (Nat.le_refl _) (Nat.le_refl _) (fun _ _ hq => ?_)
        obtain ⟨rfl, rfl⟩ := hq
        try dsimp only
        refine V.lconst (v := 1) dX12_chance_46 (by decide) ?_
        refine V.lstore dX12_chance_47 (by decide) (by first | exact rfl | exact trivial) ?_
        refine V.iconst (v := 0) dX12_chance_49 (by decide) ?_
        refine V.istore dX12_chance_50 (by decide) (by first | exact rfl | exact trivial) ?_
        obtain ⟨⟨m27, m28⟩, hk26, hf⟩ := bnd_some hf
        try dsimp only at hf
        refine V.lo [(0, some (.ref z)), (1, some (.int v1)), (2, some (.int v2)), (3, some (.int v3)), (4, some (.long 1)), (6, some (.int 0))] (by simp only [Subs]; repeat' first | exact trivial | constructor | rfl) (l_r_chance_52 hs_z _ F _ _ hk26 ?_)
        try dsimp only
        refine V.iload_n dX12_chance_78 rfl ?_
        refine V.if_ne 91 dX12_chance_79 (by decide) (fun c29 => ?_) (fun c29 => ?_)
        · rw [if_neg c29] at hf
          refine V.lload dX12_chance_91 rfl ?_
          refine V.aload_n dX12_chance_93 rfl ?_
          refine V.getr fl_X12_66 dX12_chance_94 (hs_z.1 0 (12, 0) rfl) (hs_z.2 0 32 17 rfl) (by decide) rfl ?_
          refine V.iload_n dX12_chance_97 rfl ?_
          obtain ⟨hb30, hf⟩ := chk_some hf
          refine V.lald dX12_chance_98 (hs_z.1 17 (22, 6) rfl) hb30 ?_
          refine V.lload dX12_chance_99 rfl ?_
          obtain ⟨u33, hk32, hf⟩ := bnd_some hf
          try dsimp only at hf
          refine V.ins cs_X12_445 (c_r_commonB_f hk32) dX12_chance_101 rfl rfl (Nat.le_of_ble_eq_true rfl) (by decide) (by decide) (Nat.le_refl _) (Nat.le_refl _) (fun _ _ hq => ?_)
          obtain ⟨rfl, rfl⟩ := hq
          obtain ⟨hz34, hf⟩ := nzl_some hf
          refine V.ldiv dX12_chance_104 hz34 ?_
          obtain rfl := Option.some.inj hf
          exact V.lret dX12_chance_105 rfl (Nat.le_refl _) (Nat.le_refl _) ⟨rfl, rfl⟩
        · rw [if_pos c29] at hf
          refine V.aload_n dX12_chance_82 rfl ?_
          refine V.getr fl_X12_66 dX12_chance_83 (hs_z.1 0 (12, 0) rfl) (hs_z.2 0 32 17 rfl) (by decide) rfl ?_
          refine V.iload_n dX12_chance_86 rfl ?_
          obtain ⟨hb35, hf⟩ := chk_some hf
          refine V.lald dX12_chance_87 (hs_z.1 17 (22, 6) rfl) hb35 ?_
          refine V.goto 93 dX12_chance_88 (by decide) ?_
          refine V.aload_n dX12_chance_93 rfl ?_
          refine V.getr fl_X12_66 dX12_chance_94 (hs_z.1 0 (12, 0) rfl) (hs_z.2 0 32 17 rfl) (by decide) rfl ?_
          refine V.iload_n dX12_chance_97 rfl ?_
          refine V.lald dX12_chance_98 (hs_z.1 17 (22, 6) rfl) hb35 ?_
          refine V.lload dX12_chance_99 rfl ?_
          obtain ⟨u38, hk37, hf⟩ := bnd_some hf
          try dsimp only at hf
          refine V.ins cs_X12_445 (c_r_commonB_f hk37) dX12_chance_101 rfl rfl (Nat.le_of_ble_eq_true rfl) (by decide) (by decide) (Nat.le_refl _) (Nat.le_refl _) (fun _ _ hq => ?_)
          obtain ⟨rfl, rfl⟩ := hq
          obtain ⟨hz39, hf⟩ := nzl_some hf
          refine V.ldiv dX12_chance_104 hz39 ?_
          obtain rfl := Option.some.inj hf
          exact V.lret dX12_chance_105 rfl (Nat.le_refl _) (Nat.le_refl _) ⟨rfl, rfl⟩
      · rw [if_pos c11] at hf
        refine V.ldc2 dX12_chance_37 kc_X12_451 ?_
        obtain rfl := Option.some.inj hf
        exact V.lret dX12_chance_40 rfl (Nat.le_refl _) (Nat.le_refl _) ⟨rfl, rfl⟩
    · rw [if_pos c10] at hf
      refine V.ldc2 dX12_chance_21 kc_X12_449 ?_
      obtain rfl := Option.some.inj hf
      exact V.lret dX12_chance_24 rfl (Nat.le_refl _) (Nat.le_refl _) ⟨rfl, rfl⟩
theorem dX12_chancellor_0 : decode cX12_chancellor 0 = .ok (.aload_n 0, 1) := by decide +kernel
theorem dX12_chancellor_1 : decode cX12_chancellor 1 = .ok (.iconst 0, 1) := by decide +kernel
theorem dX12_chancellor_2 : decode cX12_chancellor 2 = .ok (.putfield 1, 3) := by decide +kernel
theorem dX12_chancellor_5 : decode cX12_chancellor 5 = .ok (.iload_n 1, 1) := by decide +kernel
theorem dX12_chancellor_6 : decode cX12_chancellor 6 = .ok (.i2l, 1) := by decide +kernel
theorem dX12_chancellor_7 : decode cX12_chancellor 7 = .ok (.lconst 0, 1) := by decide +kernel
theorem dX12_chancellor_8 : decode cX12_chancellor 8 = .ok (.ldc2_w 393, 3) := by decide +kernel
theorem dX12_chancellor_11 : decode cX12_chancellor 11 = .ok (.invokestatic 145, 3) := by decide +kernel
theorem dX12_chancellor_14 : decode cX12_chancellor 14 = .ok (.ifCond .ne 6, 3) := by decide +kernel
theorem dX12_chancellor_17 : decode cX12_chancellor 17 = .ok (.bipush (-3), 2) := by decide +kernel
theorem dX12_chancellor_19 : decode cX12_chancellor 19 = .ok (.ireturn, 1) := by decide +kernel
theorem dX12_chancellor_20 : decode cX12_chancellor 20 = .ok (.aload_n 0, 1) := by decide +kernel
theorem dX12_chancellor_21 : decode cX12_chancellor 21 = .ok (.iload_n 1, 1) := by decide +kernel
theorem dX12_chancellor_22 : decode cX12_chancellor 22 = .ok (.invokevirtual 453, 3) := by decide +kernel
theorem dX12_chancellor_25 : decode cX12_chancellor 25 = .ok (.iconst (-1), 1) := by decide +kernel
theorem dX12_chancellor_26 : decode cX12_chancellor 26 = .ok (.istore_n 2, 1) := by decide +kernel
theorem dX12_chancellor_27 : decode cX12_chancellor 27 = .ok (.iconst 0, 1) := by decide +kernel
theorem dX12_chancellor_28 : decode cX12_chancellor 28 = .ok (.istore_n 3, 1) := by decide +kernel
theorem dX12_chancellor_29 : decode cX12_chancellor 29 = .ok (.iload_n 3, 1) := by decide +kernel
theorem dX12_chancellor_30 : decode cX12_chancellor 30 = .ok (.aload_n 0, 1) := by decide +kernel
theorem dX12_chancellor_31 : decode cX12_chancellor 31 = .ok (.getfield 13, 3) := by decide +kernel
theorem dX12_chancellor_34 : decode cX12_chancellor 34 = .ok (.iconst 1, 1) := by decide +kernel
theorem dX12_chancellor_35 : decode cX12_chancellor 35 = .ok (.iaload, 1) := by decide +kernel
theorem dX12_chancellor_36 : decode cX12_chancellor 36 = .ok (.if_icmp .ge 32, 3) := by decide +kernel
theorem dX12_chancellor_39 : decode cX12_chancellor 39 = .ok (.iload_n 2, 1) := by decide +kernel
theorem dX12_chancellor_40 : decode cX12_chancellor 40 = .ok (.iconst (-1), 1) := by decide +kernel
theorem dX12_chancellor_41 : decode cX12_chancellor 41 = .ok (.if_icmp .eq 19, 3) := by decide +kernel
theorem dX12_chancellor_44 : decode cX12_chancellor 44 = .ok (.aload_n 0, 1) := by decide +kernel
theorem dX12_chancellor_45 : decode cX12_chancellor 45 = .ok (.getfield 66, 3) := by decide +kernel
theorem dX12_chancellor_48 : decode cX12_chancellor 48 = .ok (.iload_n 3, 1) := by decide +kernel
theorem dX12_chancellor_49 : decode cX12_chancellor 49 = .ok (.laload, 1) := by decide +kernel
theorem dX12_chancellor_50 : decode cX12_chancellor 50 = .ok (.aload_n 0, 1) := by decide +kernel
theorem dX12_chancellor_51 : decode cX12_chancellor 51 = .ok (.getfield 66, 3) := by decide +kernel
theorem dX12_chancellor_54 : decode cX12_chancellor 54 = .ok (.iload_n 2, 1) := by decide +kernel
theorem dX12_chancellor_55 : decode cX12_chancellor 55 = .ok (.laload, 1) := by decide +kernel
theorem dX12_chancellor_56 : decode cX12_chancellor 56 = .ok (.lcmp, 1) := by decide +kernel
theorem dX12_chancellor_57 : decode cX12_chancellor 57 = .ok (.ifCond .le 5, 3) := by decide +kernel
theorem dX12_chancellor_60 : decode cX12_chancellor 60 = .ok (.iload_n 3, 1) := by decide +kernel
theorem dX12_chancellor_61 : decode cX12_chancellor 61 = .ok (.istore_n 2, 1) := by decide +kernel
theorem dX12_chancellor_62 : decode cX12_chancellor 62 = .ok (.iinc 3 1, 3) := by decide +kernel
theorem dX12_chancellor_65 : decode cX12_chancellor 65 = .ok (.goto (-36), 3) := by decide +kernel
theorem dX12_chancellor_68 : decode cX12_chancellor 68 = .ok (.iload_n 2, 1) := by decide +kernel
theorem dX12_chancellor_69 : decode cX12_chancellor 69 = .ok (.ireturn, 1) := by decide +kernel
def r_chancellor_29 (F : Nat) (I : Nat → Nat → Int32) (J : Nat → Nat → Int64) (z : Nat) (g1 : Int32) : Nat → Int32 → Int32 → Option (Int32 × Int32)
  | 0, _, _ => none
  | k + 1, l2, l3 => if (I (z + 1) (Int32.toNatClampNeg 1)) ≤ l3 then (some (l2, l3)) else (if l2 = (-1) then (r_chancellor_29 F I J z g1 k l3 (l3 + 1)) else (chk l3 6 (chk l2 6 (if (lg_cmp (J (z + 17) (Int32.toNatClampNeg l3)) (J (z + 17) (Int32.toNatClampNeg l2))) ≤ 0 then (r_chancellor_29 F I J z g1 k l2 (l3 + 1)) else (r_chancellor_29 F I J z g1 k l3 (l3 + 1))))))
def r_chancellor (F : Nat) (I : Nat → Nat → Int32) (J : Nat → Nat → Int64) (z : Nat) (v1 : Int32) : Option (Int32 × (Nat → Nat → Int32) × (Nat → Nat → Int64)) := let I1 := uI I z 0 0; if (r_within (Int32.toInt64 v1) 0 6) = 0 then (some ((-3), I1, J)) else ((r_laysFirsts F I1 J z v1).bind (fun q4 => let I6 := q4.1; let J7 := q4.2; (r_chancellor_29 F I6 J7 z v1 F (-1) 0).bind (fun q13 => let m15 := q13.1; let m16 := q13.2; some (m15, I6, J7))))
theorem l_r_chancellor_29 {l : Launch} {D : va_G} {E : Nat → ClassId} {B : Nat → Prop} {n F : Nat} {Q : Option Value → HT → Prop} {T : Nat → Option (Nat × Nat)} {I : Nat → Nat → Int32} {J : Nat → Nat → Int64} {P : Nat → Nat → Option Nat} {z : Nat} {g1 : Int32} (hs_z : isMd T P z)  (r : Int32 × Int32) : ∀ (k : Nat) (l2 : Int32) (l3 : Int32), r_chancellor_29 F I J z g1 k l2 l3 = some r → V l D E B yX12_chancellor cX12_chancellor 4 (some .int) 22 0 0 Q 0 0 (n, T, I, J, P) 68 [(0, some (.ref z)), (1, some (.int g1)), (2, some (.int (r.1))), (3, some (.int (r.2)))] [] → V l D E B yX12_chancellor cX12_chancellor 4 (some .int) 22 0 0 Q 0 0 (n, T, I, J, P) 29 [(0, some (.ref z)), (1, some (.int g1)), (2, some (.int l2)), (3, some (.int l3))] [] := by
  intro k
  induction k with
  | zero =>
    intro l2 l3 hf hk
    cases hf
  | succ k ih =>
    intro l2 l3 hf hk
    unfold r_chancellor_29 at hf
    refine V.iload_n dX12_chancellor_29 rfl ?_
    refine V.aload_n dX12_chancellor_30 rfl ?_
    refine V.getr fl_X12_13 dX12_chancellor_31 (hs_z.1 0 (12, 0) rfl) (hs_z.2 0 1 1 rfl) (by decide) rfl ?_
    refine V.iconst (v := 1) dX12_chancellor_34 (by decide) ?_
    refine V.iald dX12_chancellor_35 (hs_z.1 1 (20, 3891) rfl) (vp_lit (by decide)) ?_
    refine V.icmp_ge 68 dX12_chancellor_36 (by decide) (fun c8 => ?_) (fun c8 => ?_)
    · rw [if_pos c8] at hf
      obtain rfl := Option.some.inj hf
      exact V.lo [(0, some (.ref z)), (1, some (.int g1)), (2, some (.int l2)), (3, some (.int l3))] (by simp only [Subs]; repeat' first | exact trivial | constructor | rfl) hk
    · rw [if_neg c8] at hf
      refine V.iload_n dX12_chancellor_39 rfl ?_
      refine V.iconst (v := -1) dX12_chancellor_40 (by decide) ?_
      refine V.icmp_eq 60 dX12_chancellor_41 (by decide) (fun c9 => ?_) (fun c9 => ?_)
      · rw [if_pos c9] at hf
        refine V.iload_n dX12_chancellor_60 rfl ?_
        refine V.istore_n dX12_chancellor_61 rfl (by decide) (by first | exact rfl | exact trivial) ?_
        refine V.iinc (v := (l3 + 1)) dX12_chancellor_62 rfl rfl (by first | exact rfl | exact trivial) ?_
        refine V.goto 29 dX12_chancellor_65 (by decide) ?_
        exact V.lo [(0, some (.ref z)), (1, some (.int g1)), (2, some (.int l3)), (3, some (.int (l3 + 1)))] (by simp only [Subs]; repeat' first | exact trivial | constructor | rfl) (ih _ _ hf hk)
      · rw [if_neg c9] at hf
        refine V.aload_n dX12_chancellor_44 rfl ?_
        refine V.getr fl_X12_66 dX12_chancellor_45 (hs_z.1 0 (12, 0) rfl) (hs_z.2 0 32 17 rfl) (by decide) rfl ?_
        refine V.iload_n dX12_chancellor_48 rfl ?_
        obtain ⟨hb10, hf⟩ := chk_some hf
        refine V.lald dX12_chancellor_49 (hs_z.1 17 (22, 6) rfl) hb10 ?_
        refine V.aload_n dX12_chancellor_50 rfl ?_
        refine V.getr fl_X12_66 dX12_chancellor_51 (hs_z.1 0 (12, 0) rfl) (hs_z.2 0 32 17 rfl) (by decide) rfl ?_
        refine V.iload_n dX12_chancellor_54 rfl ?_
        obtain ⟨hb11, hf⟩ := chk_some hf
        refine V.lald dX12_chancellor_55 (hs_z.1 17 (22, 6) rfl) hb11 ?_
        refine V.lcmp dX12_chancellor_56 ?_
        refine V.if_le 62 dX12_chancellor_57 (by decide) (fun c12 => ?_) (fun c12 => ?_)
        · rw [if_pos c12] at hf
          refine V.iinc (v := (l3 + 1)) dX12_chancellor_62 rfl rfl (by first | exact rfl | exact trivial) ?_
          refine V.goto 29 dX12_chancellor_65 (by decide) ?_
          exact V.lo [(0, some (.ref z)), (1, some (.int g1)), (2, some (.int l2)), (3, some (.int (l3 + 1)))] (by simp only [Subs]; repeat' first | exact trivial | constructor | rfl) (ih _ _ hf hk)
        · rw [if_neg c12] at hf
          refine V.iload_n dX12_chancellor_60 rfl ?_
          refine V.istore_n dX12_chancellor_61 rfl (by decide) (by first | exact rfl | exact trivial) ?_
          refine V.iinc (v := (l3 + 1)) dX12_chancellor_62 rfl rfl (by first | exact rfl | exact trivial) ?_
          refine V.goto 29 dX12_chancellor_65 (by decide) ?_
          exact V.lo [(0, some (.ref z)), (1, some (.int g1)), (2, some (.int l3)), (3, some (.int (l3 + 1)))] (by simp only [Subs]; repeat' first | exact trivial | constructor | rfl) (ih _ _ hf hk)
theorem c_r_chancellor {l : Launch} {D : va_G} {E : Nat → ClassId} {B : Nat → Prop} {n F : Nat} {T : Nat → Option (Nat × Nat)} {I : Nat → Nat → Int32} {J : Nat → Nat → Int64} {P : Nat → Nat → Option Nat} {z : Nat} {v1 : Int32} {r : Int32 × (Nat → Nat → Int32) × (Nat → Nat → Int64)} (hs_z : isMd T P z) (hf : r_chancellor F I J z v1 = some r) : Ct l D E B yX12_chancellor cX12_chancellor 4 (some .int) 22 0 0 [.ref z, .int v1] (n, T, I, J, P) (Ret (some (.int r.1)) (n, T, r.2.1, r.2.2, P)) := by
  unfold r_chancellor at hf
  refine Ct.ofV (by decide) (Nat.le_of_ble_eq_true rfl) ?_
  refine V.aload_n dX12_chancellor_0 rfl ?_
  refine V.iconst (v := 0) dX12_chancellor_1 (by decide) ?_
  refine V.putiE fl_X12_1 dX12_chancellor_2 (hs_z.1 0 (12, 0) rfl) (by decide) (fun h => by cases h) rfl rfl rfl (Nat.le_of_ble_eq_true rfl) (fun I1 e2 => ?_)
  rw [← e2] at hf
  try dsimp only at hf
  clear e2
  refine V.iload_n dX12_chancellor_5 rfl ?_
  refine V.i2l dX12_chancellor_6 ?_
  refine V.lconst (v := 0) dX12_chancellor_7 (by decide) ?_
  refine V.ldc2 dX12_chancellor_8 kc_X12_393 ?_
  refine V.ins cs_X12_145 (c_r_within) dX12_chancellor_11 rfl rfl (Nat.le_of_ble_eq_true rfl) (by decide) (by decide) (Nat.le_refl _) (Nat.le_refl _) (fun _ _ hq => ?_)
  obtain ⟨rfl, rfl⟩ := hq
  refine V.if_ne 20 dX12_chancellor_14 (by decide) (fun c3 => ?_) (fun c3 => ?_)
  · rw [if_neg c3] at hf
    refine V.aload_n dX12_chancellor_20 rfl ?_
    refine V.iload_n dX12_chancellor_21 rfl ?_
    obtain ⟨⟨I6, J7⟩, hk5, hf⟩ := bnd_some hf
    try dsimp only at hf
    refine V.inv cv_X12_453 (c_r_laysFirsts hs_z hk5) dX12_chancellor_22 (hs_z.1 0 (12, 0) rfl) (by decide) rfl rfl rfl (Nat.le_of_ble_eq_true rfl) (by decide) (by decide) (Nat.le_refl _) (Nat.le_refl _) (fun _ _ hq => ?_)
    obtain ⟨rfl, rfl⟩ := hq
    try dsimp only
    refine V.iconst (v := -1) dX12_chancellor_25 (by decide) ?_
    refine V.istore_n dX12_chancellor_26 rfl (by decide) (by first | exact rfl | exact trivial) ?_
    refine V.iconst (v := 0) dX12_chancellor_27 (by decide) ?_
    refine V.istore_n dX12_chancellor_28 rfl (by decide) (by first | exact rfl | exact trivial) ?_
    obtain ⟨⟨m15, m16⟩, hk14, hf⟩ := bnd_some hf
    try dsimp only at hf
    refine V.lo [(0, some (.ref z)), (1, some (.int v1)), (2, some (.int (-1))), (3, some (.int 0))] (by simp only [Subs]; repeat' first | exact trivial | constructor | rfl) (l_r_chancellor_29 hs_z _ F _ _ hk14 ?_)
    try dsimp only
    refine V.iload_n dX12_chancellor_68 rfl ?_
    obtain rfl := Option.some.inj hf
    exact V.iret dX12_chancellor_69 rfl (Nat.le_refl _) (Nat.le_refl _) ⟨rfl, rfl⟩
  · rw [if_pos c3] at hf
    refine V.bipush (v := -3) dX12_chancellor_17 (by decide) ?_
    obtain rfl := Option.some.inj hf
    exact V.iret dX12_chancellor_19 rfl (Nat.le_refl _) (Nat.le_refl _) ⟨rfl, rfl⟩
