def shMd (k : Nat) : Option (Nat × Nat) := match k with
  | 0 => some (12, 0)
  | 1 => some (20, 3891)
  | 2 => some (23, 2)
  | 3 => some (20, 900)
  | 4 => some (20, 1297)
  | 5 => some (20, 900)
  | 6 => some (20, 7)
  | 7 => some (20, 33)
  | 8 => some (20, 6)
  | 9 => some (20, 6)
  | 10 => some (20, 264)
  | 11 => some (20, 8)
  | 12 => some (20, 6)
  | 13 => some (20, 6)
  | 14 => some (23, 100)
  | 15 => some (20, 441)
  | 16 => some (20, 441)
  | 17 => some (22, 6)
  | 18 => some (20, 4)
  | 19 => some (20, 4)
  | 20 => some (22, 160)
  | _ => none
def rfMd (k i : Nat) : Option Nat := match k, i with
  | 0, 1 => some 1
  | 0, 2 => some 2
  | 0, 3 => some 3
  | 0, 4 => some 4
  | 0, 15 => some 5
  | 0, 16 => some 6
  | 0, 17 => some 7
  | 0, 18 => some 8
  | 0, 19 => some 9
  | 0, 22 => some 10
  | 0, 23 => some 11
  | 0, 26 => some 12
  | 0, 27 => some 13
  | 0, 29 => some 14
  | 0, 30 => some 15
  | 0, 31 => some 16
  | 0, 32 => some 17
  | 0, 33 => some 18
  | 0, 34 => some 19
  | 0, 35 => some 20
  | _, _ => none
abbrev isMd := isOb shMd rfMd
theorem dX12_within_0 : decode cX12_within 0 = .ok (.lload_n 0, 1) := by decide +kernel
theorem dX12_within_1 : decode cX12_within 1 = .ok (.lload_n 2, 1) := by decide +kernel
theorem dX12_within_2 : decode cX12_within 2 = .ok (.lcmp, 1) := by decide +kernel
theorem dX12_within_3 : decode cX12_within 3 = .ok (.ifCond .lt 14, 3) := by decide +kernel
theorem dX12_within_6 : decode cX12_within 6 = .ok (.lload_n 0, 1) := by decide +kernel
theorem dX12_within_7 : decode cX12_within 7 = .ok (.lload 4, 2) := by decide +kernel
theorem dX12_within_9 : decode cX12_within 9 = .ok (.lcmp, 1) := by decide +kernel
theorem dX12_within_10 : decode cX12_within 10 = .ok (.ifCond .gt 7, 3) := by decide +kernel
theorem dX12_within_13 : decode cX12_within 13 = .ok (.iconst 1, 1) := by decide +kernel
theorem dX12_within_14 : decode cX12_within 14 = .ok (.goto 4, 3) := by decide +kernel
theorem dX12_within_17 : decode cX12_within 17 = .ok (.iconst 0, 1) := by decide +kernel
theorem dX12_within_18 : decode cX12_within 18 = .ok (.ireturn, 1) := by decide +kernel
def r_within (v0 : Int64) (v2 : Int64) (v4 : Int64) : Int32 := if (lg_cmp v0 v2) < 0 then (0) else (if 0 < (lg_cmp v0 v4) then (0) else (1))
theorem c_r_within {l : Launch} {D : va_G} {E : Nat → ClassId} {B : Nat → Prop} {n : Nat} {T : Nat → Option (Nat × Nat)} {I : Nat → Nat → Int32} {J : Nat → Nat → Int64} {P : Nat → Nat → Option Nat}  {v0 : Int64} {v2 : Int64} {v4 : Int64}  : Ct l D E B yX12_within cX12_within 6 (some .boolean) 0 0 0 [.long v0, .long v2, .long v4] (n, T, I, J, P) (Ret (some (.int (r_within v0 v2 v4))) (n, T, I, J, P)) := by
  obtain ⟨r, hf⟩ : ∃ r, r_within v0 v2 v4 = r := ⟨_, rfl⟩
  rw [hf]
  unfold r_within at hf
  refine Ct.ofV (by decide) (Nat.le_of_ble_eq_true rfl) ?_
  refine V.lload_n dX12_within_0 rfl ?_
  refine V.lload_n dX12_within_1 rfl ?_
  refine V.lcmp dX12_within_2 ?_
  refine V.if_lt 17 dX12_within_3 (by decide) (fun c1 => ?_) (fun c1 => ?_)
  · rw [if_pos c1] at hf
    refine V.iconst (v := 0) dX12_within_17 (by decide) ?_
    subst hf
    exact V.zret dX12_within_18 rfl rfl (Nat.le_refl _) (Nat.le_refl _) ⟨rfl, rfl⟩
  · rw [if_neg c1] at hf
    refine V.lload_n dX12_within_6 rfl ?_
    refine V.lload dX12_within_7 rfl ?_
    refine V.lcmp dX12_within_9 ?_
    refine V.if_gt 17 dX12_within_10 (by decide) (fun c2 => ?_) (fun c2 => ?_)
    · rw [if_pos c2] at hf
      refine V.iconst (v := 0) dX12_within_17 (by decide) ?_
      subst hf
      exact V.zret dX12_within_18 rfl rfl (Nat.le_refl _) (Nat.le_refl _) ⟨rfl, rfl⟩
    · rw [if_neg c2] at hf
      refine V.iconst (v := 1) dX12_within_13 (by decide) ?_
      refine V.goto 18 dX12_within_14 (by decide) ?_
      subst hf
      exact V.zret dX12_within_18 rfl rfl (Nat.le_refl _) (Nat.le_refl _) ⟨rfl, rfl⟩
theorem dX12_isSmall_0 : decode cX12_isSmall 0 = .ok (.iload_n 0, 1) := by decide +kernel
theorem dX12_isSmall_1 : decode cX12_isSmall 1 = .ok (.bipush 97, 2) := by decide +kernel
theorem dX12_isSmall_3 : decode cX12_isSmall 3 = .ok (.if_icmp .lt 13, 3) := by decide +kernel
theorem dX12_isSmall_6 : decode cX12_isSmall 6 = .ok (.iload_n 0, 1) := by decide +kernel
theorem dX12_isSmall_7 : decode cX12_isSmall 7 = .ok (.bipush 122, 2) := by decide +kernel
theorem dX12_isSmall_9 : decode cX12_isSmall 9 = .ok (.if_icmp .gt 7, 3) := by decide +kernel
theorem dX12_isSmall_12 : decode cX12_isSmall 12 = .ok (.iconst 1, 1) := by decide +kernel
theorem dX12_isSmall_13 : decode cX12_isSmall 13 = .ok (.goto 4, 3) := by decide +kernel
theorem dX12_isSmall_16 : decode cX12_isSmall 16 = .ok (.iconst 0, 1) := by decide +kernel
theorem dX12_isSmall_17 : decode cX12_isSmall 17 = .ok (.ireturn, 1) := by decide +kernel
def r_isSmall (v0 : Int32) : Int32 := if v0 < 97 then (0) else (if 122 < v0 then (0) else (1))
theorem c_r_isSmall {l : Launch} {D : va_G} {E : Nat → ClassId} {B : Nat → Prop} {n : Nat} {T : Nat → Option (Nat × Nat)} {I : Nat → Nat → Int32} {J : Nat → Nat → Int64} {P : Nat → Nat → Option Nat}  {v0 : Int32}  : Ct l D E B yX12_isSmall cX12_isSmall 1 (some .boolean) 0 0 0 [.int v0] (n, T, I, J, P) (Ret (some (.int (r_isSmall v0))) (n, T, I, J, P)) := by
  obtain ⟨r, hf⟩ : ∃ r, r_isSmall v0 = r := ⟨_, rfl⟩
  rw [hf]
  unfold r_isSmall at hf
  refine Ct.ofV (by decide) (Nat.le_of_ble_eq_true rfl) ?_
  refine V.iload_n dX12_isSmall_0 rfl ?_
  refine V.bipush (v := 97) dX12_isSmall_1 (by decide) ?_
  refine V.icmp_lt 16 dX12_isSmall_3 (by decide) (fun c1 => ?_) (fun c1 => ?_)
  · rw [if_pos c1] at hf
    refine V.iconst (v := 0) dX12_isSmall_16 (by decide) ?_
    subst hf
    exact V.zret dX12_isSmall_17 rfl rfl (Nat.le_refl _) (Nat.le_refl _) ⟨rfl, rfl⟩
  · rw [if_neg c1] at hf
    refine V.iload_n dX12_isSmall_6 rfl ?_
    refine V.bipush (v := 122) dX12_isSmall_7 (by decide) ?_
    refine V.icmp_gt 16 dX12_isSmall_9 (by decide) (fun c2 => ?_) (fun c2 => ?_)
    · rw [if_pos c2] at hf
      refine V.iconst (v := 0) dX12_isSmall_16 (by decide) ?_
      subst hf
      exact V.zret dX12_isSmall_17 rfl rfl (Nat.le_refl _) (Nat.le_refl _) ⟨rfl, rfl⟩
    · rw [if_neg c2] at hf
      refine V.iconst (v := 1) dX12_isSmall_12 (by decide) ?_
      refine V.goto 17 dX12_isSmall_13 (by decide) ?_
      subst hf
      exact V.zret dX12_isSmall_17 rfl rfl (Nat.le_refl _) (Nat.le_refl _) ⟨rfl, rfl⟩
theorem dX12_isDigit_0 : decode cX12_isDigit 0 = .ok (.iload_n 0, 1) := by decide +kernel
theorem dX12_isDigit_1 : decode cX12_isDigit 1 = .ok (.bipush 48, 2) := by decide +kernel
theorem dX12_isDigit_3 : decode cX12_isDigit 3 = .ok (.if_icmp .lt 13, 3) := by decide +kernel
theorem dX12_isDigit_6 : decode cX12_isDigit 6 = .ok (.iload_n 0, 1) := by decide +kernel
theorem dX12_isDigit_7 : decode cX12_isDigit 7 = .ok (.bipush 57, 2) := by decide +kernel
theorem dX12_isDigit_9 : decode cX12_isDigit 9 = .ok (.if_icmp .gt 7, 3) := by decide +kernel
theorem dX12_isDigit_12 : decode cX12_isDigit 12 = .ok (.iconst 1, 1) := by decide +kernel
theorem dX12_isDigit_13 : decode cX12_isDigit 13 = .ok (.goto 4, 3) := by decide +kernel
theorem dX12_isDigit_16 : decode cX12_isDigit 16 = .ok (.iconst 0, 1) := by decide +kernel
theorem dX12_isDigit_17 : decode cX12_isDigit 17 = .ok (.ireturn, 1) := by decide +kernel
def r_isDigit (v0 : Int32) : Int32 := if v0 < 48 then (0) else (if 57 < v0 then (0) else (1))
theorem c_r_isDigit {l : Launch} {D : va_G} {E : Nat → ClassId} {B : Nat → Prop} {n : Nat} {T : Nat → Option (Nat × Nat)} {I : Nat → Nat → Int32} {J : Nat → Nat → Int64} {P : Nat → Nat → Option Nat}  {v0 : Int32}  : Ct l D E B yX12_isDigit cX12_isDigit 1 (some .boolean) 0 0 0 [.int v0] (n, T, I, J, P) (Ret (some (.int (r_isDigit v0))) (n, T, I, J, P)) := by
  obtain ⟨r, hf⟩ : ∃ r, r_isDigit v0 = r := ⟨_, rfl⟩
  rw [hf]
  unfold r_isDigit at hf
  refine Ct.ofV (by decide) (Nat.le_of_ble_eq_true rfl) ?_
  refine V.iload_n dX12_isDigit_0 rfl ?_
  refine V.bipush (v := 48) dX12_isDigit_1 (by decide) ?_
  refine V.icmp_lt 16 dX12_isDigit_3 (by decide) (fun c1 => ?_) (fun c1 => ?_)
  · rw [if_pos c1] at hf
    refine V.iconst (v := 0) dX12_isDigit_16 (by decide) ?_
    subst hf
    exact V.zret dX12_isDigit_17 rfl rfl (Nat.le_refl _) (Nat.le_refl _) ⟨rfl, rfl⟩
  · rw [if_neg c1] at hf
    refine V.iload_n dX12_isDigit_6 rfl ?_
    refine V.bipush (v := 57) dX12_isDigit_7 (by decide) ?_
    refine V.icmp_gt 16 dX12_isDigit_9 (by decide) (fun c2 => ?_) (fun c2 => ?_)
    · rw [if_pos c2] at hf
      refine V.iconst (v := 0) dX12_isDigit_16 (by decide) ?_
      subst hf
      exact V.zret dX12_isDigit_17 rfl rfl (Nat.le_refl _) (Nat.le_refl _) ⟨rfl, rfl⟩
    · rw [if_neg c2] at hf
      refine V.iconst (v := 1) dX12_isDigit_12 (by decide) ?_
      refine V.goto 17 dX12_isDigit_13 (by decide) ?_
      subst hf
      exact V.zret dX12_isDigit_17 rfl rfl (Nat.le_refl _) (Nat.le_refl _) ⟨rfl, rfl⟩
theorem dX12_isIn_0 : decode cX12_isIn 0 = .ok (.lload_n 0, 1) := by decide +kernel
theorem dX12_isIn_1 : decode cX12_isIn 1 = .ok (.iload_n 2, 1) := by decide +kernel
theorem dX12_isIn_2 : decode cX12_isIn 2 = .ok (.lshr, 1) := by decide +kernel
theorem dX12_isIn_3 : decode cX12_isIn 3 = .ok (.lconst 1, 1) := by decide +kernel
theorem dX12_isIn_4 : decode cX12_isIn 4 = .ok (.land, 1) := by decide +kernel
theorem dX12_isIn_5 : decode cX12_isIn 5 = .ok (.lconst 1, 1) := by decide +kernel
theorem dX12_isIn_6 : decode cX12_isIn 6 = .ok (.lcmp, 1) := by decide +kernel
theorem dX12_isIn_7 : decode cX12_isIn 7 = .ok (.ifCond .ne 7, 3) := by decide +kernel
theorem dX12_isIn_10 : decode cX12_isIn 10 = .ok (.iconst 1, 1) := by decide +kernel
theorem dX12_isIn_11 : decode cX12_isIn 11 = .ok (.goto 4, 3) := by decide +kernel
theorem dX12_isIn_14 : decode cX12_isIn 14 = .ok (.iconst 0, 1) := by decide +kernel
theorem dX12_isIn_15 : decode cX12_isIn 15 = .ok (.ireturn, 1) := by decide +kernel
def r_isIn (v0 : Int64) (v2 : Int32) : Int32 := if (lg_cmp ((v0 >>> (Int32.toInt64 v2 &&& 63)) &&& 1) 1) = 0 then (1) else (0)
theorem c_r_isIn {l : Launch} {D : va_G} {E : Nat → ClassId} {B : Nat → Prop} {n : Nat} {T : Nat → Option (Nat × Nat)} {I : Nat → Nat → Int32} {J : Nat → Nat → Int64} {P : Nat → Nat → Option Nat}  {v0 : Int64} {v2 : Int32}  : Ct l D E B yX12_isIn cX12_isIn 3 (some .boolean) 0 0 0 [.long v0, .int v2] (n, T, I, J, P) (Ret (some (.int (r_isIn v0 v2))) (n, T, I, J, P)) := by
  obtain ⟨r, hf⟩ : ∃ r, r_isIn v0 v2 = r := ⟨_, rfl⟩
  rw [hf]
  unfold r_isIn at hf
  refine Ct.ofV (by decide) (Nat.le_of_ble_eq_true rfl) ?_
  refine V.lload_n dX12_isIn_0 rfl ?_
  refine V.iload_n dX12_isIn_1 rfl ?_
  refine V.lshr dX12_isIn_2 ?_
  refine V.lconst (v := 1) dX12_isIn_3 (by decide) ?_
  refine V.land dX12_isIn_4 ?_
  refine V.lconst (v := 1) dX12_isIn_5 (by decide) ?_
  refine V.lcmp dX12_isIn_6 ?_
  refine V.if_ne 14 dX12_isIn_7 (by decide) (fun c1 => ?_) (fun c1 => ?_)
  · rw [if_neg c1] at hf
    refine V.iconst (v := 0) dX12_isIn_14 (by decide) ?_
    subst hf
    exact V.zret dX12_isIn_15 rfl rfl (Nat.le_refl _) (Nat.le_refl _) ⟨rfl, rfl⟩
  · rw [if_pos c1] at hf
    refine V.iconst (v := 1) dX12_isIn_10 (by decide) ?_
    refine V.goto 15 dX12_isIn_11 (by decide) ?_
    subst hf
    exact V.zret dX12_isIn_15 rfl rfl (Nat.le_refl _) (Nat.le_refl _) ⟨rfl, rfl⟩
theorem dX12_bitsOf_0 : decode cX12_bitsOf 0 = .ok (.iconst 0, 1) := by decide +kernel
theorem dX12_bitsOf_1 : decode cX12_bitsOf 1 = .ok (.istore_n 1, 1) := by decide +kernel
theorem dX12_bitsOf_2 : decode cX12_bitsOf 2 = .ok (.iconst 0, 1) := by decide +kernel
theorem dX12_bitsOf_3 : decode cX12_bitsOf 3 = .ok (.istore_n 2, 1) := by decide +kernel
theorem dX12_bitsOf_4 : decode cX12_bitsOf 4 = .ok (.iload_n 2, 1) := by decide +kernel
theorem dX12_bitsOf_5 : decode cX12_bitsOf 5 = .ok (.bipush 6, 2) := by decide +kernel
theorem dX12_bitsOf_7 : decode cX12_bitsOf 7 = .ok (.if_icmp .ge 17, 3) := by decide +kernel
theorem dX12_bitsOf_10 : decode cX12_bitsOf 10 = .ok (.iload_n 1, 1) := by decide +kernel
theorem dX12_bitsOf_11 : decode cX12_bitsOf 11 = .ok (.iload_n 0, 1) := by decide +kernel
theorem dX12_bitsOf_12 : decode cX12_bitsOf 12 = .ok (.iload_n 2, 1) := by decide +kernel
theorem dX12_bitsOf_13 : decode cX12_bitsOf 13 = .ok (.ishr, 1) := by decide +kernel
theorem dX12_bitsOf_14 : decode cX12_bitsOf 14 = .ok (.iconst 1, 1) := by decide +kernel
theorem dX12_bitsOf_15 : decode cX12_bitsOf 15 = .ok (.iand, 1) := by decide +kernel
theorem dX12_bitsOf_16 : decode cX12_bitsOf 16 = .ok (.iadd, 1) := by decide +kernel
theorem dX12_bitsOf_17 : decode cX12_bitsOf 17 = .ok (.istore_n 1, 1) := by decide +kernel
theorem dX12_bitsOf_18 : decode cX12_bitsOf 18 = .ok (.iinc 2 1, 3) := by decide +kernel
theorem dX12_bitsOf_21 : decode cX12_bitsOf 21 = .ok (.goto (-17), 3) := by decide +kernel
theorem dX12_bitsOf_24 : decode cX12_bitsOf 24 = .ok (.iload_n 1, 1) := by decide +kernel
theorem dX12_bitsOf_25 : decode cX12_bitsOf 25 = .ok (.ireturn, 1) := by decide +kernel
def r_bitsOf_4 (F : Nat) (g0 : Int32) : Nat → Int32 → Int32 → Option (Int32 × Int32)
  | 0, _, _ => none
  | k + 1, l1, l2 => if 6 ≤ l2 then (some (l1, l2)) else (let x2 := (l1 + ((g0 >>> (l2 &&& 31)) &&& 1)); r_bitsOf_4 F g0 k x2 (l2 + 1))
def r_bitsOf (F : Nat) (v0 : Int32) : Option (Int32) := (r_bitsOf_4 F v0 F 0 0).bind (fun q4 => let m6 := q4.1; let m7 := q4.2; some m6)
theorem l_r_bitsOf_4 {l : Launch} {D : va_G} {E : Nat → ClassId} {B : Nat → Prop} {n F : Nat} {Q : Option Value → HT → Prop} {T : Nat → Option (Nat × Nat)} {I : Nat → Nat → Int32} {J : Nat → Nat → Int64} {P : Nat → Nat → Option Nat}  {g0 : Int32}   (r : Int32 × Int32) : ∀ (k : Nat) (l1 : Int32) (l2 : Int32), r_bitsOf_4 F g0 k l1 l2 = some r → V l D E B yX12_bitsOf cX12_bitsOf 3 (some .int) 0 0 0 Q 0 0 (n, T, I, J, P) 24 [(0, some (.int g0)), (1, some (.int (r.1))), (2, some (.int (r.2)))] [] → V l D E B yX12_bitsOf cX12_bitsOf 3 (some .int) 0 0 0 Q 0 0 (n, T, I, J, P) 4 [(0, some (.int g0)), (1, some (.int l1)), (2, some (.int l2))] [] := by
  intro k
  induction k with
  | zero =>
    intro l1 l2 hf hk
    cases hf
  | succ k ih =>
    intro l1 l2 hf hk
    unfold r_bitsOf_4 at hf
    refine V.iload_n dX12_bitsOf_4 rfl ?_
    refine V.bipush (v := 6) dX12_bitsOf_5 (by decide) ?_
    refine V.icmp_ge 24 dX12_bitsOf_7 (by decide) (fun c1 => ?_) (fun c1 => ?_)
    · rw [if_pos c1] at hf
      obtain rfl := Option.some.inj hf
      exact V.lo [(0, some (.int g0)), (1, some (.int l1)), (2, some (.int l2))] (by simp only [Subs]; repeat' first | exact trivial | constructor | rfl) hk
    · rw [if_neg c1] at hf
      refine V.iload_n dX12_bitsOf_10 rfl ?_
      refine V.iload_n dX12_bitsOf_11 rfl ?_
      refine V.iload_n dX12_bitsOf_12 rfl ?_
      refine V.ishr dX12_bitsOf_13 ?_
      refine V.iconst (v := 1) dX12_bitsOf_14 (by decide) ?_
      refine V.iand dX12_bitsOf_15 ?_
      refine V.iadd dX12_bitsOf_16 ?_
      refine V.istore_n dX12_bitsOf_17 rfl (by decide) (by first | exact rfl | exact trivial) ?_
      obtain ⟨x2, e3⟩ : ∃ zz_, zz_ = (l1 + ((g0 >>> (l2 &&& 31)) &&& 1)) := ⟨_, rfl⟩
      rw [← e3] at hf ⊢
      try dsimp only at hf
      refine V.iinc (v := (l2 + 1)) dX12_bitsOf_18 rfl rfl (by first | exact rfl | exact trivial) ?_
      refine V.goto 4 dX12_bitsOf_21 (by decide) ?_
      exact V.lo [(0, some (.int g0)), (1, some (.int x2)), (2, some (.int (l2 + 1)))] (by simp only [Subs]; repeat' first | exact trivial | constructor | rfl) (ih _ _ hf hk)
theorem c_r_bitsOf {l : Launch} {D : va_G} {E : Nat → ClassId} {B : Nat → Prop} {n F : Nat} {T : Nat → Option (Nat × Nat)} {I : Nat → Nat → Int32} {J : Nat → Nat → Int64} {P : Nat → Nat → Option Nat}  {v0 : Int32} {r : Int32}  (hf : r_bitsOf F v0 = some r) : Ct l D E B yX12_bitsOf cX12_bitsOf 3 (some .int) 0 0 0 [.int v0] (n, T, I, J, P) (Ret (some (.int r)) (n, T, I, J, P)) := by
  unfold r_bitsOf at hf
  refine Ct.ofV (by decide) (Nat.le_of_ble_eq_true rfl) ?_
  refine V.iconst (v := 0) dX12_bitsOf_0 (by decide) ?_
  refine V.istore_n dX12_bitsOf_1 rfl (by decide) (by first | exact rfl | exact trivial) ?_
  refine V.iconst (v := 0) dX12_bitsOf_2 (by decide) ?_
  refine V.istore_n dX12_bitsOf_3 rfl (by decide) (by first | exact rfl | exact trivial) ?_
  obtain ⟨⟨m6, m7⟩, hk5, hf⟩ := bnd_some hf
  try dsimp only at hf
  refine V.lo [(0, some (.int v0)), (1, some (.int 0)), (2, some (.int 0))] (by simp only [Subs]; repeat' first | exact trivial | constructor | rfl) (l_r_bitsOf_4  _ F _ _ hk5 ?_)
  try dsimp only
  refine V.iload_n dX12_bitsOf_24 rfl ?_
  obtain rfl := Option.some.inj hf
  exact V.iret dX12_bitsOf_25 rfl (Nat.le_refl _) (Nat.le_refl _) ⟨rfl, rfl⟩
theorem dX12_between_0 : decode cX12_between 0 = .ok (.iload_n 0, 1) := by decide +kernel
theorem dX12_between_1 : decode cX12_between 1 = .ok (.tableswitch 80 3003 3008 #[39, 50, 61, 80, 72, 76], 39) := by decide +kernel
theorem dX12_between_40 : decode cX12_between 40 = .ok (.iload_n 1, 1) := by decide +kernel
theorem dX12_between_41 : decode cX12_between 41 = .ok (.iload_n 2, 1) := by decide +kernel
theorem dX12_between_42 : decode cX12_between 42 = .ok (.if_icmp .ne 7, 3) := by decide +kernel
theorem dX12_between_45 : decode cX12_between 45 = .ok (.iconst 1, 1) := by decide +kernel
theorem dX12_between_46 : decode cX12_between 46 = .ok (.goto 4, 3) := by decide +kernel
theorem dX12_between_49 : decode cX12_between 49 = .ok (.iconst 0, 1) := by decide +kernel
theorem dX12_between_50 : decode cX12_between 50 = .ok (.ireturn, 1) := by decide +kernel
theorem dX12_between_51 : decode cX12_between 51 = .ok (.iload_n 1, 1) := by decide +kernel
theorem dX12_between_52 : decode cX12_between 52 = .ok (.iload_n 2, 1) := by decide +kernel
theorem dX12_between_53 : decode cX12_between 53 = .ok (.if_icmp .ge 7, 3) := by decide +kernel
theorem dX12_between_56 : decode cX12_between 56 = .ok (.iconst 1, 1) := by decide +kernel
theorem dX12_between_57 : decode cX12_between 57 = .ok (.goto 4, 3) := by decide +kernel
theorem dX12_between_60 : decode cX12_between 60 = .ok (.iconst 0, 1) := by decide +kernel
theorem dX12_between_61 : decode cX12_between 61 = .ok (.ireturn, 1) := by decide +kernel
theorem dX12_between_62 : decode cX12_between 62 = .ok (.iload_n 1, 1) := by decide +kernel
theorem dX12_between_63 : decode cX12_between 63 = .ok (.iload_n 2, 1) := by decide +kernel
theorem dX12_between_64 : decode cX12_between 64 = .ok (.if_icmp .le 7, 3) := by decide +kernel
theorem dX12_between_67 : decode cX12_between 67 = .ok (.iconst 1, 1) := by decide +kernel
theorem dX12_between_68 : decode cX12_between 68 = .ok (.goto 4, 3) := by decide +kernel
theorem dX12_between_71 : decode cX12_between 71 = .ok (.iconst 0, 1) := by decide +kernel
theorem dX12_between_72 : decode cX12_between 72 = .ok (.ireturn, 1) := by decide +kernel
theorem dX12_between_73 : decode cX12_between 73 = .ok (.iload_n 1, 1) := by decide +kernel
theorem dX12_between_74 : decode cX12_between 74 = .ok (.iload_n 2, 1) := by decide +kernel
theorem dX12_between_75 : decode cX12_between 75 = .ok (.iand, 1) := by decide +kernel
theorem dX12_between_76 : decode cX12_between 76 = .ok (.ireturn, 1) := by decide +kernel
theorem dX12_between_77 : decode cX12_between 77 = .ok (.iload_n 1, 1) := by decide +kernel
theorem dX12_between_78 : decode cX12_between 78 = .ok (.iload_n 2, 1) := by decide +kernel
theorem dX12_between_79 : decode cX12_between 79 = .ok (.ior, 1) := by decide +kernel
theorem dX12_between_80 : decode cX12_between 80 = .ok (.ireturn, 1) := by decide +kernel
theorem dX12_between_81 : decode cX12_between 81 = .ok (.iload_n 0, 1) := by decide +kernel
theorem dX12_between_82 : decode cX12_between 82 = .ok (.sipush 3000, 3) := by decide +kernel
theorem dX12_between_85 : decode cX12_between 85 = .ok (.if_icmp .ne 11, 3) := by decide +kernel
theorem dX12_between_88 : decode cX12_between 88 = .ok (.iload_n 1, 1) := by decide +kernel
theorem dX12_between_89 : decode cX12_between 89 = .ok (.i2l, 1) := by decide +kernel
theorem dX12_between_90 : decode cX12_between 90 = .ok (.iload_n 2, 1) := by decide +kernel
theorem dX12_between_91 : decode cX12_between 91 = .ok (.i2l, 1) := by decide +kernel
theorem dX12_between_92 : decode cX12_between 92 = .ok (.ladd, 1) := by decide +kernel
theorem dX12_between_93 : decode cX12_between 93 = .ok (.goto 23, 3) := by decide +kernel
theorem dX12_between_96 : decode cX12_between 96 = .ok (.iload_n 0, 1) := by decide +kernel
theorem dX12_between_97 : decode cX12_between 97 = .ok (.sipush 3001, 3) := by decide +kernel
theorem dX12_between_100 : decode cX12_between 100 = .ok (.if_icmp .ne 11, 3) := by decide +kernel
theorem dX12_between_103 : decode cX12_between 103 = .ok (.iload_n 1, 1) := by decide +kernel
theorem dX12_between_104 : decode cX12_between 104 = .ok (.i2l, 1) := by decide +kernel
theorem dX12_between_105 : decode cX12_between 105 = .ok (.iload_n 2, 1) := by decide +kernel
theorem dX12_between_106 : decode cX12_between 106 = .ok (.i2l, 1) := by decide +kernel
theorem dX12_between_107 : decode cX12_between 107 = .ok (.lsub, 1) := by decide +kernel
theorem dX12_between_108 : decode cX12_between 108 = .ok (.goto 8, 3) := by decide +kernel
theorem dX12_between_111 : decode cX12_between 111 = .ok (.iload_n 1, 1) := by decide +kernel
theorem dX12_between_112 : decode cX12_between 112 = .ok (.i2l, 1) := by decide +kernel
theorem dX12_between_113 : decode cX12_between 113 = .ok (.iload_n 2, 1) := by decide +kernel
theorem dX12_between_114 : decode cX12_between 114 = .ok (.i2l, 1) := by decide +kernel
theorem dX12_between_115 : decode cX12_between 115 = .ok (.lmul, 1) := by decide +kernel
theorem dX12_between_116 : decode cX12_between 116 = .ok (.lstore_n 3, 1) := by decide +kernel
theorem dX12_between_117 : decode cX12_between 117 = .ok (.lload_n 3, 1) := by decide +kernel
theorem dX12_between_118 : decode cX12_between 118 = .ok (.ldc2_w 223, 3) := by decide +kernel
theorem dX12_between_121 : decode cX12_between 121 = .ok (.lcmp, 1) := by decide +kernel
theorem dX12_between_122 : decode cX12_between 122 = .ok (.ifCond .le 9, 3) := by decide +kernel
theorem dX12_between_125 : decode cX12_between 125 = .ok (.ldc2_w 223, 3) := by decide +kernel
theorem dX12_between_128 : decode cX12_between 128 = .ok (.goto 18, 3) := by decide +kernel
theorem dX12_between_131 : decode cX12_between 131 = .ok (.lload_n 3, 1) := by decide +kernel
theorem dX12_between_132 : decode cX12_between 132 = .ok (.ldc2_w 225, 3) := by decide +kernel
theorem dX12_between_135 : decode cX12_between 135 = .ok (.lcmp, 1) := by decide +kernel
theorem dX12_between_136 : decode cX12_between 136 = .ok (.ifCond .ge 9, 3) := by decide +kernel
theorem dX12_between_139 : decode cX12_between 139 = .ok (.ldc2_w 225, 3) := by decide +kernel
theorem dX12_between_142 : decode cX12_between 142 = .ok (.goto 4, 3) := by decide +kernel
theorem dX12_between_145 : decode cX12_between 145 = .ok (.lload_n 3, 1) := by decide +kernel
theorem dX12_between_146 : decode cX12_between 146 = .ok (.l2i, 1) := by decide +kernel
theorem dX12_between_147 : decode cX12_between 147 = .ok (.ireturn, 1) := by decide +kernel
def r_between (v0 : Int32) (v1 : Int32) (v2 : Int32) : Int32 := if v0 = 3003 then (if v1 = v2 then (1) else (0)) else (if v0 = 3004 then (if v2 ≤ v1 then (0) else (1)) else (if v0 = 3005 then (if v1 ≤ v2 then (0) else (1)) else (if v0 = 3007 then ((v1 &&& v2)) else (if v0 = 3008 then ((v1 ||| v2)) else (if v0 = 3000 then (let x21 := ((Int32.toInt64 v1) + (Int32.toInt64 v2)); if (lg_cmp x21 1000000) ≤ 0 then (if 0 ≤ (lg_cmp x21 (-1000000)) then ((Int64.toInt32 x21)) else ((Int64.toInt32 (-1000000)))) else ((Int64.toInt32 1000000))) else (if v0 = 3001 then (let x17 := ((Int32.toInt64 v1) - (Int32.toInt64 v2)); if (lg_cmp x17 1000000) ≤ 0 then (if 0 ≤ (lg_cmp x17 (-1000000)) then ((Int64.toInt32 x17)) else ((Int64.toInt32 (-1000000)))) else ((Int64.toInt32 1000000))) else (let x13 := ((Int32.toInt64 v1) * (Int32.toInt64 v2)); if (lg_cmp x13 1000000) ≤ 0 then (if 0 ≤ (lg_cmp x13 (-1000000)) then ((Int64.toInt32 x13)) else ((Int64.toInt32 (-1000000)))) else ((Int64.toInt32 1000000)))))))))
theorem c_r_between {l : Launch} {D : va_G} {E : Nat → ClassId} {B : Nat → Prop} {n : Nat} {T : Nat → Option (Nat × Nat)} {I : Nat → Nat → Int32} {J : Nat → Nat → Int64} {P : Nat → Nat → Option Nat}  {v0 : Int32} {v1 : Int32} {v2 : Int32}  : Ct l D E B yX12_between cX12_between 5 (some .int) 0 0 0 [.int v0, .int v1, .int v2] (n, T, I, J, P) (Ret (some (.int (r_between v0 v1 v2))) (n, T, I, J, P)) := by
  obtain ⟨r, hf⟩ : ∃ r, r_between v0 v1 v2 = r := ⟨_, rfl⟩
  rw [hf]
  unfold r_between at hf
  refine Ct.ofV (by decide) (Nat.le_of_ble_eq_true rfl) ?_
  refine V.iload_n dX12_between_0 rfl ?_
  by_cases c1 : v0 = 3003
  · rw [if_pos c1] at hf
    refine V.tabIn (off := 39) 40 dX12_between_1 (by rw [c1]; decide) (by rw [c1]; decide) (by rw [c1]; rfl) (by decide) ?_
    refine V.iload_n dX12_between_40 rfl ?_
    refine V.iload_n dX12_between_41 rfl ?_
    refine V.icmp_ne 49 dX12_between_42 (by decide) (fun c2 => ?_) (fun c2 => ?_)
    · rw [if_neg c2] at hf
      refine V.iconst (v := 0) dX12_between_49 (by decide) ?_
      subst hf
      exact V.iret dX12_between_50 rfl (Nat.le_refl _) (Nat.le_refl _) ⟨rfl, rfl⟩
    · rw [if_pos c2] at hf
      refine V.iconst (v := 1) dX12_between_45 (by decide) ?_
      refine V.goto 50 dX12_between_46 (by decide) ?_
      subst hf
      exact V.iret dX12_between_50 rfl (Nat.le_refl _) (Nat.le_refl _) ⟨rfl, rfl⟩
  rw [if_neg c1] at hf
  by_cases c3 : v0 = 3004
  · rw [if_pos c3] at hf
    refine V.tabIn (off := 50) 51 dX12_between_1 (by rw [c3]; decide) (by rw [c3]; decide) (by rw [c3]; rfl) (by decide) ?_
    refine V.iload_n dX12_between_51 rfl ?_
    refine V.iload_n dX12_between_52 rfl ?_
    refine V.icmp_ge 60 dX12_between_53 (by decide) (fun c4 => ?_) (fun c4 => ?_)
    · rw [if_pos c4] at hf
      refine V.iconst (v := 0) dX12_between_60 (by decide) ?_
      subst hf
      exact V.iret dX12_between_61 rfl (Nat.le_refl _) (Nat.le_refl _) ⟨rfl, rfl⟩
    · rw [if_neg c4] at hf
      refine V.iconst (v := 1) dX12_between_56 (by decide) ?_
      refine V.goto 61 dX12_between_57 (by decide) ?_
      subst hf
      exact V.iret dX12_between_61 rfl (Nat.le_refl _) (Nat.le_refl _) ⟨rfl, rfl⟩
  rw [if_neg c3] at hf
  by_cases c5 : v0 = 3005
  · rw [if_pos c5] at hf
    refine V.tabIn (off := 61) 62 dX12_between_1 (by rw [c5]; decide) (by rw [c5]; decide) (by rw [c5]; rfl) (by decide) ?_
    refine V.iload_n dX12_between_62 rfl ?_
    refine V.iload_n dX12_between_63 rfl ?_
    refine V.icmp_le 71 dX12_between_64 (by decide) (fun c6 => ?_) (fun c6 => ?_)
    · rw [if_pos c6] at hf
      refine V.iconst (v := 0) dX12_between_71 (by decide) ?_
      subst hf
      exact V.iret dX12_between_72 rfl (Nat.le_refl _) (Nat.le_refl _) ⟨rfl, rfl⟩
    · rw [if_neg c6] at hf
      refine V.iconst (v := 1) dX12_between_67 (by decide) ?_
      refine V.goto 72 dX12_between_68 (by decide) ?_
      subst hf
      exact V.iret dX12_between_72 rfl (Nat.le_refl _) (Nat.le_refl _) ⟨rfl, rfl⟩
  rw [if_neg c5] at hf
  by_cases c7 : v0 = 3007
  · rw [if_pos c7] at hf
    refine V.tabIn (off := 72) 73 dX12_between_1 (by rw [c7]; decide) (by rw [c7]; decide) (by rw [c7]; rfl) (by decide) ?_
    refine V.iload_n dX12_between_73 rfl ?_
    refine V.iload_n dX12_between_74 rfl ?_
    refine V.iand dX12_between_75 ?_
    subst hf
    exact V.iret dX12_between_76 rfl (Nat.le_refl _) (Nat.le_refl _) ⟨rfl, rfl⟩
  rw [if_neg c7] at hf
  by_cases c8 : v0 = 3008
  · rw [if_pos c8] at hf
    refine V.tabIn (off := 76) 77 dX12_between_1 (by rw [c8]; decide) (by rw [c8]; decide) (by rw [c8]; rfl) (by decide) ?_
    refine V.iload_n dX12_between_77 rfl ?_
    refine V.iload_n dX12_between_78 rfl ?_
    refine V.ior dX12_between_79 ?_
    subst hf
    exact V.iret dX12_between_80 rfl (Nat.le_refl _) (Nat.le_refl _) ⟨rfl, rfl⟩
  rw [if_neg c8] at hf
  have hw9 : Int32.toInt v0 < 3003 ∨ 3008 < Int32.toInt v0 ∨ (#[39, 50, 61, 80, 72, 76] : Array Int)[(Int32.toInt v0 - 3003).toNat]? = some (80) := by
    by_cases c10 : v0 = 3006
    · exact Or.inr (Or.inr (by rw [c10]; rfl))
    have c1_ := sw_ne c1 (j := 3003) (by decide)
    have c3_ := sw_ne c3 (j := 3004) (by decide)
    have c5_ := sw_ne c5 (j := 3005) (by decide)
    have c7_ := sw_ne c7 (j := 3007) (by decide)
    have c8_ := sw_ne c8 (j := 3008) (by decide)
    have c10_ := sw_ne c10 (j := 3006) (by decide)
    omega
  refine V.tabDef 81 dX12_between_1 hw9 (by decide) ?_
  refine V.iload_n dX12_between_81 rfl ?_
  refine V.sipush (v := 3000) dX12_between_82 (by decide) ?_
  refine V.icmp_ne 96 dX12_between_85 (by decide) (fun c11 => ?_) (fun c11 => ?_)
  · rw [if_neg c11] at hf
    refine V.iload_n dX12_between_96 rfl ?_
    refine V.sipush (v := 3001) dX12_between_97 (by decide) ?_
    refine V.icmp_ne 111 dX12_between_100 (by decide) (fun c12 => ?_) (fun c12 => ?_)
    · rw [if_neg c12] at hf
      refine V.iload_n dX12_between_111 rfl ?_
      refine V.i2l dX12_between_112 ?_
      refine V.iload_n dX12_between_113 rfl ?_
      refine V.i2l dX12_between_114 ?_
      refine V.lmul dX12_between_115 ?_
      refine V.lstore_n dX12_between_116 rfl (by decide) (by first | exact rfl | exact trivial) ?_
      obtain ⟨x13, e14⟩ : ∃ zz_, zz_ = ((Int32.toInt64 v1) * (Int32.toInt64 v2)) := ⟨_, rfl⟩
      rw [← e14] at hf ⊢
      try dsimp only at hf
      refine V.lload_n dX12_between_117 rfl ?_
      refine V.ldc2 dX12_between_118 kc_X12_223 ?_
      refine V.lcmp dX12_between_121 ?_
      refine V.if_le 131 dX12_between_122 (by decide) (fun c15 => ?_) (fun c15 => ?_)
      · rw [if_pos c15] at hf
        refine V.lload_n dX12_between_131 rfl ?_
        refine V.ldc2 dX12_between_132 kc_X12_225 ?_
        refine V.lcmp dX12_between_135 ?_
        refine V.if_ge 145 dX12_between_136 (by decide) (fun c16 => ?_) (fun c16 => ?_)
        · rw [if_pos c16] at hf
          refine V.lload_n dX12_between_145 rfl ?_
          refine V.l2i dX12_between_146 ?_
          subst hf
          exact V.iret dX12_between_147 rfl (Nat.le_refl _) (Nat.le_refl _) ⟨rfl, rfl⟩
        · rw [if_neg c16] at hf
          refine V.ldc2 dX12_between_139 kc_X12_225 ?_
          refine V.goto 146 dX12_between_142 (by decide) ?_
          refine V.l2i dX12_between_146 ?_
          subst hf
          exact V.iret dX12_between_147 rfl (Nat.le_refl _) (Nat.le_refl _) ⟨rfl, rfl⟩
      · rw [if_neg c15] at hf
        refine V.ldc2 dX12_between_125 kc_X12_223 ?_
        refine V.goto 146 dX12_between_128 (by decide) ?_
        refine V.l2i dX12_between_146 ?_
        subst hf
        exact V.iret dX12_between_147 rfl (Nat.le_refl _) (Nat.le_refl _) ⟨rfl, rfl⟩
    · rw [if_pos c12] at hf
      refine V.iload_n dX12_between_103 rfl ?_
      refine V.i2l dX12_between_104 ?_
      refine V.iload_n dX12_between_105 rfl ?_
      refine V.i2l dX12_between_106 ?_
      refine V.lsub dX12_between_107 ?_
      refine V.goto 116 dX12_between_108 (by decide) ?_
      refine V.lstore_n dX12_between_116 rfl (by decide) (by first | exact rfl | exact trivial) ?_
      obtain ⟨x17, e18⟩ : ∃ zz_, zz_ = ((Int32.toInt64 v1) - (Int32.toInt64 v2)) := ⟨_, rfl⟩
      rw [← e18] at hf ⊢
      try dsimp only at hf
      refine V.lload_n dX12_between_117 rfl ?_
      refine V.ldc2 dX12_between_118 kc_X12_223 ?_
      refine V.lcmp dX12_between_121 ?_
      refine V.if_le 131 dX12_between_122 (by decide) (fun c19 => ?_) (fun c19 => ?_)
      · rw [if_pos c19] at hf
        refine V.lload_n dX12_between_131 rfl ?_
        refine V.ldc2 dX12_between_132 kc_X12_225 ?_
        refine V.lcmp dX12_between_135 ?_
        refine V.if_ge 145 dX12_between_136 (by decide) (fun c20 => ?_) (fun c20 => ?_)
        · rw [if_pos c20] at hf
          refine V.lload_n dX12_between_145 rfl ?_
          refine V.l2i dX12_between_146 ?_
          subst hf
          exact V.iret dX12_between_147 rfl (Nat.le_refl _) (Nat.le_refl _) ⟨rfl, rfl⟩
        · rw [if_neg c20] at hf
          refine V.ldc2 dX12_between_139 kc_X12_225 ?_
          refine V.goto 146 dX12_between_142 (by decide) ?_
          refine V.l2i dX12_between_146 ?_
          subst hf
          exact V.iret dX12_between_147 rfl (Nat.le_refl _) (Nat.le_refl _) ⟨rfl, rfl⟩
      · rw [if_neg c19] at hf
        refine V.ldc2 dX12_between_125 kc_X12_223 ?_
        refine V.goto 146 dX12_between_128 (by decide) ?_
        refine V.l2i dX12_between_146 ?_
        subst hf
        exact V.iret dX12_between_147 rfl (Nat.le_refl _) (Nat.le_refl _) ⟨rfl, rfl⟩
  · rw [if_pos c11] at hf
    refine V.iload_n dX12_between_88 rfl ?_
    refine V.i2l dX12_between_89 ?_
    refine V.iload_n dX12_between_90 rfl ?_
    refine V.i2l dX12_between_91 ?_
    refine V.ladd dX12_between_92 ?_
    refine V.goto 116 dX12_between_93 (by decide) ?_
    refine V.lstore_n dX12_between_116 rfl (by decide) (by first | exact rfl | exact trivial) ?_
    obtain ⟨x21, e22⟩ : ∃ zz_, zz_ = ((Int32.toInt64 v1) + (Int32.toInt64 v2)) := ⟨_, rfl⟩
    rw [← e22] at hf ⊢
    try dsimp only at hf
    refine V.lload_n dX12_between_117 rfl ?_
    refine V.ldc2 dX12_between_118 kc_X12_223 ?_
    refine V.lcmp dX12_between_121 ?_
    refine V.if_le 131 dX12_between_122 (by decide) (fun c23 => ?_) (fun c23 => ?_)
    · rw [if_pos c23] at hf
      refine V.lload_n dX12_between_131 rfl ?_
      refine V.ldc2 dX12_between_132 kc_X12_225 ?_
      refine V.lcmp dX12_between_135 ?_
      refine V.if_ge 145 dX12_between_136 (by decide) (fun c24 => ?_) (fun c24 => ?_)
      · rw [if_pos c24] at hf
        refine V.lload_n dX12_between_145 rfl ?_
        refine V.l2i dX12_between_146 ?_
        subst hf
        exact V.iret dX12_between_147 rfl (Nat.le_refl _) (Nat.le_refl _) ⟨rfl, rfl⟩
      · rw [if_neg c24] at hf
        refine V.ldc2 dX12_between_139 kc_X12_225 ?_
        refine V.goto 146 dX12_between_142 (by decide) ?_
        refine V.l2i dX12_between_146 ?_
        subst hf
        exact V.iret dX12_between_147 rfl (Nat.le_refl _) (Nat.le_refl _) ⟨rfl, rfl⟩
    · rw [if_neg c23] at hf
      refine V.ldc2 dX12_between_125 kc_X12_223 ?_
      refine V.goto 146 dX12_between_128 (by decide) ?_
      refine V.l2i dX12_between_146 ?_
      subst hf
      exact V.iret dX12_between_147 rfl (Nat.le_refl _) (Nat.le_refl _) ⟨rfl, rfl⟩
theorem dX12_cut_0 : decode cX12_cut 0 = .ok (.iload_n 2, 1) := by decide +kernel
theorem dX12_cut_1 : decode cX12_cut 1 = .ok (.ifCond .ne 10, 3) := by decide +kernel
theorem dX12_cut_4 : decode cX12_cut 4 = .ok (.lload_n 0, 1) := by decide +kernel
theorem dX12_cut_5 : decode cX12_cut 5 = .ok (.l2i, 1) := by decide +kernel
theorem dX12_cut_6 : decode cX12_cut 6 = .ok (.i2b, 1) := by decide +kernel
theorem dX12_cut_7 : decode cX12_cut 7 = .ok (.i2l, 1) := by decide +kernel
theorem dX12_cut_8 : decode cX12_cut 8 = .ok (.goto 27, 3) := by decide +kernel
theorem dX12_cut_11 : decode cX12_cut 11 = .ok (.iload_n 2, 1) := by decide +kernel
theorem dX12_cut_12 : decode cX12_cut 12 = .ok (.iconst 1, 1) := by decide +kernel
theorem dX12_cut_13 : decode cX12_cut 13 = .ok (.if_icmp .ne 10, 3) := by decide +kernel
theorem dX12_cut_16 : decode cX12_cut 16 = .ok (.lload_n 0, 1) := by decide +kernel
theorem dX12_cut_17 : decode cX12_cut 17 = .ok (.l2i, 1) := by decide +kernel
theorem dX12_cut_18 : decode cX12_cut 18 = .ok (.i2s, 1) := by decide +kernel
theorem dX12_cut_19 : decode cX12_cut 19 = .ok (.i2l, 1) := by decide +kernel
theorem dX12_cut_20 : decode cX12_cut 20 = .ok (.goto 15, 3) := by decide +kernel
theorem dX12_cut_23 : decode cX12_cut 23 = .ok (.iload_n 2, 1) := by decide +kernel
theorem dX12_cut_24 : decode cX12_cut 24 = .ok (.iconst 2, 1) := by decide +kernel
theorem dX12_cut_25 : decode cX12_cut 25 = .ok (.if_icmp .ne 9, 3) := by decide +kernel
theorem dX12_cut_28 : decode cX12_cut 28 = .ok (.lload_n 0, 1) := by decide +kernel
theorem dX12_cut_29 : decode cX12_cut 29 = .ok (.l2i, 1) := by decide +kernel
theorem dX12_cut_30 : decode cX12_cut 30 = .ok (.i2l, 1) := by decide +kernel
theorem dX12_cut_31 : decode cX12_cut 31 = .ok (.goto 4, 3) := by decide +kernel
theorem dX12_cut_34 : decode cX12_cut 34 = .ok (.lload_n 0, 1) := by decide +kernel
theorem dX12_cut_35 : decode cX12_cut 35 = .ok (.lreturn, 1) := by decide +kernel
def r_cut (v0 : Int64) (v2 : Int32) : Int64 := if v2 = 0 then ((Int32.toInt64 ((Int32.toInt8 (Int64.toInt32 v0)).toInt32))) else (if v2 = 1 then ((Int32.toInt64 ((Int32.toInt16 (Int64.toInt32 v0)).toInt32))) else (if v2 = 2 then ((Int32.toInt64 (Int64.toInt32 v0))) else (v0)))
theorem c_r_cut {l : Launch} {D : va_G} {E : Nat → ClassId} {B : Nat → Prop} {n : Nat} {T : Nat → Option (Nat × Nat)} {I : Nat → Nat → Int32} {J : Nat → Nat → Int64} {P : Nat → Nat → Option Nat}  {v0 : Int64} {v2 : Int32}  : Ct l D E B yX12_cut cX12_cut 3 (some .long) 0 0 0 [.long v0, .int v2] (n, T, I, J, P) (Ret (some (.long (r_cut v0 v2))) (n, T, I, J, P)) := by
  obtain ⟨r, hf⟩ : ∃ r, r_cut v0 v2 = r := ⟨_, rfl⟩
  rw [hf]
  unfold r_cut at hf
  refine Ct.ofV (by decide) (Nat.le_of_ble_eq_true rfl) ?_
  refine V.iload_n dX12_cut_0 rfl ?_
  refine V.if_ne 11 dX12_cut_1 (by decide) (fun c1 => ?_) (fun c1 => ?_)
  · rw [if_neg c1] at hf
    refine V.iload_n dX12_cut_11 rfl ?_
    refine V.iconst (v := 1) dX12_cut_12 (by decide) ?_
    refine V.icmp_ne 23 dX12_cut_13 (by decide) (fun c2 => ?_) (fun c2 => ?_)
    · rw [if_neg c2] at hf
      refine V.iload_n dX12_cut_23 rfl ?_
      refine V.iconst (v := 2) dX12_cut_24 (by decide) ?_
      refine V.icmp_ne 34 dX12_cut_25 (by decide) (fun c3 => ?_) (fun c3 => ?_)
      · rw [if_neg c3] at hf
        refine V.lload_n dX12_cut_34 rfl ?_
        subst hf
        exact V.lret dX12_cut_35 rfl (Nat.le_refl _) (Nat.le_refl _) ⟨rfl, rfl⟩
      · rw [if_pos c3] at hf
        refine V.lload_n dX12_cut_28 rfl ?_
        refine V.l2i dX12_cut_29 ?_
        refine V.i2l dX12_cut_30 ?_
        refine V.goto 35 dX12_cut_31 (by decide) ?_
        subst hf
        exact V.lret dX12_cut_35 rfl (Nat.le_refl _) (Nat.le_refl _) ⟨rfl, rfl⟩
    · rw [if_pos c2] at hf
      refine V.lload_n dX12_cut_16 rfl ?_
      refine V.l2i dX12_cut_17 ?_
      refine V.i2s dX12_cut_18 ?_
      refine V.i2l dX12_cut_19 ?_
      refine V.goto 35 dX12_cut_20 (by decide) ?_
      subst hf
      exact V.lret dX12_cut_35 rfl (Nat.le_refl _) (Nat.le_refl _) ⟨rfl, rfl⟩
  · rw [if_pos c1] at hf
    refine V.lload_n dX12_cut_4 rfl ?_
    refine V.l2i dX12_cut_5 ?_
    refine V.i2b dX12_cut_6 ?_
    refine V.i2l dX12_cut_7 ?_
    refine V.goto 35 dX12_cut_8 (by decide) ?_
    subst hf
    exact V.lret dX12_cut_35 rfl (Nat.le_refl _) (Nat.le_refl _) ⟨rfl, rfl⟩
theorem dX12_see_0 : decode cX12_see 0 = .ok (.iload_n 1, 1) := by decide +kernel
theorem dX12_see_1 : decode cX12_see 1 = .ok (.aload_n 0, 1) := by decide +kernel
theorem dX12_see_2 : decode cX12_see 2 = .ok (.getfield 86, 3) := by decide +kernel
theorem dX12_see_5 : decode cX12_see 5 = .ok (.if_icmp .ge 12, 3) := by decide +kernel
theorem dX12_see_8 : decode cX12_see 8 = .ok (.aload_n 0, 1) := by decide +kernel
theorem dX12_see_9 : decode cX12_see 9 = .ok (.getfield 21, 3) := by decide +kernel
theorem dX12_see_12 : decode cX12_see 12 = .ok (.iload_n 1, 1) := by decide +kernel
theorem dX12_see_13 : decode cX12_see 13 = .ok (.iaload, 1) := by decide +kernel
theorem dX12_see_14 : decode cX12_see 14 = .ok (.goto 4, 3) := by decide +kernel
theorem dX12_see_17 : decode cX12_see 17 = .ok (.iconst (-1), 1) := by decide +kernel
theorem dX12_see_18 : decode cX12_see 18 = .ok (.ireturn, 1) := by decide +kernel
def r_see (I : Nat → Nat → Int32) (z : Nat) (v1 : Int32) : Option (Int32) := if (I z 8) ≤ v1 then (some (-1)) else (chk v1 900 (some (I (z + 3) (Int32.toNatClampNeg v1))))
theorem c_r_see {l : Launch} {D : va_G} {E : Nat → ClassId} {B : Nat → Prop} {n : Nat} {T : Nat → Option (Nat × Nat)} {I : Nat → Nat → Int32} {J : Nat → Nat → Int64} {P : Nat → Nat → Option Nat} {z : Nat} {v1 : Int32} {r : Int32} (hs_z : isMd T P z) (hf : r_see I z v1 = some r) : Ct l D E B yX12_see cX12_see 2 (some .int) 0 0 0 [.ref z, .int v1] (n, T, I, J, P) (Ret (some (.int r)) (n, T, I, J, P)) := by
  unfold r_see at hf
  refine Ct.ofV (by decide) (Nat.le_of_ble_eq_true rfl) ?_
  refine V.iload_n dX12_see_0 rfl ?_
  refine V.aload_n dX12_see_1 rfl ?_
  refine V.getf fl_X12_86 dX12_see_2 (hs_z.1 0 (12, 0) rfl) (by decide) rfl ?_
  refine V.icmp_ge 17 dX12_see_5 (by decide) (fun c1 => ?_) (fun c1 => ?_)
  · rw [if_pos c1] at hf
    refine V.iconst (v := -1) dX12_see_17 (by decide) ?_
    obtain rfl := Option.some.inj hf
    exact V.iret dX12_see_18 rfl (Nat.le_refl _) (Nat.le_refl _) ⟨rfl, rfl⟩
  · rw [if_neg c1] at hf
    refine V.aload_n dX12_see_8 rfl ?_
    refine V.getr fl_X12_21 dX12_see_9 (hs_z.1 0 (12, 0) rfl) (hs_z.2 0 3 3 rfl) (by decide) rfl ?_
    refine V.iload_n dX12_see_12 rfl ?_
    obtain ⟨hb2, hf⟩ := chk_some hf
    refine V.iald dX12_see_13 (hs_z.1 3 (20, 900) rfl) hb2 ?_
    refine V.goto 18 dX12_see_14 (by decide) ?_
    obtain rfl := Option.some.inj hf
    exact V.iret dX12_see_18 rfl (Nat.le_refl _) (Nat.le_refl _) ⟨rfl, rfl⟩
theorem dX12_fails_0 : decode cX12_fails 0 = .ok (.aload_n 0, 1) := by decide +kernel
theorem dX12_fails_1 : decode cX12_fails 1 = .ok (.getfield 129, 3) := by decide +kernel
theorem dX12_fails_4 : decode cX12_fails 4 = .ok (.ifCond .eq 4, 3) := by decide +kernel
theorem dX12_fails_7 : decode cX12_fails 7 = .ok (.return_, 1) := by decide +kernel
theorem dX12_fails_8 : decode cX12_fails 8 = .ok (.aload_n 0, 1) := by decide +kernel
theorem dX12_fails_9 : decode cX12_fails 9 = .ok (.aload_n 0, 1) := by decide +kernel
theorem dX12_fails_10 : decode cX12_fails 10 = .ok (.getfield 111, 3) := by decide +kernel
theorem dX12_fails_13 : decode cX12_fails 13 = .ok (.bipush 25, 2) := by decide +kernel
theorem dX12_fails_15 : decode cX12_fails 15 = .ok (.if_icmp .ne 7, 3) := by decide +kernel
theorem dX12_fails_18 : decode cX12_fails 18 = .ok (.iconst 1, 1) := by decide +kernel
theorem dX12_fails_19 : decode cX12_fails 19 = .ok (.goto 4, 3) := by decide +kernel
theorem dX12_fails_22 : decode cX12_fails 22 = .ok (.iload_n 1, 1) := by decide +kernel
theorem dX12_fails_23 : decode cX12_fails 23 = .ok (.putfield 129, 3) := by decide +kernel
theorem dX12_fails_26 : decode cX12_fails 26 = .ok (.aload_n 0, 1) := by decide +kernel
theorem dX12_fails_27 : decode cX12_fails 27 = .ok (.aload_n 0, 1) := by decide +kernel
theorem dX12_fails_28 : decode cX12_fails 28 = .ok (.getfield 101, 3) := by decide +kernel
theorem dX12_fails_31 : decode cX12_fails 31 = .ok (.putfield 132, 3) := by decide +kernel
theorem dX12_fails_34 : decode cX12_fails 34 = .ok (.return_, 1) := by decide +kernel
def r_fails (I : Nat → Nat → Int32) (z : Nat) (v1 : Int32) : Option ((Nat → Nat → Int32)) := if (I z 11) = 0 then (if (I z 9) = 25 then (let I7 := uI I z 11 1; let I9 := uI I7 z 12 (I7 z 6); some I9) else (let I3 := uI I z 11 v1; let I5 := uI I3 z 12 (I3 z 6); some I5)) else (some I)
theorem c_r_fails {l : Launch} {D : va_G} {E : Nat → ClassId} {B : Nat → Prop} {n : Nat} {T : Nat → Option (Nat × Nat)} {I : Nat → Nat → Int32} {J : Nat → Nat → Int64} {P : Nat → Nat → Option Nat} {z : Nat} {v1 : Int32} {r : (Nat → Nat → Int32)} (hs_z : isMd T P z) (hf : r_fails I z v1 = some r) : Ct l D E B yX12_fails cX12_fails 2 none 0 0 0 [.ref z, .int v1] (n, T, I, J, P) (Ret (none) (n, T, r, J, P)) := by
  unfold r_fails at hf
  refine Ct.ofV (by decide) (Nat.le_of_ble_eq_true rfl) ?_
  refine V.aload_n dX12_fails_0 rfl ?_
  refine V.getf fl_X12_129 dX12_fails_1 (hs_z.1 0 (12, 0) rfl) (by decide) rfl ?_
  refine V.if_eq 8 dX12_fails_4 (by decide) (fun c1 => ?_) (fun c1 => ?_)
  · rw [if_pos c1] at hf
    refine V.aload_n dX12_fails_8 rfl ?_
    refine V.aload_n dX12_fails_9 rfl ?_
    refine V.getf fl_X12_111 dX12_fails_10 (hs_z.1 0 (12, 0) rfl) (by decide) rfl ?_
    refine V.bipush (v := 25) dX12_fails_13 (by decide) ?_
    refine V.icmp_ne 22 dX12_fails_15 (by decide) (fun c2 => ?_) (fun c2 => ?_)
    · rw [if_neg c2] at hf
      refine V.iload_n dX12_fails_22 rfl ?_
      refine V.putiE fl_X12_129 dX12_fails_23 (hs_z.1 0 (12, 0) rfl) (by decide) (fun h => by cases h) rfl rfl rfl (Nat.le_of_ble_eq_true rfl) (fun I3 e4 => ?_)
      rw [← e4] at hf
      try dsimp only at hf
      clear e4
      refine V.aload_n dX12_fails_26 rfl ?_
      refine V.aload_n dX12_fails_27 rfl ?_
      refine V.getf fl_X12_101 dX12_fails_28 (hs_z.1 0 (12, 0) rfl) (by decide) rfl ?_
      refine V.putiE fl_X12_132 dX12_fails_31 (hs_z.1 0 (12, 0) rfl) (by decide) (fun h => by cases h) rfl rfl rfl (Nat.le_of_ble_eq_true rfl) (fun I5 e6 => ?_)
      rw [← e6] at hf
      try dsimp only at hf
      clear e6
      obtain rfl := Option.some.inj hf
      exact V.vret dX12_fails_34 rfl (Nat.le_refl _) (Nat.le_refl _) ⟨rfl, rfl⟩
    · rw [if_pos c2] at hf
      refine V.iconst (v := 1) dX12_fails_18 (by decide) ?_
      refine V.goto 23 dX12_fails_19 (by decide) ?_
      refine V.putiE fl_X12_129 dX12_fails_23 (hs_z.1 0 (12, 0) rfl) (by decide) (fun h => by cases h) rfl rfl rfl (Nat.le_of_ble_eq_true rfl) (fun I7 e8 => ?_)
      rw [← e8] at hf
      try dsimp only at hf
      clear e8
      refine V.aload_n dX12_fails_26 rfl ?_
      refine V.aload_n dX12_fails_27 rfl ?_
      refine V.getf fl_X12_101 dX12_fails_28 (hs_z.1 0 (12, 0) rfl) (by decide) rfl ?_
      refine V.putiE fl_X12_132 dX12_fails_31 (hs_z.1 0 (12, 0) rfl) (by decide) (fun h => by cases h) rfl rfl rfl (Nat.le_of_ble_eq_true rfl) (fun I9 e10 => ?_)
      rw [← e10] at hf
      try dsimp only at hf
      clear e10
      obtain rfl := Option.some.inj hf
      exact V.vret dX12_fails_34 rfl (Nat.le_refl _) (Nat.le_refl _) ⟨rfl, rfl⟩
  · rw [if_neg c1] at hf
    obtain rfl := Option.some.inj hf
    exact V.vret dX12_fails_7 rfl (Nat.le_refl _) (Nat.le_refl _) ⟨rfl, rfl⟩
theorem dX12_is_0 : decode cX12_is 0 = .ok (.aload_n 0, 1) := by decide +kernel
theorem dX12_is_1 : decode cX12_is 1 = .ok (.getfield 129, 3) := by decide +kernel
theorem dX12_is_4 : decode cX12_is 4 = .ok (.ifCond .ne 15, 3) := by decide +kernel
theorem dX12_is_7 : decode cX12_is 7 = .ok (.aload_n 0, 1) := by decide +kernel
theorem dX12_is_8 : decode cX12_is 8 = .ok (.getfield 111, 3) := by decide +kernel
theorem dX12_is_11 : decode cX12_is 11 = .ok (.iload_n 1, 1) := by decide +kernel
theorem dX12_is_12 : decode cX12_is 12 = .ok (.if_icmp .ne 7, 3) := by decide +kernel
theorem dX12_is_15 : decode cX12_is 15 = .ok (.iconst 1, 1) := by decide +kernel
theorem dX12_is_16 : decode cX12_is 16 = .ok (.goto 4, 3) := by decide +kernel
theorem dX12_is_19 : decode cX12_is 19 = .ok (.iconst 0, 1) := by decide +kernel
theorem dX12_is_20 : decode cX12_is 20 = .ok (.ireturn, 1) := by decide +kernel
def r_is (I : Nat → Nat → Int32) (z : Nat) (v1 : Int32) : Int32 := if (I z 11) = 0 then (if (I z 9) = v1 then (1) else (0)) else (0)
theorem c_r_is {l : Launch} {D : va_G} {E : Nat → ClassId} {B : Nat → Prop} {n : Nat} {T : Nat → Option (Nat × Nat)} {I : Nat → Nat → Int32} {J : Nat → Nat → Int64} {P : Nat → Nat → Option Nat} {z : Nat} {v1 : Int32} (hs_z : isMd T P z) : Ct l D E B yX12_is cX12_is 2 (some .boolean) 0 0 0 [.ref z, .int v1] (n, T, I, J, P) (Ret (some (.int (r_is I z v1))) (n, T, I, J, P)) := by
  obtain ⟨r, hf⟩ : ∃ r, r_is I z v1 = r := ⟨_, rfl⟩
  rw [hf]
  unfold r_is at hf
  refine Ct.ofV (by decide) (Nat.le_of_ble_eq_true rfl) ?_
  refine V.aload_n dX12_is_0 rfl ?_
  refine V.getf fl_X12_129 dX12_is_1 (hs_z.1 0 (12, 0) rfl) (by decide) rfl ?_
  refine V.if_ne 19 dX12_is_4 (by decide) (fun c1 => ?_) (fun c1 => ?_)
  · rw [if_neg c1] at hf
    refine V.iconst (v := 0) dX12_is_19 (by decide) ?_
    subst hf
    exact V.zret dX12_is_20 rfl rfl (Nat.le_refl _) (Nat.le_refl _) ⟨rfl, rfl⟩
  · rw [if_pos c1] at hf
    refine V.aload_n dX12_is_7 rfl ?_
    refine V.getf fl_X12_111 dX12_is_8 (hs_z.1 0 (12, 0) rfl) (by decide) rfl ?_
    refine V.iload_n dX12_is_11 rfl ?_
    refine V.icmp_ne 19 dX12_is_12 (by decide) (fun c2 => ?_) (fun c2 => ?_)
    · rw [if_neg c2] at hf
      refine V.iconst (v := 0) dX12_is_19 (by decide) ?_
      subst hf
      exact V.zret dX12_is_20 rfl rfl (Nat.le_refl _) (Nat.le_refl _) ⟨rfl, rfl⟩
    · rw [if_pos c2] at hf
      refine V.iconst (v := 1) dX12_is_15 (by decide) ?_
      refine V.goto 20 dX12_is_16 (by decide) ?_
      subst hf
      exact V.zret dX12_is_20 rfl rfl (Nat.le_refl _) (Nat.le_refl _) ⟨rfl, rfl⟩
theorem dX12_wordOf_0 : decode cX12_wordOf 0 = .ok (.iload_n 1, 1) := by decide +kernel
theorem dX12_wordOf_1 : decode cX12_wordOf 1 = .ok (.tableswitch 90 2 16 #[79, 77, 81, 90, 90, 90, 90, 90, 90, 90, 90, 75, 83, 85, 87], 75) := by decide +kernel
theorem dX12_wordOf_76 : decode cX12_wordOf 76 = .ok (.iconst 0, 1) := by decide +kernel
theorem dX12_wordOf_77 : decode cX12_wordOf 77 = .ok (.ireturn, 1) := by decide +kernel
theorem dX12_wordOf_78 : decode cX12_wordOf 78 = .ok (.iconst 1, 1) := by decide +kernel
theorem dX12_wordOf_79 : decode cX12_wordOf 79 = .ok (.ireturn, 1) := by decide +kernel
theorem dX12_wordOf_80 : decode cX12_wordOf 80 = .ok (.iconst 2, 1) := by decide +kernel
theorem dX12_wordOf_81 : decode cX12_wordOf 81 = .ok (.ireturn, 1) := by decide +kernel
theorem dX12_wordOf_82 : decode cX12_wordOf 82 = .ok (.iconst 3, 1) := by decide +kernel
theorem dX12_wordOf_83 : decode cX12_wordOf 83 = .ok (.ireturn, 1) := by decide +kernel
theorem dX12_wordOf_84 : decode cX12_wordOf 84 = .ok (.iconst 4, 1) := by decide +kernel
theorem dX12_wordOf_85 : decode cX12_wordOf 85 = .ok (.ireturn, 1) := by decide +kernel
theorem dX12_wordOf_86 : decode cX12_wordOf 86 = .ok (.iconst 5, 1) := by decide +kernel
theorem dX12_wordOf_87 : decode cX12_wordOf 87 = .ok (.ireturn, 1) := by decide +kernel
theorem dX12_wordOf_88 : decode cX12_wordOf 88 = .ok (.bipush 6, 2) := by decide +kernel
theorem dX12_wordOf_90 : decode cX12_wordOf 90 = .ok (.ireturn, 1) := by decide +kernel
theorem dX12_wordOf_91 : decode cX12_wordOf 91 = .ok (.iconst (-1), 1) := by decide +kernel
theorem dX12_wordOf_92 : decode cX12_wordOf 92 = .ok (.ireturn, 1) := by decide +kernel
def r_wordOf (z : Nat) (v1 : Int32) : Int32 := if v1 = 2 then (2) else (if v1 = 3 then (1) else (if v1 = 4 then (3) else (if v1 = 13 then (0) else (if v1 = 14 then (4) else (if v1 = 15 then (5) else (if v1 = 16 then (6) else ((-1))))))))
theorem c_r_wordOf {l : Launch} {D : va_G} {E : Nat → ClassId} {B : Nat → Prop} {n : Nat} {T : Nat → Option (Nat × Nat)} {I : Nat → Nat → Int32} {J : Nat → Nat → Int64} {P : Nat → Nat → Option Nat} {z : Nat} {v1 : Int32} (hs_z : isMd T P z) : Ct l D E B yX12_wordOf cX12_wordOf 2 (some .int) 0 0 0 [.ref z, .int v1] (n, T, I, J, P) (Ret (some (.int (r_wordOf z v1))) (n, T, I, J, P)) := by
  obtain ⟨r, hf⟩ : ∃ r, r_wordOf z v1 = r := ⟨_, rfl⟩
  rw [hf]
  unfold r_wordOf at hf
  refine Ct.ofV (by decide) (Nat.le_of_ble_eq_true rfl) ?_
  refine V.iload_n dX12_wordOf_0 rfl ?_
  by_cases c1 : v1 = 2
  · rw [if_pos c1] at hf
    refine V.tabIn (off := 79) 80 dX12_wordOf_1 (by rw [c1]; decide) (by rw [c1]; decide) (by rw [c1]; rfl) (by decide) ?_
    refine V.iconst (v := 2) dX12_wordOf_80 (by decide) ?_
    subst hf
    exact V.iret dX12_wordOf_81 rfl (Nat.le_refl _) (Nat.le_refl _) ⟨rfl, rfl⟩
  rw [if_neg c1] at hf
  by_cases c2 : v1 = 3
  · rw [if_pos c2] at hf
    refine V.tabIn (off := 77) 78 dX12_wordOf_1 (by rw [c2]; decide) (by rw [c2]; decide) (by rw [c2]; rfl) (by decide) ?_
    refine V.iconst (v := 1) dX12_wordOf_78 (by decide) ?_
    subst hf
    exact V.iret dX12_wordOf_79 rfl (Nat.le_refl _) (Nat.le_refl _) ⟨rfl, rfl⟩
  rw [if_neg c2] at hf
  by_cases c3 : v1 = 4
  · rw [if_pos c3] at hf
    refine V.tabIn (off := 81) 82 dX12_wordOf_1 (by rw [c3]; decide) (by rw [c3]; decide) (by rw [c3]; rfl) (by decide) ?_
    refine V.iconst (v := 3) dX12_wordOf_82 (by decide) ?_
    subst hf
    exact V.iret dX12_wordOf_83 rfl (Nat.le_refl _) (Nat.le_refl _) ⟨rfl, rfl⟩
  rw [if_neg c3] at hf
  by_cases c4 : v1 = 13
  · rw [if_pos c4] at hf
    refine V.tabIn (off := 75) 76 dX12_wordOf_1 (by rw [c4]; decide) (by rw [c4]; decide) (by rw [c4]; rfl) (by decide) ?_
    refine V.iconst (v := 0) dX12_wordOf_76 (by decide) ?_
    subst hf
    exact V.iret dX12_wordOf_77 rfl (Nat.le_refl _) (Nat.le_refl _) ⟨rfl, rfl⟩
  rw [if_neg c4] at hf
  by_cases c5 : v1 = 14
  · rw [if_pos c5] at hf
    refine V.tabIn (off := 83) 84 dX12_wordOf_1 (by rw [c5]; decide) (by rw [c5]; decide) (by rw [c5]; rfl) (by decide) ?_
    refine V.iconst (v := 4) dX12_wordOf_84 (by decide) ?_
    subst hf
    exact V.iret dX12_wordOf_85 rfl (Nat.le_refl _) (Nat.le_refl _) ⟨rfl, rfl⟩
  rw [if_neg c5] at hf
  by_cases c6 : v1 = 15
  · rw [if_pos c6] at hf
    refine V.tabIn (off := 85) 86 dX12_wordOf_1 (by rw [c6]; decide) (by rw [c6]; decide) (by rw [c6]; rfl) (by decide) ?_
    refine V.iconst (v := 5) dX12_wordOf_86 (by decide) ?_
    subst hf
    exact V.iret dX12_wordOf_87 rfl (Nat.le_refl _) (Nat.le_refl _) ⟨rfl, rfl⟩
  rw [if_neg c6] at hf
  by_cases c7 : v1 = 16
  · rw [if_pos c7] at hf
    refine V.tabIn (off := 87) 88 dX12_wordOf_1 (by rw [c7]; decide) (by rw [c7]; decide) (by rw [c7]; rfl) (by decide) ?_
    refine V.bipush (v := 6) dX12_wordOf_88 (by decide) ?_
    subst hf
    exact V.iret dX12_wordOf_90 rfl (Nat.le_refl _) (Nat.le_refl _) ⟨rfl, rfl⟩
  rw [if_neg c7] at hf
  have hw8 : Int32.toInt v1 < 2 ∨ 16 < Int32.toInt v1 ∨ (#[79, 77, 81, 90, 90, 90, 90, 90, 90, 90, 90, 75, 83, 85, 87] : Array Int)[(Int32.toInt v1 - 2).toNat]? = some (90) := by
    by_cases c9 : v1 = 5
    · exact Or.inr (Or.inr (by rw [c9]; rfl))
    by_cases c10 : v1 = 6
    · exact Or.inr (Or.inr (by rw [c10]; rfl))
    by_cases c11 : v1 = 7
    · exact Or.inr (Or.inr (by rw [c11]; rfl))
    by_cases c12 : v1 = 8
    · exact Or.inr (Or.inr (by rw [c12]; rfl))
    by_cases c13 : v1 = 9
    · exact Or.inr (Or.inr (by rw [c13]; rfl))
    by_cases c14 : v1 = 10
    · exact Or.inr (Or.inr (by rw [c14]; rfl))
    by_cases c15 : v1 = 11
    · exact Or.inr (Or.inr (by rw [c15]; rfl))
    by_cases c16 : v1 = 12
    · exact Or.inr (Or.inr (by rw [c16]; rfl))
    have c1_ := sw_ne c1 (j := 2) (by decide)
    have c2_ := sw_ne c2 (j := 3) (by decide)
    have c3_ := sw_ne c3 (j := 4) (by decide)
    have c4_ := sw_ne c4 (j := 13) (by decide)
    have c5_ := sw_ne c5 (j := 14) (by decide)
    have c6_ := sw_ne c6 (j := 15) (by decide)
    have c7_ := sw_ne c7 (j := 16) (by decide)
    have c9_ := sw_ne c9 (j := 5) (by decide)
    have c10_ := sw_ne c10 (j := 6) (by decide)
    have c11_ := sw_ne c11 (j := 7) (by decide)
    have c12_ := sw_ne c12 (j := 8) (by decide)
    have c13_ := sw_ne c13 (j := 9) (by decide)
    have c14_ := sw_ne c14 (j := 10) (by decide)
    have c15_ := sw_ne c15 (j := 11) (by decide)
    have c16_ := sw_ne c16 (j := 12) (by decide)
    omega
  refine V.tabDef 91 dX12_wordOf_1 hw8 (by decide) ?_
  refine V.iconst (v := -1) dX12_wordOf_91 (by decide) ?_
  subst hf
  exact V.iret dX12_wordOf_92 rfl (Nat.le_refl _) (Nat.le_refl _) ⟨rfl, rfl⟩
theorem dX12_codes_0 : decode cX12_codes 0 = .ok (.aload_n 0, 1) := by decide +kernel
theorem dX12_codes_1 : decode cX12_codes 1 = .ok (.getfield 129, 3) := by decide +kernel
theorem dX12_codes_4 : decode cX12_codes 4 = .ok (.ifCond .eq 4, 3) := by decide +kernel
theorem dX12_codes_7 : decode cX12_codes 7 = .ok (.return_, 1) := by decide +kernel
theorem dX12_codes_8 : decode cX12_codes 8 = .ok (.aload_n 0, 1) := by decide +kernel
theorem dX12_codes_9 : decode cX12_codes 9 = .ok (.getfield 24, 3) := by decide +kernel
theorem dX12_codes_12 : decode cX12_codes 12 = .ok (.sipush 397, 3) := by decide +kernel
theorem dX12_codes_15 : decode cX12_codes 15 = .ok (.aload_n 0, 1) := by decide +kernel
theorem dX12_codes_16 : decode cX12_codes 16 = .ok (.getfield 24, 3) := by decide +kernel
theorem dX12_codes_19 : decode cX12_codes 19 = .ok (.sipush 396, 3) := by decide +kernel
theorem dX12_codes_22 : decode cX12_codes 22 = .ok (.iaload, 1) := by decide +kernel
theorem dX12_codes_23 : decode cX12_codes 23 = .ok (.iadd, 1) := by decide +kernel
theorem dX12_codes_24 : decode cX12_codes 24 = .ok (.iload_n 1, 1) := by decide +kernel
theorem dX12_codes_25 : decode cX12_codes 25 = .ok (.iastore, 1) := by decide +kernel
theorem dX12_codes_26 : decode cX12_codes 26 = .ok (.aload_n 0, 1) := by decide +kernel
theorem dX12_codes_27 : decode cX12_codes 27 = .ok (.getfield 24, 3) := by decide +kernel
theorem dX12_codes_30 : decode cX12_codes 30 = .ok (.sipush 396, 3) := by decide +kernel
theorem dX12_codes_33 : decode cX12_codes 33 = .ok (.dup2, 1) := by decide +kernel
theorem dX12_codes_34 : decode cX12_codes 34 = .ok (.iaload, 1) := by decide +kernel
theorem dX12_codes_35 : decode cX12_codes 35 = .ok (.iconst 1, 1) := by decide +kernel
theorem dX12_codes_36 : decode cX12_codes 36 = .ok (.iadd, 1) := by decide +kernel
theorem dX12_codes_37 : decode cX12_codes 37 = .ok (.iastore, 1) := by decide +kernel
theorem dX12_codes_38 : decode cX12_codes 38 = .ok (.return_, 1) := by decide +kernel
def r_codes (I : Nat → Nat → Int32) (z : Nat) (v1 : Int32) : Option ((Nat → Nat → Int32)) := if (I z 11) = 0 then (chk (397 + (I (z + 4) (Int32.toNatClampNeg 396))) 1297 (let I3 := uI I (z + 4) (Int32.toNatClampNeg (397 + (I (z + 4) (Int32.toNatClampNeg 396)))) v1; let I5 := uI I3 (z + 4) (Int32.toNatClampNeg 396) ((I3 (z + 4) (Int32.toNatClampNeg 396)) + 1); some I5)) else (some I)
theorem c_r_codes {l : Launch} {D : va_G} {E : Nat → ClassId} {B : Nat → Prop} {n : Nat} {T : Nat → Option (Nat × Nat)} {I : Nat → Nat → Int32} {J : Nat → Nat → Int64} {P : Nat → Nat → Option Nat} {z : Nat} {v1 : Int32} {r : (Nat → Nat → Int32)} (hs_z : isMd T P z) (hf : r_codes I z v1 = some r) : Ct l D E B yX12_codes cX12_codes 2 none 0 0 0 [.ref z, .int v1] (n, T, I, J, P) (Ret (none) (n, T, r, J, P)) := by
  unfold r_codes at hf
  refine Ct.ofV (by decide) (Nat.le_of_ble_eq_true rfl) ?_
  refine V.aload_n dX12_codes_0 rfl ?_
  refine V.getf fl_X12_129 dX12_codes_1 (hs_z.1 0 (12, 0) rfl) (by decide) rfl ?_
  refine V.if_eq 8 dX12_codes_4 (by decide) (fun c1 => ?_) (fun c1 => ?_)
  · rw [if_pos c1] at hf
    refine V.aload_n dX12_codes_8 rfl ?_
    refine V.getr fl_X12_24 dX12_codes_9 (hs_z.1 0 (12, 0) rfl) (hs_z.2 0 4 4 rfl) (by decide) rfl ?_
    refine V.sipush (v := 397) dX12_codes_12 (by decide) ?_
    refine V.aload_n dX12_codes_15 rfl ?_
    refine V.getr fl_X12_24 dX12_codes_16 (hs_z.1 0 (12, 0) rfl) (hs_z.2 0 4 4 rfl) (by decide) rfl ?_
    refine V.sipush (v := 396) dX12_codes_19 (by decide) ?_
    refine V.iald dX12_codes_22 (hs_z.1 4 (20, 1297) rfl) (vp_lit (by decide)) ?_
    refine V.iadd dX12_codes_23 ?_
    refine V.iload_n dX12_codes_24 rfl ?_
    obtain ⟨hb2, hf⟩ := chk_some hf
    refine V.iastE dX12_codes_25 (hs_z.1 4 (20, 1297) rfl) hb2 (fun I3 e4 => ?_)
    rw [← e4] at hf
    try dsimp only at hf
    clear e4
    refine V.aload_n dX12_codes_26 rfl ?_
    refine V.getr fl_X12_24 dX12_codes_27 (hs_z.1 0 (12, 0) rfl) (hs_z.2 0 4 4 rfl) (by decide) rfl ?_
    refine V.sipush (v := 396) dX12_codes_30 (by decide) ?_
    refine V.dup2 dX12_codes_33 rfl rfl ?_
    refine V.iald dX12_codes_34 (hs_z.1 4 (20, 1297) rfl) (vp_lit (by decide)) ?_
    refine V.iconst (v := 1) dX12_codes_35 (by decide) ?_
    refine V.iadd dX12_codes_36 ?_
    refine V.iastE dX12_codes_37 (hs_z.1 4 (20, 1297) rfl) (vp_lit (by decide)) (fun I5 e6 => ?_)
    rw [← e6] at hf
    try dsimp only at hf
    clear e6
    obtain rfl := Option.some.inj hf
    exact V.vret dX12_codes_38 rfl (Nat.le_refl _) (Nat.le_refl _) ⟨rfl, rfl⟩
  · rw [if_neg c1] at hf
    obtain rfl := Option.some.inj hf
    exact V.vret dX12_codes_7 rfl (Nat.le_refl _) (Nat.le_refl _) ⟨rfl, rfl⟩
theorem dX12_fault_0 : decode cX12_fault 0 = .ok (.aload_n 0, 1) := by decide +kernel
theorem dX12_fault_1 : decode cX12_fault 1 = .ok (.iconst 0, 1) := by decide +kernel
theorem dX12_fault_2 : decode cX12_fault 2 = .ok (.putfield 1, 3) := by decide +kernel
theorem dX12_fault_5 : decode cX12_fault 5 = .ok (.iload_n 1, 1) := by decide +kernel
theorem dX12_fault_6 : decode cX12_fault 6 = .ok (.ifCond .ne 10, 3) := by decide +kernel
theorem dX12_fault_9 : decode cX12_fault 9 = .ok (.aload_n 0, 1) := by decide +kernel
theorem dX12_fault_10 : decode cX12_fault 10 = .ok (.getfield 204, 3) := by decide +kernel
theorem dX12_fault_13 : decode cX12_fault 13 = .ok (.goto 16, 3) := by decide +kernel
theorem dX12_fault_16 : decode cX12_fault 16 = .ok (.iload_n 1, 1) := by decide +kernel
theorem dX12_fault_17 : decode cX12_fault 17 = .ok (.iconst 1, 1) := by decide +kernel
theorem dX12_fault_18 : decode cX12_fault 18 = .ok (.if_icmp .ne 10, 3) := by decide +kernel
theorem dX12_fault_21 : decode cX12_fault 21 = .ok (.aload_n 0, 1) := by decide +kernel
theorem dX12_fault_22 : decode cX12_fault 22 = .ok (.getfield 27, 3) := by decide +kernel
theorem dX12_fault_25 : decode cX12_fault 25 = .ok (.goto 4, 3) := by decide +kernel
theorem dX12_fault_28 : decode cX12_fault 28 = .ok (.iconst (-1), 1) := by decide +kernel
theorem dX12_fault_29 : decode cX12_fault 29 = .ok (.ireturn, 1) := by decide +kernel
def r_fault (I : Nat → Nat → Int32) (z : Nat) (v1 : Int32) : Option (Int32 × (Nat → Nat → Int32)) := let I1 := uI I z 0 0; if v1 = 0 then (some ((I1 z 13), I1)) else (if v1 = 1 then (some ((I1 z 14), I1)) else (some ((-1), I1)))
theorem c_r_fault {l : Launch} {D : va_G} {E : Nat → ClassId} {B : Nat → Prop} {n : Nat} {T : Nat → Option (Nat × Nat)} {I : Nat → Nat → Int32} {J : Nat → Nat → Int64} {P : Nat → Nat → Option Nat} {z : Nat} {v1 : Int32} {r : Int32 × (Nat → Nat → Int32)} (hs_z : isMd T P z) (hf : r_fault I z v1 = some r) : Ct l D E B yX12_fault cX12_fault 2 (some .int) 0 0 0 [.ref z, .int v1] (n, T, I, J, P) (Ret (some (.int r.1)) (n, T, r.2, J, P)) := by
  unfold r_fault at hf
  refine Ct.ofV (by decide) (Nat.le_of_ble_eq_true rfl) ?_
  refine V.aload_n dX12_fault_0 rfl ?_
  refine V.iconst (v := 0) dX12_fault_1 (by decide) ?_
  refine V.putiE fl_X12_1 dX12_fault_2 (hs_z.1 0 (12, 0) rfl) (by decide) (fun h => by cases h) rfl rfl rfl (Nat.le_of_ble_eq_true rfl) (fun I1 e2 => ?_)
  rw [← e2] at hf
  try dsimp only at hf
  clear e2
  refine V.iload_n dX12_fault_5 rfl ?_
  refine V.if_ne 16 dX12_fault_6 (by decide) (fun c3 => ?_) (fun c3 => ?_)
  · rw [if_neg c3] at hf
    refine V.iload_n dX12_fault_16 rfl ?_
    refine V.iconst (v := 1) dX12_fault_17 (by decide) ?_
    refine V.icmp_ne 28 dX12_fault_18 (by decide) (fun c4 => ?_) (fun c4 => ?_)
    · rw [if_neg c4] at hf
      refine V.iconst (v := -1) dX12_fault_28 (by decide) ?_
      obtain rfl := Option.some.inj hf
      exact V.iret dX12_fault_29 rfl (Nat.le_refl _) (Nat.le_refl _) ⟨rfl, rfl⟩
    · rw [if_pos c4] at hf
      refine V.aload_n dX12_fault_21 rfl ?_
      refine V.getf fl_X12_27 dX12_fault_22 (hs_z.1 0 (12, 0) rfl) (by decide) rfl ?_
      refine V.goto 29 dX12_fault_25 (by decide) ?_
      obtain rfl := Option.some.inj hf
      exact V.iret dX12_fault_29 rfl (Nat.le_refl _) (Nat.le_refl _) ⟨rfl, rfl⟩
  · rw [if_pos c3] at hf
    refine V.aload_n dX12_fault_9 rfl ?_
    refine V.getf fl_X12_204 dX12_fault_10 (hs_z.1 0 (12, 0) rfl) (by decide) rfl ?_
    refine V.goto 29 dX12_fault_13 (by decide) ?_
    obtain rfl := Option.some.inj hf
    exact V.iret dX12_fault_29 rfl (Nat.le_refl _) (Nat.le_refl _) ⟨rfl, rfl⟩
theorem dX12_isPerson_0 : decode cX12_isPerson 0 = .ok (.lload_n 1, 1) := by decide +kernel
theorem dX12_isPerson_1 : decode cX12_isPerson 1 = .ok (.lconst 0, 1) := by decide +kernel
theorem dX12_isPerson_2 : decode cX12_isPerson 2 = .ok (.aload_n 0, 1) := by decide +kernel
theorem dX12_isPerson_3 : decode cX12_isPerson 3 = .ok (.getfield 13, 3) := by decide +kernel
theorem dX12_isPerson_6 : decode cX12_isPerson 6 = .ok (.iconst 1, 1) := by decide +kernel
theorem dX12_isPerson_7 : decode cX12_isPerson 7 = .ok (.iaload, 1) := by decide +kernel
theorem dX12_isPerson_8 : decode cX12_isPerson 8 = .ok (.iconst 1, 1) := by decide +kernel
theorem dX12_isPerson_9 : decode cX12_isPerson 9 = .ok (.isub, 1) := by decide +kernel
theorem dX12_isPerson_10 : decode cX12_isPerson 10 = .ok (.i2l, 1) := by decide +kernel
theorem dX12_isPerson_11 : decode cX12_isPerson 11 = .ok (.invokestatic 145, 3) := by decide +kernel
theorem dX12_isPerson_14 : decode cX12_isPerson 14 = .ok (.ireturn, 1) := by decide +kernel
def r_isPerson (I : Nat → Nat → Int32) (z : Nat) (v1 : Int64) : Option (Int32) := isb (r_within v1 0 (Int32.toInt64 ((I (z + 1) (Int32.toNatClampNeg 1)) - 1))) (some (r_within v1 0 (Int32.toInt64 ((I (z + 1) (Int32.toNatClampNeg 1)) - 1))))
theorem c_r_isPerson {l : Launch} {D : va_G} {E : Nat → ClassId} {B : Nat → Prop} {n : Nat} {T : Nat → Option (Nat × Nat)} {I : Nat → Nat → Int32} {J : Nat → Nat → Int64} {P : Nat → Nat → Option Nat} {z : Nat} {v1 : Int64} {r : Int32} (hs_z : isMd T P z) (hf : r_isPerson I z v1 = some r) : Ct l D E B yX12_isPerson cX12_isPerson 3 (some .boolean) 1 0 0 [.ref z, .long v1] (n, T, I, J, P) (Ret (some (.int r)) (n, T, I, J, P)) := by
  unfold r_isPerson at hf
  refine Ct.ofV (by decide) (Nat.le_of_ble_eq_true rfl) ?_
  refine V.lload_n dX12_isPerson_0 rfl ?_
  refine V.lconst (v := 0) dX12_isPerson_1 (by decide) ?_
  refine V.aload_n dX12_isPerson_2 rfl ?_
  refine V.getr fl_X12_13 dX12_isPerson_3 (hs_z.1 0 (12, 0) rfl) (hs_z.2 0 1 1 rfl) (by decide) rfl ?_
  refine V.iconst (v := 1) dX12_isPerson_6 (by decide) ?_
  refine V.iald dX12_isPerson_7 (hs_z.1 1 (20, 3891) rfl) (vp_lit (by decide)) ?_
  refine V.iconst (v := 1) dX12_isPerson_8 (by decide) ?_
  refine V.isub dX12_isPerson_9 ?_
  refine V.i2l dX12_isPerson_10 ?_
  refine V.ins cs_X12_145 (c_r_within) dX12_isPerson_11 rfl rfl (Nat.le_of_ble_eq_true rfl) (by decide) (by decide) (Nat.le_refl _) (Nat.le_refl _) (fun _ _ hq => ?_)
  obtain ⟨rfl, rfl⟩ := hq
  obtain ⟨hn1, hf⟩ := isb_some hf
  obtain rfl := Option.some.inj hf
  exact V.zret dX12_isPerson_14 rfl hn1 (Nat.le_refl _) (Nat.le_refl _) ⟨rfl, rfl⟩
theorem dX12_isTune_0 : decode cX12_isTune 0 = .ok (.lload_n 1, 1) := by decide +kernel
theorem dX12_isTune_1 : decode cX12_isTune 1 = .ok (.lconst 0, 1) := by decide +kernel
theorem dX12_isTune_2 : decode cX12_isTune 2 = .ok (.aload_n 0, 1) := by decide +kernel
theorem dX12_isTune_3 : decode cX12_isTune 3 = .ok (.getfield 13, 3) := by decide +kernel
theorem dX12_isTune_6 : decode cX12_isTune 6 = .ok (.iconst 2, 1) := by decide +kernel
theorem dX12_isTune_7 : decode cX12_isTune 7 = .ok (.iaload, 1) := by decide +kernel
theorem dX12_isTune_8 : decode cX12_isTune 8 = .ok (.iconst 1, 1) := by decide +kernel
theorem dX12_isTune_9 : decode cX12_isTune 9 = .ok (.isub, 1) := by decide +kernel
theorem dX12_isTune_10 : decode cX12_isTune 10 = .ok (.i2l, 1) := by decide +kernel
theorem dX12_isTune_11 : decode cX12_isTune 11 = .ok (.invokestatic 145, 3) := by decide +kernel
theorem dX12_isTune_14 : decode cX12_isTune 14 = .ok (.ireturn, 1) := by decide +kernel
def r_isTune (I : Nat → Nat → Int32) (z : Nat) (v1 : Int64) : Option (Int32) := isb (r_within v1 0 (Int32.toInt64 ((I (z + 1) (Int32.toNatClampNeg 2)) - 1))) (some (r_within v1 0 (Int32.toInt64 ((I (z + 1) (Int32.toNatClampNeg 2)) - 1))))
theorem c_r_isTune {l : Launch} {D : va_G} {E : Nat → ClassId} {B : Nat → Prop} {n : Nat} {T : Nat → Option (Nat × Nat)} {I : Nat → Nat → Int32} {J : Nat → Nat → Int64} {P : Nat → Nat → Option Nat} {z : Nat} {v1 : Int64} {r : Int32} (hs_z : isMd T P z) (hf : r_isTune I z v1 = some r) : Ct l D E B yX12_isTune cX12_isTune 3 (some .boolean) 1 0 0 [.ref z, .long v1] (n, T, I, J, P) (Ret (some (.int r)) (n, T, I, J, P)) := by
  unfold r_isTune at hf
  refine Ct.ofV (by decide) (Nat.le_of_ble_eq_true rfl) ?_
  refine V.lload_n dX12_isTune_0 rfl ?_
  refine V.lconst (v := 0) dX12_isTune_1 (by decide) ?_
  refine V.aload_n dX12_isTune_2 rfl ?_
  refine V.getr fl_X12_13 dX12_isTune_3 (hs_z.1 0 (12, 0) rfl) (hs_z.2 0 1 1 rfl) (by decide) rfl ?_
  refine V.iconst (v := 2) dX12_isTune_6 (by decide) ?_
  refine V.iald dX12_isTune_7 (hs_z.1 1 (20, 3891) rfl) (vp_lit (by decide)) ?_
  refine V.iconst (v := 1) dX12_isTune_8 (by decide) ?_
  refine V.isub dX12_isTune_9 ?_
  refine V.i2l dX12_isTune_10 ?_
  refine V.ins cs_X12_145 (c_r_within) dX12_isTune_11 rfl rfl (Nat.le_of_ble_eq_true rfl) (by decide) (by decide) (Nat.le_refl _) (Nat.le_refl _) (fun _ _ hq => ?_)
  obtain ⟨rfl, rfl⟩ := hq
  obtain ⟨hn1, hf⟩ := isb_some hf
  obtain rfl := Option.some.inj hf
  exact V.zret dX12_isTune_14 rfl hn1 (Nat.le_refl _) (Nat.le_refl _) ⟨rfl, rfl⟩
theorem dX12_areTwo_0 : decode cX12_areTwo 0 = .ok (.aload_n 0, 1) := by decide +kernel
theorem dX12_areTwo_1 : decode cX12_areTwo 1 = .ok (.lload_n 1, 1) := by decide +kernel
theorem dX12_areTwo_2 : decode cX12_areTwo 2 = .ok (.invokevirtual 210, 3) := by decide +kernel
theorem dX12_areTwo_5 : decode cX12_areTwo 5 = .ok (.ifCond .eq 21, 3) := by decide +kernel
theorem dX12_areTwo_8 : decode cX12_areTwo 8 = .ok (.aload_n 0, 1) := by decide +kernel
theorem dX12_areTwo_9 : decode cX12_areTwo 9 = .ok (.lload_n 3, 1) := by decide +kernel
theorem dX12_areTwo_10 : decode cX12_areTwo 10 = .ok (.invokevirtual 210, 3) := by decide +kernel
theorem dX12_areTwo_13 : decode cX12_areTwo 13 = .ok (.ifCond .eq 13, 3) := by decide +kernel
theorem dX12_areTwo_16 : decode cX12_areTwo 16 = .ok (.lload_n 1, 1) := by decide +kernel
theorem dX12_areTwo_17 : decode cX12_areTwo 17 = .ok (.lload_n 3, 1) := by decide +kernel
theorem dX12_areTwo_18 : decode cX12_areTwo 18 = .ok (.lcmp, 1) := by decide +kernel
theorem dX12_areTwo_19 : decode cX12_areTwo 19 = .ok (.ifCond .eq 7, 3) := by decide +kernel
theorem dX12_areTwo_22 : decode cX12_areTwo 22 = .ok (.iconst 1, 1) := by decide +kernel
theorem dX12_areTwo_23 : decode cX12_areTwo 23 = .ok (.goto 4, 3) := by decide +kernel
theorem dX12_areTwo_26 : decode cX12_areTwo 26 = .ok (.iconst 0, 1) := by decide +kernel
theorem dX12_areTwo_27 : decode cX12_areTwo 27 = .ok (.ireturn, 1) := by decide +kernel
def r_areTwo (I : Nat → Nat → Int32) (z : Nat) (v1 : Int64) (v3 : Int64) : Option (Int32) := (r_isPerson I z v1).bind (fun q1 => let u3 := q1; if u3 = 0 then (some 0) else ((r_isPerson I z v3).bind (fun q5 => let u7 := q5; if u7 = 0 then (some 0) else (if (lg_cmp v1 v3) = 0 then (some 0) else (some 1)))))
theorem c_r_areTwo {l : Launch} {D : va_G} {E : Nat → ClassId} {B : Nat → Prop} {n : Nat} {T : Nat → Option (Nat × Nat)} {I : Nat → Nat → Int32} {J : Nat → Nat → Int64} {P : Nat → Nat → Option Nat} {z : Nat} {v1 : Int64} {v3 : Int64} {r : Int32} (hs_z : isMd T P z) (hf : r_areTwo I z v1 v3 = some r) : Ct l D E B yX12_areTwo cX12_areTwo 5 (some .boolean) 2 0 0 [.ref z, .long v1, .long v3] (n, T, I, J, P) (Ret (some (.int r)) (n, T, I, J, P)) := by
  unfold r_areTwo at hf
  refine Ct.ofV (by decide) (Nat.le_of_ble_eq_true rfl) ?_
  refine V.aload_n dX12_areTwo_0 rfl ?_
  refine V.lload_n dX12_areTwo_1 rfl ?_
  obtain ⟨u3, hk2, hf⟩ := bnd_some hf
  try dsimp only at hf
  refine V.inv cv_X12_210 (c_r_isPerson hs_z hk2) dX12_areTwo_2 (hs_z.1 0 (12, 0) rfl) (by decide) rfl rfl rfl (Nat.le_of_ble_eq_true rfl) (by decide) (by decide) (Nat.le_refl _) (Nat.le_refl _) (fun _ _ hq => ?_)
  obtain ⟨rfl, rfl⟩ := hq
  refine V.if_eq 26 dX12_areTwo_5 (by decide) (fun c4 => ?_) (fun c4 => ?_)
  · rw [if_pos c4] at hf
    refine V.iconst (v := 0) dX12_areTwo_26 (by decide) ?_
    obtain rfl := Option.some.inj hf
    exact V.zret dX12_areTwo_27 rfl rfl (Nat.le_refl _) (Nat.le_refl _) ⟨rfl, rfl⟩
  · rw [if_neg c4] at hf
    refine V.aload_n dX12_areTwo_8 rfl ?_
    refine V.lload_n dX12_areTwo_9 rfl ?_
    obtain ⟨u7, hk6, hf⟩ := bnd_some hf
    try dsimp only at hf
    refine V.inv cv_X12_210 (c_r_isPerson hs_z hk6) dX12_areTwo_10 (hs_z.1 0 (12, 0) rfl) (by decide) rfl rfl rfl (Nat.le_of_ble_eq_true rfl) (by decide) (by decide) (Nat.le_refl _) (Nat.le_refl _) (fun _ _ hq => ?_)
    obtain ⟨rfl, rfl⟩ := hq
    refine V.if_eq 26 dX12_areTwo_13 (by decide) (fun c8 => ?_) (fun c8 => ?_)
    · rw [if_pos c8] at hf
      refine V.iconst (v := 0) dX12_areTwo_26 (by decide) ?_
      obtain rfl := Option.some.inj hf
      exact V.zret dX12_areTwo_27 rfl rfl (Nat.le_refl _) (Nat.le_refl _) ⟨rfl, rfl⟩
    · rw [if_neg c8] at hf
      refine V.lload_n dX12_areTwo_16 rfl ?_
      refine V.lload_n dX12_areTwo_17 rfl ?_
      refine V.lcmp dX12_areTwo_18 ?_
      refine V.if_eq 26 dX12_areTwo_19 (by decide) (fun c9 => ?_) (fun c9 => ?_)
      · rw [if_pos c9] at hf
        refine V.iconst (v := 0) dX12_areTwo_26 (by decide) ?_
        obtain rfl := Option.some.inj hf
        exact V.zret dX12_areTwo_27 rfl rfl (Nat.le_refl _) (Nat.le_refl _) ⟨rfl, rfl⟩
      · rw [if_neg c9] at hf
        refine V.iconst (v := 1) dX12_areTwo_22 (by decide) ?_
        refine V.goto 27 dX12_areTwo_23 (by decide) ?_
        obtain rfl := Option.some.inj hf
        exact V.zret dX12_areTwo_27 rfl rfl (Nat.le_refl _) (Nat.le_refl _) ⟨rfl, rfl⟩
theorem dX12_isUp_0 : decode cX12_isUp 0 = .ok (.aload_n 0, 1) := by decide +kernel
theorem dX12_isUp_1 : decode cX12_isUp 1 = .ok (.getfield 13, 3) := by decide +kernel
theorem dX12_isUp_4 : decode cX12_isUp 4 = .ok (.bipush 32, 2) := by decide +kernel
theorem dX12_isUp_6 : decode cX12_isUp 6 = .ok (.iaload, 1) := by decide +kernel
theorem dX12_isUp_7 : decode cX12_isUp 7 = .ok (.i2l, 1) := by decide +kernel
theorem dX12_isUp_8 : decode cX12_isUp 8 = .ok (.iload_n 1, 1) := by decide +kernel
theorem dX12_isUp_9 : decode cX12_isUp 9 = .ok (.invokestatic 214, 3) := by decide +kernel
theorem dX12_isUp_12 : decode cX12_isUp 12 = .ok (.ireturn, 1) := by decide +kernel
def r_isUp (I : Nat → Nat → Int32) (z : Nat) (v1 : Int32) : Option (Int32) := isb (r_isIn (Int32.toInt64 (I (z + 1) (Int32.toNatClampNeg 32))) v1) (some (r_isIn (Int32.toInt64 (I (z + 1) (Int32.toNatClampNeg 32))) v1))
theorem c_r_isUp {l : Launch} {D : va_G} {E : Nat → ClassId} {B : Nat → Prop} {n : Nat} {T : Nat → Option (Nat × Nat)} {I : Nat → Nat → Int32} {J : Nat → Nat → Int64} {P : Nat → Nat → Option Nat} {z : Nat} {v1 : Int32} {r : Int32} (hs_z : isMd T P z) (hf : r_isUp I z v1 = some r) : Ct l D E B yX12_isUp cX12_isUp 2 (some .boolean) 1 0 0 [.ref z, .int v1] (n, T, I, J, P) (Ret (some (.int r)) (n, T, I, J, P)) := by
  unfold r_isUp at hf
  refine Ct.ofV (by decide) (Nat.le_of_ble_eq_true rfl) ?_
  refine V.aload_n dX12_isUp_0 rfl ?_
  refine V.getr fl_X12_13 dX12_isUp_1 (hs_z.1 0 (12, 0) rfl) (hs_z.2 0 1 1 rfl) (by decide) rfl ?_
  refine V.bipush (v := 32) dX12_isUp_4 (by decide) ?_
  refine V.iald dX12_isUp_6 (hs_z.1 1 (20, 3891) rfl) (vp_lit (by decide)) ?_
  refine V.i2l dX12_isUp_7 ?_
  refine V.iload_n dX12_isUp_8 rfl ?_
  refine V.ins cs_X12_214 (c_r_isIn) dX12_isUp_9 rfl rfl (Nat.le_of_ble_eq_true rfl) (by decide) (by decide) (Nat.le_refl _) (Nat.le_refl _) (fun _ _ hq => ?_)
  obtain ⟨rfl, rfl⟩ := hq
  obtain ⟨hn1, hf⟩ := isb_some hf
  obtain rfl := Option.some.inj hf
  exact V.zret dX12_isUp_12 rfl hn1 (Nat.le_refl _) (Nat.le_refl _) ⟨rfl, rfl⟩
theorem dX12_evenings_0 : decode cX12_evenings 0 = .ok (.aload_n 0, 1) := by decide +kernel
theorem dX12_evenings_1 : decode cX12_evenings 1 = .ok (.getfield 13, 3) := by decide +kernel
theorem dX12_evenings_4 : decode cX12_evenings 4 = .ok (.bipush 32, 2) := by decide +kernel
theorem dX12_evenings_6 : decode cX12_evenings 6 = .ok (.iconst 1, 1) := by decide +kernel
theorem dX12_evenings_7 : decode cX12_evenings 7 = .ok (.aload_n 0, 1) := by decide +kernel
theorem dX12_evenings_8 : decode cX12_evenings 8 = .ok (.getfield 13, 3) := by decide +kernel
theorem dX12_evenings_11 : decode cX12_evenings 11 = .ok (.iconst 1, 1) := by decide +kernel
theorem dX12_evenings_12 : decode cX12_evenings 12 = .ok (.iaload, 1) := by decide +kernel
theorem dX12_evenings_13 : decode cX12_evenings 13 = .ok (.ishl, 1) := by decide +kernel
theorem dX12_evenings_14 : decode cX12_evenings 14 = .ok (.iconst 1, 1) := by decide +kernel
theorem dX12_evenings_15 : decode cX12_evenings 15 = .ok (.isub, 1) := by decide +kernel
theorem dX12_evenings_16 : decode cX12_evenings 16 = .ok (.iastore, 1) := by decide +kernel
theorem dX12_evenings_17 : decode cX12_evenings 17 = .ok (.aload_n 0, 1) := by decide +kernel
theorem dX12_evenings_18 : decode cX12_evenings 18 = .ok (.getfield 13, 3) := by decide +kernel
theorem dX12_evenings_21 : decode cX12_evenings 21 = .ok (.bipush 33, 2) := by decide +kernel
theorem dX12_evenings_23 : decode cX12_evenings 23 = .ok (.iconst 0, 1) := by decide +kernel
theorem dX12_evenings_24 : decode cX12_evenings 24 = .ok (.iastore, 1) := by decide +kernel
theorem dX12_evenings_25 : decode cX12_evenings 25 = .ok (.aload_n 0, 1) := by decide +kernel
theorem dX12_evenings_26 : decode cX12_evenings 26 = .ok (.getfield 13, 3) := by decide +kernel
theorem dX12_evenings_29 : decode cX12_evenings 29 = .ok (.bipush 34, 2) := by decide +kernel
theorem dX12_evenings_31 : decode cX12_evenings 31 = .ok (.iconst 0, 1) := by decide +kernel
theorem dX12_evenings_32 : decode cX12_evenings 32 = .ok (.iastore, 1) := by decide +kernel
theorem dX12_evenings_33 : decode cX12_evenings 33 = .ok (.iconst 0, 1) := by decide +kernel
theorem dX12_evenings_34 : decode cX12_evenings 34 = .ok (.istore_n 1, 1) := by decide +kernel
theorem dX12_evenings_35 : decode cX12_evenings 35 = .ok (.iload_n 1, 1) := by decide +kernel
theorem dX12_evenings_36 : decode cX12_evenings 36 = .ok (.bipush 6, 2) := by decide +kernel
theorem dX12_evenings_38 : decode cX12_evenings 38 = .ok (.if_icmp .ge 57, 3) := by decide +kernel
theorem dX12_evenings_41 : decode cX12_evenings 41 = .ok (.aload_n 0, 1) := by decide +kernel
theorem dX12_evenings_42 : decode cX12_evenings 42 = .ok (.getfield 13, 3) := by decide +kernel
theorem dX12_evenings_45 : decode cX12_evenings 45 = .ok (.bipush 41, 2) := by decide +kernel
theorem dX12_evenings_47 : decode cX12_evenings 47 = .ok (.iload_n 1, 1) := by decide +kernel
theorem dX12_evenings_48 : decode cX12_evenings 48 = .ok (.iadd, 1) := by decide +kernel
theorem dX12_evenings_49 : decode cX12_evenings 49 = .ok (.aload_n 0, 1) := by decide +kernel
theorem dX12_evenings_50 : decode cX12_evenings 50 = .ok (.getfield 13, 3) := by decide +kernel
theorem dX12_evenings_53 : decode cX12_evenings 53 = .ok (.bipush 10, 2) := by decide +kernel
theorem dX12_evenings_55 : decode cX12_evenings 55 = .ok (.iload_n 1, 1) := by decide +kernel
theorem dX12_evenings_56 : decode cX12_evenings 56 = .ok (.iadd, 1) := by decide +kernel
theorem dX12_evenings_57 : decode cX12_evenings 57 = .ok (.iaload, 1) := by decide +kernel
theorem dX12_evenings_58 : decode cX12_evenings 58 = .ok (.iastore, 1) := by decide +kernel
theorem dX12_evenings_59 : decode cX12_evenings 59 = .ok (.aload_n 0, 1) := by decide +kernel
theorem dX12_evenings_60 : decode cX12_evenings 60 = .ok (.getfield 13, 3) := by decide +kernel
theorem dX12_evenings_63 : decode cX12_evenings 63 = .ok (.bipush 47, 2) := by decide +kernel
theorem dX12_evenings_65 : decode cX12_evenings 65 = .ok (.iload_n 1, 1) := by decide +kernel
theorem dX12_evenings_66 : decode cX12_evenings 66 = .ok (.iadd, 1) := by decide +kernel
theorem dX12_evenings_67 : decode cX12_evenings 67 = .ok (.iconst 0, 1) := by decide +kernel
theorem dX12_evenings_68 : decode cX12_evenings 68 = .ok (.iastore, 1) := by decide +kernel
theorem dX12_evenings_69 : decode cX12_evenings 69 = .ok (.aload_n 0, 1) := by decide +kernel
theorem dX12_evenings_70 : decode cX12_evenings 70 = .ok (.getfield 13, 3) := by decide +kernel
theorem dX12_evenings_73 : decode cX12_evenings 73 = .ok (.bipush 53, 2) := by decide +kernel
theorem dX12_evenings_75 : decode cX12_evenings 75 = .ok (.iload_n 1, 1) := by decide +kernel
theorem dX12_evenings_76 : decode cX12_evenings 76 = .ok (.iadd, 1) := by decide +kernel
theorem dX12_evenings_77 : decode cX12_evenings 77 = .ok (.iconst 0, 1) := by decide +kernel
theorem dX12_evenings_78 : decode cX12_evenings 78 = .ok (.iastore, 1) := by decide +kernel
theorem dX12_evenings_79 : decode cX12_evenings 79 = .ok (.aload_n 0, 1) := by decide +kernel
theorem dX12_evenings_80 : decode cX12_evenings 80 = .ok (.getfield 13, 3) := by decide +kernel
theorem dX12_evenings_83 : decode cX12_evenings 83 = .ok (.bipush 59, 2) := by decide +kernel
theorem dX12_evenings_85 : decode cX12_evenings 85 = .ok (.iload_n 1, 1) := by decide +kernel
theorem dX12_evenings_86 : decode cX12_evenings 86 = .ok (.iadd, 1) := by decide +kernel
theorem dX12_evenings_87 : decode cX12_evenings 87 = .ok (.iconst 0, 1) := by decide +kernel
theorem dX12_evenings_88 : decode cX12_evenings 88 = .ok (.iastore, 1) := by decide +kernel
theorem dX12_evenings_89 : decode cX12_evenings 89 = .ok (.iinc 1 1, 3) := by decide +kernel
theorem dX12_evenings_92 : decode cX12_evenings 92 = .ok (.goto (-57), 3) := by decide +kernel
theorem dX12_evenings_95 : decode cX12_evenings 95 = .ok (.return_, 1) := by decide +kernel
def r_evenings_35 (F : Nat) (z : Nat) : Nat → Int32 → (Nat → Nat → Int32) → Option (Int32 × (Nat → Nat → Int32))
  | 0, _, _ => none
  | k + 1, l1, I => if 6 ≤ l1 then (some (l1, I)) else (chk (10 + l1) 3891 (chk (41 + l1) 3891 (let I10 := uI I (z + 1) (Int32.toNatClampNeg (41 + l1)) (I (z + 1) (Int32.toNatClampNeg (10 + l1))); chk (47 + l1) 3891 (let I13 := uI I10 (z + 1) (Int32.toNatClampNeg (47 + l1)) 0; chk (53 + l1) 3891 (let I16 := uI I13 (z + 1) (Int32.toNatClampNeg (53 + l1)) 0; chk (59 + l1) 3891 (let I19 := uI I16 (z + 1) (Int32.toNatClampNeg (59 + l1)) 0; r_evenings_35 F z k (l1 + 1) I19))))))
def r_evenings (F : Nat) (I : Nat → Nat → Int32) (z : Nat) : Option ((Nat → Nat → Int32)) := let I1 := uI I (z + 1) (Int32.toNatClampNeg 32) ((1 <<< ((I (z + 1) (Int32.toNatClampNeg 1)) &&& 31)) - 1); let I3 := uI I1 (z + 1) (Int32.toNatClampNeg 33) 0; let I5 := uI I3 (z + 1) (Int32.toNatClampNeg 34) 0; (r_evenings_35 F z F 0 I5).bind (fun q21 => let m23 := q21.1; let I24 := q21.2; some I24)
theorem l_r_evenings_35 {l : Launch} {D : va_G} {E : Nat → ClassId} {B : Nat → Prop} {n F : Nat} {Q : Option Value → HT → Prop} {T : Nat → Option (Nat × Nat)} {J : Nat → Nat → Int64} {P : Nat → Nat → Option Nat} {z : Nat}  (hs_z : isMd T P z)  (r : Int32 × (Nat → Nat → Int32)) : ∀ (k : Nat) (l1 : Int32) (I : (Nat → Nat → Int32)), r_evenings_35 F z k l1 I = some r → V l D E B yX12_evenings cX12_evenings 2 none 0 0 0 Q 0 0 (n, T, r.2, J, P) 95 [(0, some (.ref z)), (1, some (.int (r.1)))] [] → V l D E B yX12_evenings cX12_evenings 2 none 0 0 0 Q 0 0 (n, T, I, J, P) 35 [(0, some (.ref z)), (1, some (.int l1))] [] := by
  intro k
  induction k with
  | zero =>
    intro l1 I hf hk
    cases hf
  | succ k ih =>
    intro l1 I hf hk
    unfold r_evenings_35 at hf
    refine V.iload_n dX12_evenings_35 rfl ?_
    refine V.bipush (v := 6) dX12_evenings_36 (by decide) ?_
    refine V.icmp_ge 95 dX12_evenings_38 (by decide) (fun c7 => ?_) (fun c7 => ?_)
    · rw [if_pos c7] at hf
      obtain rfl := Option.some.inj hf
      exact V.lo [(0, some (.ref z)), (1, some (.int l1))] (by simp only [Subs]; repeat' first | exact trivial | constructor | rfl) hk
    · rw [if_neg c7] at hf
      refine V.aload_n dX12_evenings_41 rfl ?_
      refine V.getr fl_X12_13 dX12_evenings_42 (hs_z.1 0 (12, 0) rfl) (hs_z.2 0 1 1 rfl) (by decide) rfl ?_
      refine V.bipush (v := 41) dX12_evenings_45 (by decide) ?_
      refine V.iload_n dX12_evenings_47 rfl ?_
      refine V.iadd dX12_evenings_48 ?_
      refine V.aload_n dX12_evenings_49 rfl ?_
      refine V.getr fl_X12_13 dX12_evenings_50 (hs_z.1 0 (12, 0) rfl) (hs_z.2 0 1 1 rfl) (by decide) rfl ?_
      refine V.bipush (v := 10) dX12_evenings_53 (by decide) ?_
      refine V.iload_n dX12_evenings_55 rfl ?_
      refine V.iadd dX12_evenings_56 ?_
      obtain ⟨hb8, hf⟩ := chk_some hf
      refine V.iald dX12_evenings_57 (hs_z.1 1 (20, 3891) rfl) hb8 ?_
      obtain ⟨hb9, hf⟩ := chk_some hf
      refine V.iastE dX12_evenings_58 (hs_z.1 1 (20, 3891) rfl) hb9 (fun I10 e11 => ?_)
      rw [← e11] at hf
      try dsimp only at hf
      clear e11
      refine V.aload_n dX12_evenings_59 rfl ?_
      refine V.getr fl_X12_13 dX12_evenings_60 (hs_z.1 0 (12, 0) rfl) (hs_z.2 0 1 1 rfl) (by decide) rfl ?_
      refine V.bipush (v := 47) dX12_evenings_63 (by decide) ?_
      refine V.iload_n dX12_evenings_65 rfl ?_
      refine V.iadd dX12_evenings_66 ?_
      refine V.iconst (v := 0) dX12_evenings_67 (by decide) ?_
      obtain ⟨hb12, hf⟩ := chk_some hf
      refine V.iastE dX12_evenings_68 (hs_z.1 1 (20, 3891) rfl) hb12 (fun I13 e14 => ?_)
      rw [← e14] at hf
      try dsimp only at hf
      clear e14
      refine V.aload_n dX12_evenings_69 rfl ?_
      refine V.getr fl_X12_13 dX12_evenings_70 (hs_z.1 0 (12, 0) rfl) (hs_z.2 0 1 1 rfl) (by decide) rfl ?_
      refine V.bipush (v := 53) dX12_evenings_73 (by decide) ?_
      refine V.iload_n dX12_evenings_75 rfl ?_
      refine V.iadd dX12_evenings_76 ?_
      refine V.iconst (v := 0) dX12_evenings_77 (by decide) ?_
      obtain ⟨hb15, hf⟩ := chk_some hf
      refine V.iastE dX12_evenings_78 (hs_z.1 1 (20, 3891) rfl) hb15 (fun I16 e17 => ?_)
      rw [← e17] at hf
      try dsimp only at hf
      clear e17
      refine V.aload_n dX12_evenings_79 rfl ?_
      refine V.getr fl_X12_13 dX12_evenings_80 (hs_z.1 0 (12, 0) rfl) (hs_z.2 0 1 1 rfl) (by decide) rfl ?_
      refine V.bipush (v := 59) dX12_evenings_83 (by decide) ?_
      refine V.iload_n dX12_evenings_85 rfl ?_
      refine V.iadd dX12_evenings_86 ?_
      refine V.iconst (v := 0) dX12_evenings_87 (by decide) ?_
      obtain ⟨hb18, hf⟩ := chk_some hf
      refine V.iastE dX12_evenings_88 (hs_z.1 1 (20, 3891) rfl) hb18 (fun I19 e20 => ?_)
      rw [← e20] at hf
      try dsimp only at hf
      clear e20
      refine V.iinc (v := (l1 + 1)) dX12_evenings_89 rfl rfl (by first | exact rfl | exact trivial) ?_
      refine V.goto 35 dX12_evenings_92 (by decide) ?_
      exact V.lo [(0, some (.ref z)), (1, some (.int (l1 + 1)))] (by simp only [Subs]; repeat' first | exact trivial | constructor | rfl) (ih _ _ hf hk)
theorem c_r_evenings {l : Launch} {D : va_G} {E : Nat → ClassId} {B : Nat → Prop} {n F : Nat} {T : Nat → Option (Nat × Nat)} {I : Nat → Nat → Int32} {J : Nat → Nat → Int64} {P : Nat → Nat → Option Nat} {z : Nat}  {r : (Nat → Nat → Int32)} (hs_z : isMd T P z) (hf : r_evenings F I z = some r) : Ct l D E B yX12_evenings cX12_evenings 2 none 0 0 0 [.ref z] (n, T, I, J, P) (Ret (none) (n, T, r, J, P)) := by
  unfold r_evenings at hf
  refine Ct.ofV (by decide) (Nat.le_of_ble_eq_true rfl) ?_
  refine V.aload_n dX12_evenings_0 rfl ?_
  refine V.getr fl_X12_13 dX12_evenings_1 (hs_z.1 0 (12, 0) rfl) (hs_z.2 0 1 1 rfl) (by decide) rfl ?_
  refine V.bipush (v := 32) dX12_evenings_4 (by decide) ?_
  refine V.iconst (v := 1) dX12_evenings_6 (by decide) ?_
  refine V.aload_n dX12_evenings_7 rfl ?_
  refine V.getr fl_X12_13 dX12_evenings_8 (hs_z.1 0 (12, 0) rfl) (hs_z.2 0 1 1 rfl) (by decide) rfl ?_
  refine V.iconst (v := 1) dX12_evenings_11 (by decide) ?_
  refine V.iald dX12_evenings_12 (hs_z.1 1 (20, 3891) rfl) (vp_lit (by decide)) ?_
  refine V.ishl dX12_evenings_13 ?_
  refine V.iconst (v := 1) dX12_evenings_14 (by decide) ?_
  refine V.isub dX12_evenings_15 ?_
  refine V.iastE dX12_evenings_16 (hs_z.1 1 (20, 3891) rfl) (vp_lit (by decide)) (fun I1 e2 => ?_)
  rw [← e2] at hf
  try dsimp only at hf
  clear e2
  refine V.aload_n dX12_evenings_17 rfl ?_
  refine V.getr fl_X12_13 dX12_evenings_18 (hs_z.1 0 (12, 0) rfl) (hs_z.2 0 1 1 rfl) (by decide) rfl ?_
  refine V.bipush (v := 33) dX12_evenings_21 (by decide) ?_
  refine V.iconst (v := 0) dX12_evenings_23 (by decide) ?_
  refine V.iastE dX12_evenings_24 (hs_z.1 1 (20, 3891) rfl) (vp_lit (by decide)) (fun I3 e4 => ?_)
  rw [← e4] at hf
  try dsimp only at hf
  clear e4
  refine V.aload_n dX12_evenings_25 rfl ?_
  refine V.getr fl_X12_13 dX12_evenings_26 (hs_z.1 0 (12, 0) rfl) (hs_z.2 0 1 1 rfl) (by decide) rfl ?_
  refine V.bipush (v := 34) dX12_evenings_29 (by decide) ?_
  refine V.iconst (v := 0) dX12_evenings_31 (by decide) ?_
  refine V.iastE dX12_evenings_32 (hs_z.1 1 (20, 3891) rfl) (vp_lit (by decide)) (fun I5 e6 => ?_)
  rw [← e6] at hf
  try dsimp only at hf
  clear e6
  refine V.iconst (v := 0) dX12_evenings_33 (by decide) ?_
  refine V.istore_n dX12_evenings_34 rfl (by decide) (by first | exact rfl | exact trivial) ?_
  obtain ⟨⟨m23, I24⟩, hk22, hf⟩ := bnd_some hf
  try dsimp only at hf
  refine V.lo [(0, some (.ref z)), (1, some (.int 0))] (by simp only [Subs]; repeat' first | exact trivial | constructor | rfl) (l_r_evenings_35 hs_z _ F _ _ hk22 ?_)
  try dsimp only
  obtain rfl := Option.some.inj hf
  exact V.vret dX12_evenings_95 rfl (Nat.le_refl _) (Nat.le_refl _) ⟨rfl, rfl⟩
theorem dX12_besideOf_0 : decode cX12_besideOf 0 = .ok (.iconst 0, 1) := by decide +kernel
theorem dX12_besideOf_1 : decode cX12_besideOf 1 = .ok (.istore_n 2, 1) := by decide +kernel
theorem dX12_besideOf_2 : decode cX12_besideOf 2 = .ok (.iconst 0, 1) := by decide +kernel
theorem dX12_besideOf_3 : decode cX12_besideOf 3 = .ok (.istore_n 3, 1) := by decide +kernel
theorem dX12_besideOf_4 : decode cX12_besideOf 4 = .ok (.iload_n 3, 1) := by decide +kernel
theorem dX12_besideOf_5 : decode cX12_besideOf 5 = .ok (.aload_n 0, 1) := by decide +kernel
theorem dX12_besideOf_6 : decode cX12_besideOf 6 = .ok (.getfield 13, 3) := by decide +kernel
theorem dX12_besideOf_9 : decode cX12_besideOf 9 = .ok (.iconst 1, 1) := by decide +kernel
theorem dX12_besideOf_10 : decode cX12_besideOf 10 = .ok (.iaload, 1) := by decide +kernel
theorem dX12_besideOf_11 : decode cX12_besideOf 11 = .ok (.if_icmp .ge 60, 3) := by decide +kernel
theorem dX12_besideOf_14 : decode cX12_besideOf 14 = .ok (.iload_n 2, 1) := by decide +kernel
theorem dX12_besideOf_15 : decode cX12_besideOf 15 = .ok (.aload_n 0, 1) := by decide +kernel
theorem dX12_besideOf_16 : decode cX12_besideOf 16 = .ok (.iload_n 3, 1) := by decide +kernel
theorem dX12_besideOf_17 : decode cX12_besideOf 17 = .ok (.invokevirtual 218, 3) := by decide +kernel
theorem dX12_besideOf_20 : decode cX12_besideOf 20 = .ok (.ifCond .eq 42, 3) := by decide +kernel
theorem dX12_besideOf_23 : decode cX12_besideOf 23 = .ok (.aload_n 0, 1) := by decide +kernel
theorem dX12_besideOf_24 : decode cX12_besideOf 24 = .ok (.getfield 13, 3) := by decide +kernel
theorem dX12_besideOf_27 : decode cX12_besideOf 27 = .ok (.bipush 35, 2) := by decide +kernel
theorem dX12_besideOf_29 : decode cX12_besideOf 29 = .ok (.iload_n 1, 1) := by decide +kernel
theorem dX12_besideOf_30 : decode cX12_besideOf 30 = .ok (.iadd, 1) := by decide +kernel
theorem dX12_besideOf_31 : decode cX12_besideOf 31 = .ok (.iaload, 1) := by decide +kernel
theorem dX12_besideOf_32 : decode cX12_besideOf 32 = .ok (.aload_n 0, 1) := by decide +kernel
theorem dX12_besideOf_33 : decode cX12_besideOf 33 = .ok (.getfield 13, 3) := by decide +kernel
theorem dX12_besideOf_36 : decode cX12_besideOf 36 = .ok (.bipush 35, 2) := by decide +kernel
theorem dX12_besideOf_38 : decode cX12_besideOf 38 = .ok (.iload_n 3, 1) := by decide +kernel
theorem dX12_besideOf_39 : decode cX12_besideOf 39 = .ok (.iadd, 1) := by decide +kernel
theorem dX12_besideOf_40 : decode cX12_besideOf 40 = .ok (.iaload, 1) := by decide +kernel
theorem dX12_besideOf_41 : decode cX12_besideOf 41 = .ok (.isub, 1) := by decide +kernel
theorem dX12_besideOf_42 : decode cX12_besideOf 42 = .ok (.i2l, 1) := by decide +kernel
theorem dX12_besideOf_43 : decode cX12_besideOf 43 = .ok (.ldc2_w 221, 3) := by decide +kernel
theorem dX12_besideOf_46 : decode cX12_besideOf 46 = .ok (.lconst 1, 1) := by decide +kernel
theorem dX12_besideOf_47 : decode cX12_besideOf 47 = .ok (.invokestatic 145, 3) := by decide +kernel
theorem dX12_besideOf_50 : decode cX12_besideOf 50 = .ok (.ifCond .eq 12, 3) := by decide +kernel
theorem dX12_besideOf_53 : decode cX12_besideOf 53 = .ok (.iload_n 3, 1) := by decide +kernel
theorem dX12_besideOf_54 : decode cX12_besideOf 54 = .ok (.iload_n 1, 1) := by decide +kernel
theorem dX12_besideOf_55 : decode cX12_besideOf 55 = .ok (.if_icmp .eq 7, 3) := by decide +kernel
theorem dX12_besideOf_58 : decode cX12_besideOf 58 = .ok (.iconst 1, 1) := by decide +kernel
theorem dX12_besideOf_59 : decode cX12_besideOf 59 = .ok (.goto 4, 3) := by decide +kernel
theorem dX12_besideOf_62 : decode cX12_besideOf 62 = .ok (.iconst 0, 1) := by decide +kernel
theorem dX12_besideOf_63 : decode cX12_besideOf 63 = .ok (.iadd, 1) := by decide +kernel
theorem dX12_besideOf_64 : decode cX12_besideOf 64 = .ok (.istore_n 2, 1) := by decide +kernel
theorem dX12_besideOf_65 : decode cX12_besideOf 65 = .ok (.iinc 3 1, 3) := by decide +kernel
theorem dX12_besideOf_68 : decode cX12_besideOf 68 = .ok (.goto (-64), 3) := by decide +kernel
theorem dX12_besideOf_71 : decode cX12_besideOf 71 = .ok (.iload_n 2, 1) := by decide +kernel
theorem dX12_besideOf_72 : decode cX12_besideOf 72 = .ok (.ireturn, 1) := by decide +kernel
def r_besideOf_4 (F : Nat) (I : Nat → Nat → Int32) (z : Nat) (g1 : Int32) : Nat → Int32 → Int32 → Option (Int32 × Int32)
  | 0, _, _ => none
  | k + 1, l2, l3 => if (I (z + 1) (Int32.toNatClampNeg 1)) ≤ l3 then (some (l2, l3)) else ((r_isUp I z l3).bind (fun q2 => let u4 := q2; if u4 = 0 then (let x6 := (l2 + 0); r_besideOf_4 F I z g1 k x6 (l3 + 1)) else (chk (35 + g1) 3891 (chk (35 + l3) 3891 (if (r_within (Int32.toInt64 ((I (z + 1) (Int32.toNatClampNeg (35 + g1))) - (I (z + 1) (Int32.toNatClampNeg (35 + l3))))) (-1) 1) = 0 then (let x11 := (l2 + 0); r_besideOf_4 F I z g1 k x11 (l3 + 1)) else (if l3 = g1 then (let x14 := (l2 + 0); r_besideOf_4 F I z g1 k x14 (l3 + 1)) else (let x16 := (l2 + 1); r_besideOf_4 F I z g1 k x16 (l3 + 1))))))))
def r_besideOf (F : Nat) (I : Nat → Nat → Int32) (z : Nat) (v1 : Int32) : Option (Int32) := (r_besideOf_4 F I z v1 F 0 0).bind (fun q18 => let m20 := q18.1; let m21 := q18.2; some m20)
theorem l_r_besideOf_4 {l : Launch} {D : va_G} {E : Nat → ClassId} {B : Nat → Prop} {n F : Nat} {Q : Option Value → HT → Prop} {T : Nat → Option (Nat × Nat)} {I : Nat → Nat → Int32} {J : Nat → Nat → Int64} {P : Nat → Nat → Option Nat} {z : Nat} {g1 : Int32} (hs_z : isMd T P z)  (r : Int32 × Int32) : ∀ (k : Nat) (l2 : Int32) (l3 : Int32), r_besideOf_4 F I z g1 k l2 l3 = some r → V l D E B yX12_besideOf cX12_besideOf 4 (some .int) 2 0 0 Q 0 0 (n, T, I, J, P) 71 [(0, some (.ref z)), (1, some (.int g1)), (2, some (.int (r.1))), (3, some (.int (r.2)))] [] → V l D E B yX12_besideOf cX12_besideOf 4 (some .int) 2 0 0 Q 0 0 (n, T, I, J, P) 4 [(0, some (.ref z)), (1, some (.int g1)), (2, some (.int l2)), (3, some (.int l3))] [] := by
  intro k
  induction k with
  | zero =>
    intro l2 l3 hf hk
    cases hf
  | succ k ih =>
    intro l2 l3 hf hk
    unfold r_besideOf_4 at hf
    refine V.iload_n dX12_besideOf_4 rfl ?_
    refine V.aload_n dX12_besideOf_5 rfl ?_
    refine V.getr fl_X12_13 dX12_besideOf_6 (hs_z.1 0 (12, 0) rfl) (hs_z.2 0 1 1 rfl) (by decide) rfl ?_
    refine V.iconst (v := 1) dX12_besideOf_9 (by decide) ?_
    refine V.iald dX12_besideOf_10 (hs_z.1 1 (20, 3891) rfl) (vp_lit (by decide)) ?_
    refine V.icmp_ge 71 dX12_besideOf_11 (by decide) (fun c1 => ?_) (fun c1 => ?_)
    · rw [if_pos c1] at hf
      obtain rfl := Option.some.inj hf
      exact V.lo [(0, some (.ref z)), (1, some (.int g1)), (2, some (.int l2)), (3, some (.int l3))] (by simp only [Subs]; repeat' first | exact trivial | constructor | rfl) hk
    · rw [if_neg c1] at hf
      refine V.iload_n dX12_besideOf_14 rfl ?_
      refine V.aload_n dX12_besideOf_15 rfl ?_
      refine V.iload_n dX12_besideOf_16 rfl ?_
      obtain ⟨u4, hk3, hf⟩ := bnd_some hf
      try dsimp only at hf
      refine V.inv cv_X12_218 (c_r_isUp hs_z hk3) dX12_besideOf_17 (hs_z.1 0 (12, 0) rfl) (by decide) rfl rfl rfl (Nat.le_of_ble_eq_true rfl) (by decide) (by decide) (Nat.le_refl _) (Nat.le_refl _) (fun _ _ hq => ?_)
      obtain ⟨rfl, rfl⟩ := hq
      refine V.if_eq 62 dX12_besideOf_20 (by decide) (fun c5 => ?_) (fun c5 => ?_)
      · rw [if_pos c5] at hf
        refine V.iconst (v := 0) dX12_besideOf_62 (by decide) ?_
        refine V.iadd dX12_besideOf_63 ?_
        refine V.istore_n dX12_besideOf_64 rfl (by decide) (by first | exact rfl | exact trivial) ?_
        obtain ⟨x6, e7⟩ : ∃ zz_, zz_ = (l2 + 0) := ⟨_, rfl⟩
        rw [← e7] at hf ⊢
        try dsimp only at hf
        refine V.iinc (v := (l3 + 1)) dX12_besideOf_65 rfl rfl (by first | exact rfl | exact trivial) ?_
        refine V.goto 4 dX12_besideOf_68 (by decide) ?_
        exact V.lo [(0, some (.ref z)), (1, some (.int g1)), (2, some (.int x6)), (3, some (.int (l3 + 1)))] (by simp only [Subs]; repeat' first | exact trivial | constructor | rfl) (ih _ _ hf hk)
      · rw [if_neg c5] at hf
        refine V.aload_n dX12_besideOf_23 rfl ?_
        refine V.getr fl_X12_13 dX12_besideOf_24 (hs_z.1 0 (12, 0) rfl) (hs_z.2 0 1 1 rfl) (by decide) rfl ?_
        refine V.bipush (v := 35) dX12_besideOf_27 (by decide) ?_
        refine V.iload_n dX12_besideOf_29 rfl ?_
        refine V.iadd dX12_besideOf_30 ?_
        obtain ⟨hb8, hf⟩ := chk_some hf
        refine V.iald dX12_besideOf_31 (hs_z.1 1 (20, 3891) rfl) hb8 ?_
        refine V.aload_n dX12_besideOf_32 rfl ?_
        refine V.getr fl_X12_13 dX12_besideOf_33 (hs_z.1 0 (12, 0) rfl) (hs_z.2 0 1 1 rfl) (by decide) rfl ?_
        refine V.bipush (v := 35) dX12_besideOf_36 (by decide) ?_
        refine V.iload_n dX12_besideOf_38 rfl ?_
        refine V.iadd dX12_besideOf_39 ?_
        obtain ⟨hb9, hf⟩ := chk_some hf
        refine V.iald dX12_besideOf_40 (hs_z.1 1 (20, 3891) rfl) hb9 ?_
        refine V.isub dX12_besideOf_41 ?_
        refine V.i2l dX12_besideOf_42 ?_
        refine V.ldc2 dX12_besideOf_43 kc_X12_221 ?_
        refine V.lconst (v := 1) dX12_besideOf_46 (by decide) ?_
        refine V.ins cs_X12_145 (c_r_within) dX12_besideOf_47 rfl rfl (Nat.le_of_ble_eq_true rfl) (by decide) (by decide) (Nat.le_refl _) (Nat.le_refl _) (fun _ _ hq => ?_)
        obtain ⟨rfl, rfl⟩ := hq
        refine V.if_eq 62 dX12_besideOf_50 (by decide) (fun c10 => ?_) (fun c10 => ?_)
        · rw [if_pos c10] at hf
          refine V.iconst (v := 0) dX12_besideOf_62 (by decide) ?_
          refine V.iadd dX12_besideOf_63 ?_
          refine V.istore_n dX12_besideOf_64 rfl (by decide) (by first | exact rfl | exact trivial) ?_
          obtain ⟨x11, e12⟩ : ∃ zz_, zz_ = (l2 + 0) := ⟨_, rfl⟩
          rw [← e12] at hf ⊢
          try dsimp only at hf
          refine V.iinc (v := (l3 + 1)) dX12_besideOf_65 rfl rfl (by first | exact rfl | exact trivial) ?_
          refine V.goto 4 dX12_besideOf_68 (by decide) ?_
          exact V.lo [(0, some (.ref z)), (1, some (.int g1)), (2, some (.int x11)), (3, some (.int (l3 + 1)))] (by simp only [Subs]; repeat' first | exact trivial | constructor | rfl) (ih _ _ hf hk)
        · rw [if_neg c10] at hf
          refine V.iload_n dX12_besideOf_53 rfl ?_
          refine V.iload_n dX12_besideOf_54 rfl ?_
          refine V.icmp_eq 62 dX12_besideOf_55 (by decide) (fun c13 => ?_) (fun c13 => ?_)
          · rw [if_pos c13] at hf
            refine V.iconst (v := 0) dX12_besideOf_62 (by decide) ?_
            refine V.iadd dX12_besideOf_63 ?_
            refine V.istore_n dX12_besideOf_64 rfl (by decide) (by first | exact rfl | exact trivial) ?_
            obtain ⟨x14, e15⟩ : ∃ zz_, zz_ = (l2 + 0) := ⟨_, rfl⟩
            rw [← e15] at hf ⊢
            try dsimp only at hf
            refine V.iinc (v := (l3 + 1)) dX12_besideOf_65 rfl rfl (by first | exact rfl | exact trivial) ?_
            refine V.goto 4 dX12_besideOf_68 (by decide) ?_
            exact V.lo [(0, some (.ref z)), (1, some (.int g1)), (2, some (.int x14)), (3, some (.int (l3 + 1)))] (by simp only [Subs]; repeat' first | exact trivial | constructor | rfl) (ih _ _ hf hk)
          · rw [if_neg c13] at hf
            refine V.iconst (v := 1) dX12_besideOf_58 (by decide) ?_
            refine V.goto 63 dX12_besideOf_59 (by decide) ?_
            refine V.iadd dX12_besideOf_63 ?_
            refine V.istore_n dX12_besideOf_64 rfl (by decide) (by first | exact rfl | exact trivial) ?_
            obtain ⟨x16, e17⟩ : ∃ zz_, zz_ = (l2 + 1) := ⟨_, rfl⟩
            rw [← e17] at hf ⊢
            try dsimp only at hf
            refine V.iinc (v := (l3 + 1)) dX12_besideOf_65 rfl rfl (by first | exact rfl | exact trivial) ?_
            refine V.goto 4 dX12_besideOf_68 (by decide) ?_
            exact V.lo [(0, some (.ref z)), (1, some (.int g1)), (2, some (.int x16)), (3, some (.int (l3 + 1)))] (by simp only [Subs]; repeat' first | exact trivial | constructor | rfl) (ih _ _ hf hk)
theorem c_r_besideOf {l : Launch} {D : va_G} {E : Nat → ClassId} {B : Nat → Prop} {n F : Nat} {T : Nat → Option (Nat × Nat)} {I : Nat → Nat → Int32} {J : Nat → Nat → Int64} {P : Nat → Nat → Option Nat} {z : Nat} {v1 : Int32} {r : Int32} (hs_z : isMd T P z) (hf : r_besideOf F I z v1 = some r) : Ct l D E B yX12_besideOf cX12_besideOf 4 (some .int) 2 0 0 [.ref z, .int v1] (n, T, I, J, P) (Ret (some (.int r)) (n, T, I, J, P)) := by
  unfold r_besideOf at hf
  refine Ct.ofV (by decide) (Nat.le_of_ble_eq_true rfl) ?_
  refine V.iconst (v := 0) dX12_besideOf_0 (by decide) ?_
  refine V.istore_n dX12_besideOf_1 rfl (by decide) (by first | exact rfl | exact trivial) ?_
  refine V.iconst (v := 0) dX12_besideOf_2 (by decide) ?_
  refine V.istore_n dX12_besideOf_3 rfl (by decide) (by first | exact rfl | exact trivial) ?_
  obtain ⟨⟨m20, m21⟩, hk19, hf⟩ := bnd_some hf
  try dsimp only at hf
  refine V.lo [(0, some (.ref z)), (1, some (.int v1)), (2, some (.int 0)), (3, some (.int 0))] (by simp only [Subs]; repeat' first | exact trivial | constructor | rfl) (l_r_besideOf_4 hs_z _ F _ _ hk19 ?_)
  try dsimp only
  refine V.iload_n dX12_besideOf_71 rfl ?_
  obtain rfl := Option.some.inj hf
  exact V.iret dX12_besideOf_72 rfl (Nat.le_refl _) (Nat.le_refl _) ⟨rfl, rfl⟩
theorem dX12_reckons_0 : decode cX12_reckons 0 = .ok (.aload_n 0, 1) := by decide +kernel
theorem dX12_reckons_1 : decode cX12_reckons 1 = .ok (.getfield 13, 3) := by decide +kernel
theorem dX12_reckons_4 : decode cX12_reckons 4 = .ok (.iconst 4, 1) := by decide +kernel
theorem dX12_reckons_5 : decode cX12_reckons 5 = .ok (.iload_n 1, 1) := by decide +kernel
theorem dX12_reckons_6 : decode cX12_reckons 6 = .ok (.iadd, 1) := by decide +kernel
theorem dX12_reckons_7 : decode cX12_reckons 7 = .ok (.iaload, 1) := by decide +kernel
theorem dX12_reckons_8 : decode cX12_reckons 8 = .ok (.ifCond .ne 5, 3) := by decide +kernel
theorem dX12_reckons_11 : decode cX12_reckons 11 = .ok (.iconst 1, 1) := by decide +kernel
theorem dX12_reckons_12 : decode cX12_reckons 12 = .ok (.ireturn, 1) := by decide +kernel
theorem dX12_reckons_13 : decode cX12_reckons 13 = .ok (.aload_n 0, 1) := by decide +kernel
theorem dX12_reckons_14 : decode cX12_reckons 14 = .ok (.getfield 33, 3) := by decide +kernel
theorem dX12_reckons_17 : decode cX12_reckons 17 = .ok (.iconst 0, 1) := by decide +kernel
theorem dX12_reckons_18 : decode cX12_reckons 18 = .ok (.iload_n 2, 1) := by decide +kernel
theorem dX12_reckons_19 : decode cX12_reckons 19 = .ok (.iastore, 1) := by decide +kernel
theorem dX12_reckons_20 : decode cX12_reckons 20 = .ok (.aload_n 0, 1) := by decide +kernel
theorem dX12_reckons_21 : decode cX12_reckons 21 = .ok (.getfield 33, 3) := by decide +kernel
theorem dX12_reckons_24 : decode cX12_reckons 24 = .ok (.iconst 1, 1) := by decide +kernel
theorem dX12_reckons_25 : decode cX12_reckons 25 = .ok (.aload_n 0, 1) := by decide +kernel
theorem dX12_reckons_26 : decode cX12_reckons 26 = .ok (.getfield 13, 3) := by decide +kernel
theorem dX12_reckons_29 : decode cX12_reckons 29 = .ok (.bipush 16, 2) := by decide +kernel
theorem dX12_reckons_31 : decode cX12_reckons 31 = .ok (.iload_n 2, 1) := by decide +kernel
theorem dX12_reckons_32 : decode cX12_reckons 32 = .ok (.iadd, 1) := by decide +kernel
theorem dX12_reckons_33 : decode cX12_reckons 33 = .ok (.iaload, 1) := by decide +kernel
theorem dX12_reckons_34 : decode cX12_reckons 34 = .ok (.iastore, 1) := by decide +kernel
theorem dX12_reckons_35 : decode cX12_reckons 35 = .ok (.aload_n 0, 1) := by decide +kernel
theorem dX12_reckons_36 : decode cX12_reckons 36 = .ok (.getfield 33, 3) := by decide +kernel
theorem dX12_reckons_39 : decode cX12_reckons 39 = .ok (.iconst 2, 1) := by decide +kernel
theorem dX12_reckons_40 : decode cX12_reckons 40 = .ok (.aload_n 0, 1) := by decide +kernel
theorem dX12_reckons_41 : decode cX12_reckons 41 = .ok (.getfield 13, 3) := by decide +kernel
theorem dX12_reckons_44 : decode cX12_reckons 44 = .ok (.bipush 41, 2) := by decide +kernel
theorem dX12_reckons_46 : decode cX12_reckons 46 = .ok (.iload_n 2, 1) := by decide +kernel
theorem dX12_reckons_47 : decode cX12_reckons 47 = .ok (.iadd, 1) := by decide +kernel
theorem dX12_reckons_48 : decode cX12_reckons 48 = .ok (.iaload, 1) := by decide +kernel
theorem dX12_reckons_49 : decode cX12_reckons 49 = .ok (.iastore, 1) := by decide +kernel
theorem dX12_reckons_50 : decode cX12_reckons 50 = .ok (.aload_n 0, 1) := by decide +kernel
theorem dX12_reckons_51 : decode cX12_reckons 51 = .ok (.getfield 33, 3) := by decide +kernel
theorem dX12_reckons_54 : decode cX12_reckons 54 = .ok (.iconst 3, 1) := by decide +kernel
theorem dX12_reckons_55 : decode cX12_reckons 55 = .ok (.iload_n 3, 1) := by decide +kernel
theorem dX12_reckons_56 : decode cX12_reckons 56 = .ok (.iastore, 1) := by decide +kernel
theorem dX12_reckons_57 : decode cX12_reckons 57 = .ok (.aload_n 0, 1) := by decide +kernel
theorem dX12_reckons_58 : decode cX12_reckons 58 = .ok (.getfield 33, 3) := by decide +kernel
theorem dX12_reckons_61 : decode cX12_reckons 61 = .ok (.iconst 4, 1) := by decide +kernel
theorem dX12_reckons_62 : decode cX12_reckons 62 = .ok (.aload_n 0, 1) := by decide +kernel
theorem dX12_reckons_63 : decode cX12_reckons 63 = .ok (.iload_n 2, 1) := by decide +kernel
theorem dX12_reckons_64 : decode cX12_reckons 64 = .ok (.invokevirtual 227, 3) := by decide +kernel
theorem dX12_reckons_67 : decode cX12_reckons 67 = .ok (.iastore, 1) := by decide +kernel
theorem dX12_reckons_68 : decode cX12_reckons 68 = .ok (.aload_n 0, 1) := by decide +kernel
theorem dX12_reckons_69 : decode cX12_reckons 69 = .ok (.getfield 33, 3) := by decide +kernel
theorem dX12_reckons_72 : decode cX12_reckons 72 = .ok (.iconst 5, 1) := by decide +kernel
theorem dX12_reckons_73 : decode cX12_reckons 73 = .ok (.aload_n 0, 1) := by decide +kernel
theorem dX12_reckons_74 : decode cX12_reckons 74 = .ok (.getfield 13, 3) := by decide +kernel
theorem dX12_reckons_77 : decode cX12_reckons 77 = .ok (.bipush 32, 2) := by decide +kernel
theorem dX12_reckons_79 : decode cX12_reckons 79 = .ok (.iaload, 1) := by decide +kernel
theorem dX12_reckons_80 : decode cX12_reckons 80 = .ok (.invokestatic 230, 3) := by decide +kernel
theorem dX12_reckons_83 : decode cX12_reckons 83 = .ok (.iastore, 1) := by decide +kernel
theorem dX12_reckons_84 : decode cX12_reckons 84 = .ok (.aload_n 0, 1) := by decide +kernel
theorem dX12_reckons_85 : decode cX12_reckons 85 = .ok (.getfield 33, 3) := by decide +kernel
theorem dX12_reckons_88 : decode cX12_reckons 88 = .ok (.bipush 6, 2) := by decide +kernel
theorem dX12_reckons_90 : decode cX12_reckons 90 = .ok (.aload_n 0, 1) := by decide +kernel
theorem dX12_reckons_91 : decode cX12_reckons 91 = .ok (.getfield 13, 3) := by decide +kernel
theorem dX12_reckons_94 : decode cX12_reckons 94 = .ok (.bipush 33, 2) := by decide +kernel
theorem dX12_reckons_96 : decode cX12_reckons 96 = .ok (.iaload, 1) := by decide +kernel
theorem dX12_reckons_97 : decode cX12_reckons 97 = .ok (.bipush 99, 2) := by decide +kernel
theorem dX12_reckons_99 : decode cX12_reckons 99 = .ok (.if_icmp .le 8, 3) := by decide +kernel
theorem dX12_reckons_102 : decode cX12_reckons 102 = .ok (.bipush 99, 2) := by decide +kernel
theorem dX12_reckons_104 : decode cX12_reckons 104 = .ok (.goto 10, 3) := by decide +kernel
theorem dX12_reckons_107 : decode cX12_reckons 107 = .ok (.aload_n 0, 1) := by decide +kernel
theorem dX12_reckons_108 : decode cX12_reckons 108 = .ok (.getfield 13, 3) := by decide +kernel
theorem dX12_reckons_111 : decode cX12_reckons 111 = .ok (.bipush 33, 2) := by decide +kernel
theorem dX12_reckons_113 : decode cX12_reckons 113 = .ok (.iaload, 1) := by decide +kernel
theorem dX12_reckons_114 : decode cX12_reckons 114 = .ok (.iastore, 1) := by decide +kernel
theorem dX12_reckons_115 : decode cX12_reckons 115 = .ok (.iconst 0, 1) := by decide +kernel
theorem dX12_reckons_116 : decode cX12_reckons 116 = .ok (.istore 4, 2) := by decide +kernel
theorem dX12_reckons_118 : decode cX12_reckons 118 = .ok (.iconst 0, 1) := by decide +kernel
theorem dX12_reckons_119 : decode cX12_reckons 119 = .ok (.istore 5, 2) := by decide +kernel
theorem dX12_reckons_121 : decode cX12_reckons 121 = .ok (.iload 5, 2) := by decide +kernel
theorem dX12_reckons_123 : decode cX12_reckons 123 = .ok (.aload_n 0, 1) := by decide +kernel
theorem dX12_reckons_124 : decode cX12_reckons 124 = .ok (.getfield 13, 3) := by decide +kernel
theorem dX12_reckons_127 : decode cX12_reckons 127 = .ok (.bipush 8, 2) := by decide +kernel
theorem dX12_reckons_129 : decode cX12_reckons 129 = .ok (.iload_n 1, 1) := by decide +kernel
theorem dX12_reckons_130 : decode cX12_reckons 130 = .ok (.iadd, 1) := by decide +kernel
theorem dX12_reckons_131 : decode cX12_reckons 131 = .ok (.iaload, 1) := by decide +kernel
theorem dX12_reckons_132 : decode cX12_reckons 132 = .ok (.if_icmp .ge 196, 3) := by decide +kernel
theorem dX12_reckons_135 : decode cX12_reckons 135 = .ok (.aload_n 0, 1) := by decide +kernel
theorem dX12_reckons_136 : decode cX12_reckons 136 = .ok (.getfield 13, 3) := by decide +kernel
theorem dX12_reckons_139 : decode cX12_reckons 139 = .ok (.sipush 397, 3) := by decide +kernel
theorem dX12_reckons_142 : decode cX12_reckons 142 = .ok (.aload_n 0, 1) := by decide +kernel
theorem dX12_reckons_143 : decode cX12_reckons 143 = .ok (.getfield 13, 3) := by decide +kernel
theorem dX12_reckons_146 : decode cX12_reckons 146 = .ok (.bipush 6, 2) := by decide +kernel
theorem dX12_reckons_148 : decode cX12_reckons 148 = .ok (.iload_n 1, 1) := by decide +kernel
theorem dX12_reckons_149 : decode cX12_reckons 149 = .ok (.iadd, 1) := by decide +kernel
theorem dX12_reckons_150 : decode cX12_reckons 150 = .ok (.iaload, 1) := by decide +kernel
theorem dX12_reckons_151 : decode cX12_reckons 151 = .ok (.iadd, 1) := by decide +kernel
theorem dX12_reckons_152 : decode cX12_reckons 152 = .ok (.iload 5, 2) := by decide +kernel
theorem dX12_reckons_154 : decode cX12_reckons 154 = .ok (.iadd, 1) := by decide +kernel
theorem dX12_reckons_155 : decode cX12_reckons 155 = .ok (.iaload, 1) := by decide +kernel
theorem dX12_reckons_156 : decode cX12_reckons 156 = .ok (.istore 6, 2) := by decide +kernel
theorem dX12_reckons_158 : decode cX12_reckons 158 = .ok (.iload 6, 2) := by decide +kernel
theorem dX12_reckons_160 : decode cX12_reckons 160 = .ok (.sipush 3000, 3) := by decide +kernel
theorem dX12_reckons_163 : decode cX12_reckons 163 = .ok (.if_icmp .ge 40, 3) := by decide +kernel
theorem dX12_reckons_166 : decode cX12_reckons 166 = .ok (.aload_n 0, 1) := by decide +kernel
theorem dX12_reckons_167 : decode cX12_reckons 167 = .ok (.getfield 30, 3) := by decide +kernel
theorem dX12_reckons_170 : decode cX12_reckons 170 = .ok (.iload 4, 2) := by decide +kernel
theorem dX12_reckons_172 : decode cX12_reckons 172 = .ok (.iload 6, 2) := by decide +kernel
theorem dX12_reckons_174 : decode cX12_reckons 174 = .ok (.sipush 1000, 3) := by decide +kernel
theorem dX12_reckons_177 : decode cX12_reckons 177 = .ok (.if_icmp .ge 8, 3) := by decide +kernel
theorem dX12_reckons_180 : decode cX12_reckons 180 = .ok (.iload 6, 2) := by decide +kernel
theorem dX12_reckons_182 : decode cX12_reckons 182 = .ok (.goto 14, 3) := by decide +kernel
theorem dX12_reckons_185 : decode cX12_reckons 185 = .ok (.aload_n 0, 1) := by decide +kernel
theorem dX12_reckons_186 : decode cX12_reckons 186 = .ok (.getfield 33, 3) := by decide +kernel
theorem dX12_reckons_189 : decode cX12_reckons 189 = .ok (.iload 6, 2) := by decide +kernel
theorem dX12_reckons_191 : decode cX12_reckons 191 = .ok (.sipush 1000, 3) := by decide +kernel
theorem dX12_reckons_194 : decode cX12_reckons 194 = .ok (.isub, 1) := by decide +kernel
theorem dX12_reckons_195 : decode cX12_reckons 195 = .ok (.iaload, 1) := by decide +kernel
theorem dX12_reckons_196 : decode cX12_reckons 196 = .ok (.iastore, 1) := by decide +kernel
theorem dX12_reckons_197 : decode cX12_reckons 197 = .ok (.iinc 4 1, 3) := by decide +kernel
theorem dX12_reckons_200 : decode cX12_reckons 200 = .ok (.goto 122, 3) := by decide +kernel
theorem dX12_reckons_203 : decode cX12_reckons 203 = .ok (.iload 6, 2) := by decide +kernel
theorem dX12_reckons_205 : decode cX12_reckons 205 = .ok (.sipush 3006, 3) := by decide +kernel
theorem dX12_reckons_208 : decode cX12_reckons 208 = .ok (.if_icmp .ne 26, 3) := by decide +kernel
theorem dX12_reckons_211 : decode cX12_reckons 211 = .ok (.aload_n 0, 1) := by decide +kernel
theorem dX12_reckons_212 : decode cX12_reckons 212 = .ok (.getfield 30, 3) := by decide +kernel
theorem dX12_reckons_215 : decode cX12_reckons 215 = .ok (.iload 4, 2) := by decide +kernel
theorem dX12_reckons_217 : decode cX12_reckons 217 = .ok (.iconst 1, 1) := by decide +kernel
theorem dX12_reckons_218 : decode cX12_reckons 218 = .ok (.isub, 1) := by decide +kernel
theorem dX12_reckons_219 : decode cX12_reckons 219 = .ok (.iconst 1, 1) := by decide +kernel
theorem dX12_reckons_220 : decode cX12_reckons 220 = .ok (.aload_n 0, 1) := by decide +kernel
theorem dX12_reckons_221 : decode cX12_reckons 221 = .ok (.getfield 30, 3) := by decide +kernel
theorem dX12_reckons_224 : decode cX12_reckons 224 = .ok (.iload 4, 2) := by decide +kernel
theorem dX12_reckons_226 : decode cX12_reckons 226 = .ok (.iconst 1, 1) := by decide +kernel
theorem dX12_reckons_227 : decode cX12_reckons 227 = .ok (.isub, 1) := by decide +kernel
theorem dX12_reckons_228 : decode cX12_reckons 228 = .ok (.iaload, 1) := by decide +kernel
theorem dX12_reckons_229 : decode cX12_reckons 229 = .ok (.isub, 1) := by decide +kernel
theorem dX12_reckons_230 : decode cX12_reckons 230 = .ok (.iastore, 1) := by decide +kernel
theorem dX12_reckons_231 : decode cX12_reckons 231 = .ok (.goto 91, 3) := by decide +kernel
theorem dX12_reckons_234 : decode cX12_reckons 234 = .ok (.iload 6, 2) := by decide +kernel
theorem dX12_reckons_236 : decode cX12_reckons 236 = .ok (.sipush 3009, 3) := by decide +kernel
theorem dX12_reckons_239 : decode cX12_reckons 239 = .ok (.if_icmp .ne 50, 3) := by decide +kernel
theorem dX12_reckons_242 : decode cX12_reckons 242 = .ok (.iinc 4 (-2), 3) := by decide +kernel
theorem dX12_reckons_245 : decode cX12_reckons 245 = .ok (.aload_n 0, 1) := by decide +kernel
theorem dX12_reckons_246 : decode cX12_reckons 246 = .ok (.getfield 30, 3) := by decide +kernel
theorem dX12_reckons_249 : decode cX12_reckons 249 = .ok (.iload 4, 2) := by decide +kernel
theorem dX12_reckons_251 : decode cX12_reckons 251 = .ok (.iconst 1, 1) := by decide +kernel
theorem dX12_reckons_252 : decode cX12_reckons 252 = .ok (.isub, 1) := by decide +kernel
theorem dX12_reckons_253 : decode cX12_reckons 253 = .ok (.aload_n 0, 1) := by decide +kernel
theorem dX12_reckons_254 : decode cX12_reckons 254 = .ok (.getfield 30, 3) := by decide +kernel
theorem dX12_reckons_257 : decode cX12_reckons 257 = .ok (.iload 4, 2) := by decide +kernel
theorem dX12_reckons_259 : decode cX12_reckons 259 = .ok (.iconst 1, 1) := by decide +kernel
theorem dX12_reckons_260 : decode cX12_reckons 260 = .ok (.isub, 1) := by decide +kernel
theorem dX12_reckons_261 : decode cX12_reckons 261 = .ok (.iaload, 1) := by decide +kernel
theorem dX12_reckons_262 : decode cX12_reckons 262 = .ok (.iconst 1, 1) := by decide +kernel
theorem dX12_reckons_263 : decode cX12_reckons 263 = .ok (.if_icmp .ne 13, 3) := by decide +kernel
theorem dX12_reckons_266 : decode cX12_reckons 266 = .ok (.aload_n 0, 1) := by decide +kernel
theorem dX12_reckons_267 : decode cX12_reckons 267 = .ok (.getfield 30, 3) := by decide +kernel
theorem dX12_reckons_270 : decode cX12_reckons 270 = .ok (.iload 4, 2) := by decide +kernel
theorem dX12_reckons_272 : decode cX12_reckons 272 = .ok (.iaload, 1) := by decide +kernel
theorem dX12_reckons_273 : decode cX12_reckons 273 = .ok (.goto 12, 3) := by decide +kernel
theorem dX12_reckons_276 : decode cX12_reckons 276 = .ok (.aload_n 0, 1) := by decide +kernel
theorem dX12_reckons_277 : decode cX12_reckons 277 = .ok (.getfield 30, 3) := by decide +kernel
theorem dX12_reckons_280 : decode cX12_reckons 280 = .ok (.iload 4, 2) := by decide +kernel
theorem dX12_reckons_282 : decode cX12_reckons 282 = .ok (.iconst 1, 1) := by decide +kernel
theorem dX12_reckons_283 : decode cX12_reckons 283 = .ok (.iadd, 1) := by decide +kernel
theorem dX12_reckons_284 : decode cX12_reckons 284 = .ok (.iaload, 1) := by decide +kernel
theorem dX12_reckons_285 : decode cX12_reckons 285 = .ok (.iastore, 1) := by decide +kernel
theorem dX12_reckons_286 : decode cX12_reckons 286 = .ok (.goto 36, 3) := by decide +kernel
theorem dX12_reckons_289 : decode cX12_reckons 289 = .ok (.iinc 4 (-1), 3) := by decide +kernel
theorem dX12_reckons_292 : decode cX12_reckons 292 = .ok (.aload_n 0, 1) := by decide +kernel
theorem dX12_reckons_293 : decode cX12_reckons 293 = .ok (.getfield 30, 3) := by decide +kernel
theorem dX12_reckons_296 : decode cX12_reckons 296 = .ok (.iload 4, 2) := by decide +kernel
theorem dX12_reckons_298 : decode cX12_reckons 298 = .ok (.iconst 1, 1) := by decide +kernel
theorem dX12_reckons_299 : decode cX12_reckons 299 = .ok (.isub, 1) := by decide +kernel
theorem dX12_reckons_300 : decode cX12_reckons 300 = .ok (.iload 6, 2) := by decide +kernel
theorem dX12_reckons_302 : decode cX12_reckons 302 = .ok (.aload_n 0, 1) := by decide +kernel
theorem dX12_reckons_303 : decode cX12_reckons 303 = .ok (.getfield 30, 3) := by decide +kernel
theorem dX12_reckons_306 : decode cX12_reckons 306 = .ok (.iload 4, 2) := by decide +kernel
theorem dX12_reckons_308 : decode cX12_reckons 308 = .ok (.iconst 1, 1) := by decide +kernel
theorem dX12_reckons_309 : decode cX12_reckons 309 = .ok (.isub, 1) := by decide +kernel
theorem dX12_reckons_310 : decode cX12_reckons 310 = .ok (.iaload, 1) := by decide +kernel
theorem dX12_reckons_311 : decode cX12_reckons 311 = .ok (.aload_n 0, 1) := by decide +kernel
theorem dX12_reckons_312 : decode cX12_reckons 312 = .ok (.getfield 30, 3) := by decide +kernel
theorem dX12_reckons_315 : decode cX12_reckons 315 = .ok (.iload 4, 2) := by decide +kernel
theorem dX12_reckons_317 : decode cX12_reckons 317 = .ok (.iaload, 1) := by decide +kernel
theorem dX12_reckons_318 : decode cX12_reckons 318 = .ok (.invokestatic 233, 3) := by decide +kernel
theorem dX12_reckons_321 : decode cX12_reckons 321 = .ok (.iastore, 1) := by decide +kernel
theorem dX12_reckons_322 : decode cX12_reckons 322 = .ok (.iinc 5 1, 3) := by decide +kernel
theorem dX12_reckons_325 : decode cX12_reckons 325 = .ok (.goto (-204), 3) := by decide +kernel
theorem dX12_reckons_328 : decode cX12_reckons 328 = .ok (.aload_n 0, 1) := by decide +kernel
theorem dX12_reckons_329 : decode cX12_reckons 329 = .ok (.getfield 30, 3) := by decide +kernel
theorem dX12_reckons_332 : decode cX12_reckons 332 = .ok (.iconst 0, 1) := by decide +kernel
theorem dX12_reckons_333 : decode cX12_reckons 333 = .ok (.iaload, 1) := by decide +kernel
theorem dX12_reckons_334 : decode cX12_reckons 334 = .ok (.ireturn, 1) := by decide +kernel
def r_reckons_121 (F : Nat) (z : Nat) (g1 : Int32) (g2 : Int32) (g3 : Int32) : Nat → Int32 → Int32 → (Nat → Nat → Int32) → Option (Int32 × Int32 × (Nat → Nat → Int32))
  | 0, _, _, _ => none
  | k + 1, l4, l5, I => chk (8 + g1) 3891 (if (I (z + 1) (Int32.toNatClampNeg (8 + g1))) ≤ l5 then (some (l4, l5, I)) else (chk (6 + g1) 3891 (chk ((397 + (I (z + 1) (Int32.toNatClampNeg (6 + g1)))) + l5) 3891 (let x30 := (I (z + 1) (Int32.toNatClampNeg ((397 + (I (z + 1) (Int32.toNatClampNeg (6 + g1)))) + l5))); if 3000 ≤ x30 then (if x30 = 3006 then (chk (l4 - 1) 900 (let I48 := uI I (z + 5) (Int32.toNatClampNeg (l4 - 1)) (1 - (I (z + 5) (Int32.toNatClampNeg (l4 - 1)))); r_reckons_121 F z g1 g2 g3 k l4 (l5 + 1) I48)) else (if x30 = 3009 then (chk ((l4 + (-2)) - 1) 900 (if (I (z + 5) (Int32.toNatClampNeg ((l4 + (-2)) - 1))) = 1 then (chk (l4 + (-2)) 900 (let I45 := uI I (z + 5) (Int32.toNatClampNeg ((l4 + (-2)) - 1)) (I (z + 5) (Int32.toNatClampNeg (l4 + (-2)))); r_reckons_121 F z g1 g2 g3 k (l4 + (-2)) (l5 + 1) I45)) else (chk ((l4 + (-2)) + 1) 900 (let I42 := uI I (z + 5) (Int32.toNatClampNeg ((l4 + (-2)) - 1)) (I (z + 5) (Int32.toNatClampNeg ((l4 + (-2)) + 1))); r_reckons_121 F z g1 g2 g3 k (l4 + (-2)) (l5 + 1) I42)))) else (chk ((l4 + (-1)) - 1) 900 (chk (l4 + (-1)) 900 (let I37 := uI I (z + 5) (Int32.toNatClampNeg ((l4 + (-1)) - 1)) (r_between x30 (I (z + 5) (Int32.toNatClampNeg ((l4 + (-1)) - 1))) (I (z + 5) (Int32.toNatClampNeg (l4 + (-1))))); r_reckons_121 F z g1 g2 g3 k (l4 + (-1)) (l5 + 1) I37))))) else (if 1000 ≤ x30 then (chk (x30 - 1000) 7 (chk l4 900 (let I53 := uI I (z + 5) (Int32.toNatClampNeg l4) (I (z + 6) (Int32.toNatClampNeg (x30 - 1000))); r_reckons_121 F z g1 g2 g3 k (l4 + 1) (l5 + 1) I53))) else (chk l4 900 (let I56 := uI I (z + 5) (Int32.toNatClampNeg l4) x30; r_reckons_121 F z g1 g2 g3 k (l4 + 1) (l5 + 1) I56)))))))
def r_reckons (F : Nat) (I : Nat → Nat → Int32) (z : Nat) (v1 : Int32) (v2 : Int32) (v3 : Int32) : Option (Int32 × (Nat → Nat → Int32)) := chk (4 + v1) 3891 (if (I (z + 1) (Int32.toNatClampNeg (4 + v1))) = 0 then (some (1, I)) else (let I3 := uI I (z + 6) (Int32.toNatClampNeg 0) v2; chk (16 + v2) 3891 (let I6 := uI I3 (z + 6) (Int32.toNatClampNeg 1) (I3 (z + 1) (Int32.toNatClampNeg (16 + v2))); chk (41 + v2) 3891 (let I9 := uI I6 (z + 6) (Int32.toNatClampNeg 2) (I6 (z + 1) (Int32.toNatClampNeg (41 + v2))); let I11 := uI I9 (z + 6) (Int32.toNatClampNeg 3) v3; (r_besideOf F I11 z v2).bind (fun q13 => let u15 := q13; let I16 := uI I11 (z + 6) (Int32.toNatClampNeg 4) u15; (r_bitsOf F (I16 (z + 1) (Int32.toNatClampNeg 32))).bind (fun q18 => let u20 := q18; let I21 := uI I16 (z + 6) (Int32.toNatClampNeg 5) u20; if (I21 (z + 1) (Int32.toNatClampNeg 33)) ≤ 99 then (let I24 := uI I21 (z + 6) (Int32.toNatClampNeg 6) (I21 (z + 1) (Int32.toNatClampNeg 33)); (r_reckons_121 F z v1 v2 v3 F 0 0 I24).bind (fun q58 => let m60 := q58.1; let m61 := q58.2.1; let I62 := q58.2.2; some ((I62 (z + 5) (Int32.toNatClampNeg 0)), I62))) else (let I63 := uI I21 (z + 6) (Int32.toNatClampNeg 6) 99; (r_reckons_121 F z v1 v2 v3 F 0 0 I63).bind (fun q65 => let m67 := q65.1; let m68 := q65.2.1; let I69 := q65.2.2; some ((I69 (z + 5) (Int32.toNatClampNeg 0)), I69)))))))))
theorem l_r_reckons_121 {l : Launch} {D : va_G} {E : Nat → ClassId} {B : Nat → Prop} {n F : Nat} {Q : Option Value → HT → Prop} {T : Nat → Option (Nat × Nat)} {J : Nat → Nat → Int64} {P : Nat → Nat → Option Nat} {z : Nat} {g1 : Int32} {g2 : Int32} {g3 : Int32} (hs_z : isMd T P z)  (r : Int32 × Int32 × (Nat → Nat → Int32)) : ∀ (k : Nat) (l4 : Int32) (l5 : Int32) (I : (Nat → Nat → Int32)), r_reckons_121 F z g1 g2 g3 k l4 l5 I = some r → V l D E B yX12_reckons cX12_reckons 7 (some .int) 3 0 0 Q 0 0 (n, T, r.2.2, J, P) 328 [(0, some (.ref z)), (1, some (.int g1)), (2, some (.int g2)), (3, some (.int g3)), (4, some (.int (r.1))), (5, some (.int (r.2.1)))] [] → V l D E B yX12_reckons cX12_reckons 7 (some .int) 3 0 0 Q 0 0 (n, T, I, J, P) 121 [(0, some (.ref z)), (1, some (.int g1)), (2, some (.int g2)), (3, some (.int g3)), (4, some (.int l4)), (5, some (.int l5))] [] := by
  intro k
  induction k with
  | zero =>
    intro l4 l5 I hf hk
    cases hf
  | succ k ih =>
    intro l4 l5 I hf hk
    unfold r_reckons_121 at hf
    refine V.iload dX12_reckons_121 rfl ?_
    refine V.aload_n dX12_reckons_123 rfl ?_
    refine V.getr fl_X12_13 dX12_reckons_124 (hs_z.1 0 (12, 0) rfl) (hs_z.2 0 1 1 rfl) (by decide) rfl ?_
    refine V.bipush (v := 8) dX12_reckons_127 (by decide) ?_
    refine V.iload_n dX12_reckons_129 rfl ?_
    refine V.iadd dX12_reckons_130 ?_
    obtain ⟨hb26, hf⟩ := chk_some hf
    refine V.iald dX12_reckons_131 (hs_z.1 1 (20, 3891) rfl) hb26 ?_
    refine V.icmp_ge 328 dX12_reckons_132 (by decide) (fun c27 => ?_) (fun c27 => ?_)
    · rw [if_pos c27] at hf
      obtain rfl := Option.some.inj hf
      exact V.lo [(0, some (.ref z)), (1, some (.int g1)), (2, some (.int g2)), (3, some (.int g3)), (4, some (.int l4)), (5, some (.int l5))] (by simp only [Subs]; repeat' first | exact trivial | constructor | rfl) hk
    · rw [if_neg c27] at hf
      refine V.aload_n dX12_reckons_135 rfl ?_
      refine V.getr fl_X12_13 dX12_reckons_136 (hs_z.1 0 (12, 0) rfl) (hs_z.2 0 1 1 rfl) (by decide) rfl ?_
      refine V.sipush (v := 397) dX12_reckons_139 (by decide) ?_
      refine V.aload_n dX12_reckons_142 rfl ?_
      refine V.getr fl_X12_13 dX12_reckons_143 (hs_z.1 0 (12, 0) rfl) (hs_z.2 0 1 1 rfl) (by decide) rfl ?_
      refine V.bipush (v := 6) dX12_reckons_146 (by decide) ?_
      refine V.iload_n dX12_reckons_148 rfl ?_
      refine V.iadd dX12_reckons_149 ?_
      obtain ⟨hb28, hf⟩ := chk_some hf
      refine V.iald dX12_reckons_150 (hs_z.1 1 (20, 3891) rfl) hb28 ?_
      refine V.iadd dX12_reckons_151 ?_
      refine V.iload dX12_reckons_152 rfl ?_
      refine V.iadd dX12_reckons_154 ?_
      obtain ⟨hb29, hf⟩ := chk_some hf
      refine V.iald dX12_reckons_155 (hs_z.1 1 (20, 3891) rfl) hb29 ?_
      refine V.istore dX12_reckons_156 (by decide) (by first | exact rfl | exact trivial) ?_
      obtain ⟨x30, e31⟩ : ∃ zz_, zz_ = (I (z + 1) (Int32.toNatClampNeg ((397 + (I (z + 1) (Int32.toNatClampNeg (6 + g1)))) + l5))) := ⟨_, rfl⟩
      rw [← e31] at hf ⊢
      try dsimp only at hf
      refine V.iload dX12_reckons_158 rfl ?_
      refine V.sipush (v := 3000) dX12_reckons_160 (by decide) ?_
      refine V.icmp_ge 203 dX12_reckons_163 (by decide) (fun c32 => ?_) (fun c32 => ?_)
      · rw [if_pos c32] at hf
        refine V.iload dX12_reckons_203 rfl ?_
        refine V.sipush (v := 3006) dX12_reckons_205 (by decide) ?_
        refine V.icmp_ne 234 dX12_reckons_208 (by decide) (fun c33 => ?_) (fun c33 => ?_)
        · rw [if_neg c33] at hf
          refine V.iload dX12_reckons_234 rfl ?_
          refine V.sipush (v := 3009) dX12_reckons_236 (by decide) ?_
          refine V.icmp_ne 289 dX12_reckons_239 (by decide) (fun c34 => ?_) (fun c34 => ?_)
          · rw [if_neg c34] at hf
            refine V.iinc (v := (l4 + (-1))) dX12_reckons_289 rfl rfl (by first | exact rfl | exact trivial) ?_
            refine V.aload_n dX12_reckons_292 rfl ?_
            refine V.getr fl_X12_30 dX12_reckons_293 (hs_z.1 0 (12, 0) rfl) (hs_z.2 0 15 5 rfl) (by decide) rfl ?_
            refine V.iload dX12_reckons_296 rfl ?_
            refine V.iconst (v := 1) dX12_reckons_298 (by decide) ?_
            refine V.isub dX12_reckons_299 ?_
            refine V.iload dX12_reckons_300 rfl ?_
            refine V.aload_n dX12_reckons_302 rfl ?_
            refine V.getr fl_X12_30 dX12_reckons_303 (hs_z.1 0 (12, 0) rfl) (hs_z.2 0 15 5 rfl) (by decide) rfl ?_
            refine V.iload dX12_reckons_306 rfl ?_
            refine V.iconst (v := 1) dX12_reckons_308 (by decide) ?_
            refine V.isub dX12_reckons_309 ?_
            obtain ⟨hb35, hf⟩ := chk_some hf
            refine V.iald dX12_reckons_310 (hs_z.1 5 (20, 900) rfl) hb35 ?_
            refine V.aload_n dX12_reckons_311 rfl ?_
            refine V.getr fl_X12_30 dX12_reckons_312 (hs_z.1 0 (12, 0) rfl) (hs_z.2 0 15 5 rfl) (by decide) rfl ?_
            refine V.iload dX12_reckons_315 rfl ?_
            obtain ⟨hb36, hf⟩ := chk_some hf
            refine V.iald dX12_reckons_317 (hs_z.1 5 (20, 900) rfl) hb36 ?_
            refine V.ins cs_X12_233 (c_r_between) dX12_reckons_318 rfl rfl (Nat.le_of_ble_eq_true rfl) (by decide) (by decide) (Nat.le_refl _) (Nat.le_refl _) (fun _ _ hq => ?_)
            obtain ⟨rfl, rfl⟩ := hq
            refine V.iastE dX12_reckons_321 (hs_z.1 5 (20, 900) rfl) hb35 (fun I37 e38 => ?_)
            rw [← e38] at hf
            try dsimp only at hf
            clear e38
            refine V.iinc (v := (l5 + 1)) dX12_reckons_322 rfl rfl (by first | exact rfl | exact trivial) ?_
            refine V.goto 121 dX12_reckons_325 (by decide) ?_
            exact V.lo [(0, some (.ref z)), (1, some (.int g1)), (2, some (.int g2)), (3, some (.int g3)), (4, some (.int (l4 + (-1)))), (5, some (.int (l5 + 1)))] (by simp only [Subs]; repeat' first | exact trivial | constructor | rfl) (ih _ _ _ hf hk)
          · rw [if_pos c34] at hf
            refine V.iinc (v := (l4 + (-2))) dX12_reckons_242 rfl rfl (by first | exact rfl | exact trivial) ?_
            refine V.aload_n dX12_reckons_245 rfl ?_
            refine V.getr fl_X12_30 dX12_reckons_246 (hs_z.1 0 (12, 0) rfl) (hs_z.2 0 15 5 rfl) (by decide) rfl ?_
            refine V.iload dX12_reckons_249 rfl ?_
            refine V.iconst (v := 1) dX12_reckons_251 (by decide) ?_
            refine V.isub dX12_reckons_252 ?_
            refine V.aload_n dX12_reckons_253 rfl ?_
            refine V.getr fl_X12_30 dX12_reckons_254 (hs_z.1 0 (12, 0) rfl) (hs_z.2 0 15 5 rfl) (by decide) rfl ?_
            refine V.iload dX12_reckons_257 rfl ?_
            refine V.iconst (v := 1) dX12_reckons_259 (by decide) ?_
            refine V.isub dX12_reckons_260 ?_
            obtain ⟨hb39, hf⟩ := chk_some hf
            refine V.iald dX12_reckons_261 (hs_z.1 5 (20, 900) rfl) hb39 ?_
            refine V.iconst (v := 1) dX12_reckons_262 (by decide) ?_
            refine V.icmp_ne 276 dX12_reckons_263 (by decide) (fun c40 => ?_) (fun c40 => ?_)
            · rw [if_neg c40] at hf
              refine V.aload_n dX12_reckons_276 rfl ?_
              refine V.getr fl_X12_30 dX12_reckons_277 (hs_z.1 0 (12, 0) rfl) (hs_z.2 0 15 5 rfl) (by decide) rfl ?_
              refine V.iload dX12_reckons_280 rfl ?_
              refine V.iconst (v := 1) dX12_reckons_282 (by decide) ?_
              refine V.iadd dX12_reckons_283 ?_
              obtain ⟨hb41, hf⟩ := chk_some hf
              refine V.iald dX12_reckons_284 (hs_z.1 5 (20, 900) rfl) hb41 ?_
              refine V.iastE dX12_reckons_285 (hs_z.1 5 (20, 900) rfl) hb39 (fun I42 e43 => ?_)
              rw [← e43] at hf
              try dsimp only at hf
              clear e43
              refine V.goto 322 dX12_reckons_286 (by decide) ?_
              refine V.iinc (v := (l5 + 1)) dX12_reckons_322 rfl rfl (by first | exact rfl | exact trivial) ?_
              refine V.goto 121 dX12_reckons_325 (by decide) ?_
              exact V.lo [(0, some (.ref z)), (1, some (.int g1)), (2, some (.int g2)), (3, some (.int g3)), (4, some (.int (l4 + (-2)))), (5, some (.int (l5 + 1)))] (by simp only [Subs]; repeat' first | exact trivial | constructor | rfl) (ih _ _ _ hf hk)
            · rw [if_pos c40] at hf
              refine V.aload_n dX12_reckons_266 rfl ?_
              refine V.getr fl_X12_30 dX12_reckons_267 (hs_z.1 0 (12, 0) rfl) (hs_z.2 0 15 5 rfl) (by decide) rfl ?_
              refine V.iload dX12_reckons_270 rfl ?_
              obtain ⟨hb44, hf⟩ := chk_some hf
              refine V.iald dX12_reckons_272 (hs_z.1 5 (20, 900) rfl) hb44 ?_
              refine V.goto 285 dX12_reckons_273 (by decide) ?_
              refine V.iastE dX12_reckons_285 (hs_z.1 5 (20, 900) rfl) hb39 (fun I45 e46 => ?_)
              rw [← e46] at hf
              try dsimp only at hf
              clear e46
              refine V.goto 322 dX12_reckons_286 (by decide) ?_
              refine V.iinc (v := (l5 + 1)) dX12_reckons_322 rfl rfl (by first | exact rfl | exact trivial) ?_
              refine V.goto 121 dX12_reckons_325 (by decide) ?_
              exact V.lo [(0, some (.ref z)), (1, some (.int g1)), (2, some (.int g2)), (3, some (.int g3)), (4, some (.int (l4 + (-2)))), (5, some (.int (l5 + 1)))] (by simp only [Subs]; repeat' first | exact trivial | constructor | rfl) (ih _ _ _ hf hk)
        · rw [if_pos c33] at hf
          refine V.aload_n dX12_reckons_211 rfl ?_
          refine V.getr fl_X12_30 dX12_reckons_212 (hs_z.1 0 (12, 0) rfl) (hs_z.2 0 15 5 rfl) (by decide) rfl ?_
          refine V.iload dX12_reckons_215 rfl ?_
          refine V.iconst (v := 1) dX12_reckons_217 (by decide) ?_
          refine V.isub dX12_reckons_218 ?_
          refine V.iconst (v := 1) dX12_reckons_219 (by decide) ?_
          refine V.aload_n dX12_reckons_220 rfl ?_
          refine V.getr fl_X12_30 dX12_reckons_221 (hs_z.1 0 (12, 0) rfl) (hs_z.2 0 15 5 rfl) (by decide) rfl ?_
          refine V.iload dX12_reckons_224 rfl ?_
          refine V.iconst (v := 1) dX12_reckons_226 (by decide) ?_
          refine V.isub dX12_reckons_227 ?_
          obtain ⟨hb47, hf⟩ := chk_some hf
          refine V.iald dX12_reckons_228 (hs_z.1 5 (20, 900) rfl) hb47 ?_
          refine V.isub dX12_reckons_229 ?_
          refine V.iastE dX12_reckons_230 (hs_z.1 5 (20, 900) rfl) hb47 (fun I48 e49 => ?_)
          rw [← e49] at hf
          try dsimp only at hf
          clear e49
          refine V.goto 322 dX12_reckons_231 (by decide) ?_
          refine V.iinc (v := (l5 + 1)) dX12_reckons_322 rfl rfl (by first | exact rfl | exact trivial) ?_
          refine V.goto 121 dX12_reckons_325 (by decide) ?_
          exact V.lo [(0, some (.ref z)), (1, some (.int g1)), (2, some (.int g2)), (3, some (.int g3)), (4, some (.int l4)), (5, some (.int (l5 + 1)))] (by simp only [Subs]; repeat' first | exact trivial | constructor | rfl) (ih _ _ _ hf hk)
      · rw [if_neg c32] at hf
        refine V.aload_n dX12_reckons_166 rfl ?_
        refine V.getr fl_X12_30 dX12_reckons_167 (hs_z.1 0 (12, 0) rfl) (hs_z.2 0 15 5 rfl) (by decide) rfl ?_
        refine V.iload dX12_reckons_170 rfl ?_
        refine V.iload dX12_reckons_172 rfl ?_
        refine V.sipush (v := 1000) dX12_reckons_174 (by decide) ?_
        refine V.icmp_ge 185 dX12_reckons_177 (by decide) (fun c50 => ?_) (fun c50 => ?_)
        · rw [if_pos c50] at hf
          refine V.aload_n dX12_reckons_185 rfl ?_
          refine V.getr fl_X12_33 dX12_reckons_186 (hs_z.1 0 (12, 0) rfl) (hs_z.2 0 16 6 rfl) (by decide) rfl ?_
          refine V.iload dX12_reckons_189 rfl ?_
          refine V.sipush (v := 1000) dX12_reckons_191 (by decide) ?_
          refine V.isub dX12_reckons_194 ?_
          obtain ⟨hb51, hf⟩ := chk_some hf
          refine V.iald dX12_reckons_195 (hs_z.1 6 (20, 7) rfl) hb51 ?_
          obtain ⟨hb52, hf⟩ := chk_some hf
          refine V.iastE dX12_reckons_196 (hs_z.1 5 (20, 900) rfl) hb52 (fun I53 e54 => ?_)
          rw [← e54] at hf
          try dsimp only at hf
          clear e54
          refine V.iinc (v := (l4 + 1)) dX12_reckons_197 rfl rfl (by first | exact rfl | exact trivial) ?_
          refine V.goto 322 dX12_reckons_200 (by decide) ?_
          refine V.iinc (v := (l5 + 1)) dX12_reckons_322 rfl rfl (by first | exact rfl | exact trivial) ?_
          refine V.goto 121 dX12_reckons_325 (by decide) ?_
          exact V.lo [(0, some (.ref z)), (1, some (.int g1)), (2, some (.int g2)), (3, some (.int g3)), (4, some (.int (l4 + 1))), (5, some (.int (l5 + 1)))] (by simp only [Subs]; repeat' first | exact trivial | constructor | rfl) (ih _ _ _ hf hk)
        · rw [if_neg c50] at hf
          refine V.iload dX12_reckons_180 rfl ?_
          refine V.goto 196 dX12_reckons_182 (by decide) ?_
          obtain ⟨hb55, hf⟩ := chk_some hf
          refine V.iastE dX12_reckons_196 (hs_z.1 5 (20, 900) rfl) hb55 (fun I56 e57 => ?_)
          rw [← e57] at hf
          try dsimp only at hf
          clear e57
          refine V.iinc (v := (l4 + 1)) dX12_reckons_197 rfl rfl (by first | exact rfl | exact trivial) ?_
          refine V.goto 322 dX12_reckons_200 (by decide) ?_
          refine V.iinc (v := (l5 + 1)) dX12_reckons_322 rfl rfl (by first | exact rfl | exact trivial) ?_
          refine V.goto 121 dX12_reckons_325 (by decide) ?_
          exact V.lo [(0, some (.ref z)), (1, some (.int g1)), (2, some (.int g2)), (3, some (.int g3)), (4, some (.int (l4 + 1))), (5, some (.int (l5 + 1)))] (by simp only [Subs]; repeat' first | exact trivial | constructor | rfl) (ih _ _ _ hf hk)
theorem c_r_reckons {l : Launch} {D : va_G} {E : Nat → ClassId} {B : Nat → Prop} {n F : Nat} {T : Nat → Option (Nat × Nat)} {I : Nat → Nat → Int32} {J : Nat → Nat → Int64} {P : Nat → Nat → Option Nat} {z : Nat} {v1 : Int32} {v2 : Int32} {v3 : Int32} {r : Int32 × (Nat → Nat → Int32)} (hs_z : isMd T P z) (hf : r_reckons F I z v1 v2 v3 = some r) : Ct l D E B yX12_reckons cX12_reckons 7 (some .int) 3 0 0 [.ref z, .int v1, .int v2, .int v3] (n, T, I, J, P) (Ret (some (.int r.1)) (n, T, r.2, J, P)) := by
  unfold r_reckons at hf
  refine Ct.ofV (by decide) (Nat.le_of_ble_eq_true rfl) ?_
  refine V.aload_n dX12_reckons_0 rfl ?_
  refine V.getr fl_X12_13 dX12_reckons_1 (hs_z.1 0 (12, 0) rfl) (hs_z.2 0 1 1 rfl) (by decide) rfl ?_
  refine V.iconst (v := 4) dX12_reckons_4 (by decide) ?_
  refine V.iload_n dX12_reckons_5 rfl ?_
  refine V.iadd dX12_reckons_6 ?_
  obtain ⟨hb1, hf⟩ := chk_some hf
  refine V.iald dX12_reckons_7 (hs_z.1 1 (20, 3891) rfl) hb1 ?_
  refine V.if_ne 13 dX12_reckons_8 (by decide) (fun c2 => ?_) (fun c2 => ?_)
  · rw [if_neg c2] at hf
    refine V.aload_n dX12_reckons_13 rfl ?_
    refine V.getr fl_X12_33 dX12_reckons_14 (hs_z.1 0 (12, 0) rfl) (hs_z.2 0 16 6 rfl) (by decide) rfl ?_
    refine V.iconst (v := 0) dX12_reckons_17 (by decide) ?_
    refine V.iload_n dX12_reckons_18 rfl ?_
    refine V.iastE dX12_reckons_19 (hs_z.1 6 (20, 7) rfl) (vp_lit (by decide)) (fun I3 e4 => ?_)
    rw [← e4] at hf
    try dsimp only at hf
    clear e4
    refine V.aload_n dX12_reckons_20 rfl ?_
    refine V.getr fl_X12_33 dX12_reckons_21 (hs_z.1 0 (12, 0) rfl) (hs_z.2 0 16 6 rfl) (by decide) rfl ?_
    refine V.iconst (v := 1) dX12_reckons_24 (by decide) ?_
    refine V.aload_n dX12_reckons_25 rfl ?_
    refine V.getr fl_X12_13 dX12_reckons_26 (hs_z.1 0 (12, 0) rfl) (hs_z.2 0 1 1 rfl) (by decide) rfl ?_
    refine V.bipush (v := 16) dX12_reckons_29 (by decide) ?_
    refine V.iload_n dX12_reckons_31 rfl ?_
    refine V.iadd dX12_reckons_32 ?_
    obtain ⟨hb5, hf⟩ := chk_some hf
    refine V.iald dX12_reckons_33 (hs_z.1 1 (20, 3891) rfl) hb5 ?_
    refine V.iastE dX12_reckons_34 (hs_z.1 6 (20, 7) rfl) (vp_lit (by decide)) (fun I6 e7 => ?_)
    rw [← e7] at hf
    try dsimp only at hf
    clear e7
    refine V.aload_n dX12_reckons_35 rfl ?_
    refine V.getr fl_X12_33 dX12_reckons_36 (hs_z.1 0 (12, 0) rfl) (hs_z.2 0 16 6 rfl) (by decide) rfl ?_
    refine V.iconst (v := 2) dX12_reckons_39 (by decide) ?_
    refine V.aload_n dX12_reckons_40 rfl ?_
    refine V.getr fl_X12_13 dX12_reckons_41 (hs_z.1 0 (12, 0) rfl) (hs_z.2 0 1 1 rfl) (by decide) rfl ?_
    refine V.bipush (v := 41) dX12_reckons_44 (by decide) ?_
    refine V.iload_n dX12_reckons_46 rfl ?_
    refine V.iadd dX12_reckons_47 ?_
    obtain ⟨hb8, hf⟩ := chk_some hf
    refine V.iald dX12_reckons_48 (hs_z.1 1 (20, 3891) rfl) hb8 ?_
    refine V.iastE dX12_reckons_49 (hs_z.1 6 (20, 7) rfl) (vp_lit (by decide)) (fun I9 e10 => ?_)
    rw [← e10] at hf
    try dsimp only at hf
    clear e10
    refine V.aload_n dX12_reckons_50 rfl ?_
    refine V.getr fl_X12_33 dX12_reckons_51 (hs_z.1 0 (12, 0) rfl) (hs_z.2 0 16 6 rfl) (by decide) rfl ?_
    refine V.iconst (v := 3) dX12_reckons_54 (by decide) ?_
    refine V.iload_n dX12_reckons_55 rfl ?_
    refine V.iastE dX12_reckons_56 (hs_z.1 6 (20, 7) rfl) (vp_lit (by decide)) (fun I11 e12 => ?_)
    rw [← e12] at hf
    try dsimp only at hf
    clear e12
    refine V.aload_n dX12_reckons_57 rfl ?_
    refine V.getr fl_X12_33 dX12_reckons_58 (hs_z.1 0 (12, 0) rfl) (hs_z.2 0 16 6 rfl) (by decide) rfl ?_
    refine V.iconst (v := 4) dX12_reckons_61 (by decide) ?_
    refine V.aload_n dX12_reckons_62 rfl ?_
    refine V.iload_n dX12_reckons_63 rfl ?_
    obtain ⟨u15, hk14, hf⟩ := bnd_some hf
    try dsimp only at hf
    refine V.inv cv_X12_227 (c_r_besideOf hs_z hk14) dX12_reckons_64 (hs_z.1 0 (12, 0) rfl) (by decide) rfl rfl rfl (Nat.le_of_ble_eq_true rfl) (by decide) (by decide) (Nat.le_refl _) (Nat.le_refl _) (fun _ _ hq => ?_)
    obtain ⟨rfl, rfl⟩ := hq
    refine V.iastE dX12_reckons_67 (hs_z.1 6 (20, 7) rfl) (vp_lit (by decide)) (fun I16 e17 => ?_)
    rw [← e17] at hf
    try dsimp only at hf
    clear e17
    refine V.aload_n dX12_reckons_68 rfl ?_
    refine V.getr fl_X12_33 dX12_reckons_69 (hs_z.1 0 (12, 0) rfl) (hs_z.2 0 16 6 rfl) (by decide) rfl ?_
    refine V.iconst (v := 5) dX12_reckons_72 (by decide) ?_
    refine V.aload_n dX12_reckons_73 rfl ?_
    refine V.getr fl_X12_13 dX12_reckons_74 (hs_z.1 0 (12, 0) rfl) (hs_z.2 0 1 1 rfl) (by decide) rfl ?_
    refine V.bipush (v := 32) dX12_reckons_77 (by decide) ?_
    refine V.iald dX12_reckons_79 (hs_z.1 1 (20, 3891) rfl) (vp_lit (by decide)) ?_
    obtain ⟨u20, hk19, hf⟩ := bnd_some hf
    try dsimp only at hf
    refine V.ins cs_X12_230 (c_r_bitsOf hk19) dX12_reckons_80 rfl rfl (Nat.le_of_ble_eq_true rfl) (by decide) (by decide) (Nat.le_refl _) (Nat.le_refl _) (fun _ _ hq => ?_)
    obtain ⟨rfl, rfl⟩ := hq
    refine V.iastE dX12_reckons_83 (hs_z.1 6 (20, 7) rfl) (vp_lit (by decide)) (fun I21 e22 => ?_)
    rw [← e22] at hf
    try dsimp only at hf
    clear e22
    refine V.aload_n dX12_reckons_84 rfl ?_
    refine V.getr fl_X12_33 dX12_reckons_85 (hs_z.1 0 (12, 0) rfl) (hs_z.2 0 16 6 rfl) (by decide) rfl ?_
    refine V.bipush (v := 6) dX12_reckons_88 (by decide) ?_
    refine V.aload_n dX12_reckons_90 rfl ?_
    refine V.getr fl_X12_13 dX12_reckons_91 (hs_z.1 0 (12, 0) rfl) (hs_z.2 0 1 1 rfl) (by decide) rfl ?_
    refine V.bipush (v := 33) dX12_reckons_94 (by decide) ?_
    refine V.iald dX12_reckons_96 (hs_z.1 1 (20, 3891) rfl) (vp_lit (by decide)) ?_
    refine V.bipush (v := 99) dX12_reckons_97 (by decide) ?_
    refine V.icmp_le 107 dX12_reckons_99 (by decide) (fun c23 => ?_) (fun c23 => ?_)
    · rw [if_pos c23] at hf
      refine V.aload_n dX12_reckons_107 rfl ?_
      refine V.getr fl_X12_13 dX12_reckons_108 (hs_z.1 0 (12, 0) rfl) (hs_z.2 0 1 1 rfl) (by decide) rfl ?_
      refine V.bipush (v := 33) dX12_reckons_111 (by decide) ?_
      refine V.iald dX12_reckons_113 (hs_z.1 1 (20, 3891) rfl) (vp_lit (by decide)) ?_
      refine V.iastE dX12_reckons_114 (hs_z.1 6 (20, 7) rfl) (vp_lit (by decide)) (fun I24 e25 => ?_)
      rw [← e25] at hf
      try dsimp only at hf
      clear e25
      refine V.iconst (v := 0) dX12_reckons_115 (by decide) ?_
      refine V.istore dX12_reckons_116 (by decide) (by first | exact rfl | exact trivial) ?_
      refine V.iconst (v := 0) dX12_reckons_118 (by decide) ?_
      refine V.istore dX12_reckons_119 (by decide) (by first | exact rfl | exact trivial) ?_
      obtain ⟨⟨m60, m61, I62⟩, hk59, hf⟩ := bnd_some hf
      try dsimp only at hf
      refine V.lo [(0, some (.ref z)), (1, some (.int v1)), (2, some (.int v2)), (3, some (.int v3)), (4, some (.int 0)), (5, some (.int 0))] (by simp only [Subs]; repeat' first | exact trivial | constructor | rfl) (l_r_reckons_121 hs_z _ F _ _ _ hk59 ?_)
      try dsimp only
      refine V.aload_n dX12_reckons_328 rfl ?_
      refine V.getr fl_X12_30 dX12_reckons_329 (hs_z.1 0 (12, 0) rfl) (hs_z.2 0 15 5 rfl) (by decide) rfl ?_
      refine V.iconst (v := 0) dX12_reckons_332 (by decide) ?_
      refine V.iald dX12_reckons_333 (hs_z.1 5 (20, 900) rfl) (vp_lit (by decide)) ?_
      obtain rfl := Option.some.inj hf
      exact V.iret dX12_reckons_334 rfl (Nat.le_refl _) (Nat.le_refl _) ⟨rfl, rfl⟩
    · rw [if_neg c23] at hf
      refine V.bipush (v := 99) dX12_reckons_102 (by decide) ?_
      refine V.goto 114 dX12_reckons_104 (by decide) ?_
      refine V.iastE dX12_reckons_114 (hs_z.1 6 (20, 7) rfl) (vp_lit (by decide)) (fun I63 e64 => ?_)
      rw [← e64] at hf
      try dsimp only at hf
      clear e64
      refine V.iconst (v := 0) dX12_reckons_115 (by decide) ?_
      refine V.istore dX12_reckons_116 (by decide) (by first | exact rfl | exact trivial) ?_
      refine V.iconst (v := 0) dX12_reckons_118 (by decide) ?_
      refine V.istore dX12_reckons_119 (by decide) (by first | exact rfl | exact trivial) ?_
      obtain ⟨⟨m67, m68, I69⟩, hk66, hf⟩ := bnd_some hf
      try dsimp only at hf
      refine V.lo [(0, some (.ref z)), (1, some (.int v1)), (2, some (.int v2)), (3, some (.int v3)), (4, some (.int 0)), (5, some (.int 0))] (by simp only [Subs]; repeat' first | exact trivial | constructor | rfl) (l_r_reckons_121 hs_z _ F _ _ _ hk66 ?_)
      try dsimp only
      refine V.aload_n dX12_reckons_328 rfl ?_
      refine V.getr fl_X12_30 dX12_reckons_329 (hs_z.1 0 (12, 0) rfl) (hs_z.2 0 15 5 rfl) (by decide) rfl ?_
      refine V.iconst (v := 0) dX12_reckons_332 (by decide) ?_
      refine V.iald dX12_reckons_333 (hs_z.1 5 (20, 900) rfl) (vp_lit (by decide)) ?_
      obtain rfl := Option.some.inj hf
      exact V.iret dX12_reckons_334 rfl (Nat.le_refl _) (Nat.le_refl _) ⟨rfl, rfl⟩
  · rw [if_pos c2] at hf
    refine V.iconst (v := 1) dX12_reckons_11 (by decide) ?_
    obtain rfl := Option.some.inj hf
    exact V.iret dX12_reckons_12 rfl (Nat.le_refl _) (Nat.le_refl _) ⟨rfl, rfl⟩
theorem dX12_tiresOf_0 : decode cX12_tiresOf 0 = .ok (.aload_n 0, 1) := by decide +kernel
theorem dX12_tiresOf_1 : decode cX12_tiresOf 1 = .ok (.iconst 0, 1) := by decide +kernel
theorem dX12_tiresOf_2 : decode cX12_tiresOf 2 = .ok (.iload_n 1, 1) := by decide +kernel
theorem dX12_tiresOf_3 : decode cX12_tiresOf 3 = .ok (.iload_n 2, 1) := by decide +kernel
theorem dX12_tiresOf_4 : decode cX12_tiresOf 4 = .ok (.invokevirtual 237, 3) := by decide +kernel
theorem dX12_tiresOf_7 : decode cX12_tiresOf 7 = .ok (.istore_n 3, 1) := by decide +kernel
theorem dX12_tiresOf_8 : decode cX12_tiresOf 8 = .ok (.iload_n 3, 1) := by decide +kernel
theorem dX12_tiresOf_9 : decode cX12_tiresOf 9 = .ok (.ifCond .ge 7, 3) := by decide +kernel
theorem dX12_tiresOf_12 : decode cX12_tiresOf 12 = .ok (.iconst 0, 1) := by decide +kernel
theorem dX12_tiresOf_13 : decode cX12_tiresOf 13 = .ok (.goto 15, 3) := by decide +kernel
theorem dX12_tiresOf_16 : decode cX12_tiresOf 16 = .ok (.iload_n 3, 1) := by decide +kernel
theorem dX12_tiresOf_17 : decode cX12_tiresOf 17 = .ok (.bipush 99, 2) := by decide +kernel
theorem dX12_tiresOf_19 : decode cX12_tiresOf 19 = .ok (.if_icmp .le 8, 3) := by decide +kernel
theorem dX12_tiresOf_22 : decode cX12_tiresOf 22 = .ok (.bipush 99, 2) := by decide +kernel
theorem dX12_tiresOf_24 : decode cX12_tiresOf 24 = .ok (.goto 4, 3) := by decide +kernel
theorem dX12_tiresOf_27 : decode cX12_tiresOf 27 = .ok (.iload_n 3, 1) := by decide +kernel
theorem dX12_tiresOf_28 : decode cX12_tiresOf 28 = .ok (.ireturn, 1) := by decide +kernel
def r_tiresOf (F : Nat) (I : Nat → Nat → Int32) (z : Nat) (v1 : Int32) (v2 : Int32) : Option (Int32 × (Nat → Nat → Int32)) := (r_reckons F I z 0 v1 v2).bind (fun q1 => let u3 := q1.1; let I4 := q1.2; if 0 ≤ u3 then (if u3 ≤ 99 then (some (u3, I4)) else (some (99, I4))) else (some (0, I4)))
theorem c_r_tiresOf {l : Launch} {D : va_G} {E : Nat → ClassId} {B : Nat → Prop} {n F : Nat} {T : Nat → Option (Nat × Nat)} {I : Nat → Nat → Int32} {J : Nat → Nat → Int64} {P : Nat → Nat → Option Nat} {z : Nat} {v1 : Int32} {v2 : Int32} {r : Int32 × (Nat → Nat → Int32)} (hs_z : isMd T P z) (hf : r_tiresOf F I z v1 v2 = some r) : Ct l D E B yX12_tiresOf cX12_tiresOf 4 (some .int) 4 0 0 [.ref z, .int v1, .int v2] (n, T, I, J, P) (Ret (some (.int r.1)) (n, T, r.2, J, P)) := by
  unfold r_tiresOf at hf
  refine Ct.ofV (by decide) (Nat.le_of_ble_eq_true rfl) ?_
  refine V.aload_n dX12_tiresOf_0 rfl ?_
  refine V.iconst (v := 0) dX12_tiresOf_1 (by decide) ?_
  refine V.iload_n dX12_tiresOf_2 rfl ?_
  refine V.iload_n dX12_tiresOf_3 rfl ?_
  obtain ⟨⟨u3, I4⟩, hk2, hf⟩ := bnd_some hf
  try dsimp only at hf
  refine V.inv cv_X12_237 (c_r_reckons hs_z hk2) dX12_tiresOf_4 (hs_z.1 0 (12, 0) rfl) (by decide) rfl rfl rfl (Nat.le_of_ble_eq_true rfl) (by decide) (by decide) (Nat.le_refl _) (Nat.le_refl _) (fun _ _ hq => ?_)
  obtain ⟨rfl, rfl⟩ := hq
  try dsimp only
  refine V.istore_n dX12_tiresOf_7 rfl (by decide) (by first | exact rfl | exact trivial) ?_
  refine V.iload_n dX12_tiresOf_8 rfl ?_
  refine V.if_ge 16 dX12_tiresOf_9 (by decide) (fun c5 => ?_) (fun c5 => ?_)
  · rw [if_pos c5] at hf
    refine V.iload_n dX12_tiresOf_16 rfl ?_
    refine V.bipush (v := 99) dX12_tiresOf_17 (by decide) ?_
    refine V.icmp_le 27 dX12_tiresOf_19 (by decide) (fun c6 => ?_) (fun c6 => ?_)
    · rw [if_pos c6] at hf
      refine V.iload_n dX12_tiresOf_27 rfl ?_
      obtain rfl := Option.some.inj hf
      exact V.iret dX12_tiresOf_28 rfl (Nat.le_refl _) (Nat.le_refl _) ⟨rfl, rfl⟩
    · rw [if_neg c6] at hf
      refine V.bipush (v := 99) dX12_tiresOf_22 (by decide) ?_
      refine V.goto 28 dX12_tiresOf_24 (by decide) ?_
      obtain rfl := Option.some.inj hf
      exact V.iret dX12_tiresOf_28 rfl (Nat.le_refl _) (Nat.le_refl _) ⟨rfl, rfl⟩
  · rw [if_neg c5] at hf
    refine V.iconst (v := 0) dX12_tiresOf_12 (by decide) ?_
    refine V.goto 28 dX12_tiresOf_13 (by decide) ?_
    obtain rfl := Option.some.inj hf
    exact V.iret dX12_tiresOf_28 rfl (Nat.le_refl _) (Nat.le_refl _) ⟨rfl, rfl⟩
theorem dX12_painsOf_0 : decode cX12_painsOf 0 = .ok (.aload_n 0, 1) := by decide +kernel
theorem dX12_painsOf_1 : decode cX12_painsOf 1 = .ok (.iconst 1, 1) := by decide +kernel
theorem dX12_painsOf_2 : decode cX12_painsOf 2 = .ok (.iload_n 1, 1) := by decide +kernel
theorem dX12_painsOf_3 : decode cX12_painsOf 3 = .ok (.iload_n 2, 1) := by decide +kernel
theorem dX12_painsOf_4 : decode cX12_painsOf 4 = .ok (.invokevirtual 237, 3) := by decide +kernel
theorem dX12_painsOf_7 : decode cX12_painsOf 7 = .ok (.istore_n 3, 1) := by decide +kernel
theorem dX12_painsOf_8 : decode cX12_painsOf 8 = .ok (.iload_n 3, 1) := by decide +kernel
theorem dX12_painsOf_9 : decode cX12_painsOf 9 = .ok (.bipush (-99), 2) := by decide +kernel
theorem dX12_painsOf_11 : decode cX12_painsOf 11 = .ok (.if_icmp .ge 8, 3) := by decide +kernel
theorem dX12_painsOf_14 : decode cX12_painsOf 14 = .ok (.bipush (-99), 2) := by decide +kernel
theorem dX12_painsOf_16 : decode cX12_painsOf 16 = .ok (.goto 15, 3) := by decide +kernel
theorem dX12_painsOf_19 : decode cX12_painsOf 19 = .ok (.iload_n 3, 1) := by decide +kernel
theorem dX12_painsOf_20 : decode cX12_painsOf 20 = .ok (.bipush 99, 2) := by decide +kernel
theorem dX12_painsOf_22 : decode cX12_painsOf 22 = .ok (.if_icmp .le 8, 3) := by decide +kernel
theorem dX12_painsOf_25 : decode cX12_painsOf 25 = .ok (.bipush 99, 2) := by decide +kernel
theorem dX12_painsOf_27 : decode cX12_painsOf 27 = .ok (.goto 4, 3) := by decide +kernel
theorem dX12_painsOf_30 : decode cX12_painsOf 30 = .ok (.iload_n 3, 1) := by decide +kernel
theorem dX12_painsOf_31 : decode cX12_painsOf 31 = .ok (.ireturn, 1) := by decide +kernel
def r_painsOf (F : Nat) (I : Nat → Nat → Int32) (z : Nat) (v1 : Int32) (v2 : Int32) : Option (Int32 × (Nat → Nat → Int32)) := (r_reckons F I z 1 v1 v2).bind (fun q1 => let u3 := q1.1; let I4 := q1.2; if (-99) ≤ u3 then (if u3 ≤ 99 then (some (u3, I4)) else (some (99, I4))) else (some ((-99), I4)))
theorem c_r_painsOf {l : Launch} {D : va_G} {E : Nat → ClassId} {B : Nat → Prop} {n F : Nat} {T : Nat → Option (Nat × Nat)} {I : Nat → Nat → Int32} {J : Nat → Nat → Int64} {P : Nat → Nat → Option Nat} {z : Nat} {v1 : Int32} {v2 : Int32} {r : Int32 × (Nat → Nat → Int32)} (hs_z : isMd T P z) (hf : r_painsOf F I z v1 v2 = some r) : Ct l D E B yX12_painsOf cX12_painsOf 4 (some .int) 4 0 0 [.ref z, .int v1, .int v2] (n, T, I, J, P) (Ret (some (.int r.1)) (n, T, r.2, J, P)) := by
  unfold r_painsOf at hf
  refine Ct.ofV (by decide) (Nat.le_of_ble_eq_true rfl) ?_
  refine V.aload_n dX12_painsOf_0 rfl ?_
  refine V.iconst (v := 1) dX12_painsOf_1 (by decide) ?_
  refine V.iload_n dX12_painsOf_2 rfl ?_
  refine V.iload_n dX12_painsOf_3 rfl ?_
  obtain ⟨⟨u3, I4⟩, hk2, hf⟩ := bnd_some hf
  try dsimp only at hf
  refine V.inv cv_X12_237 (c_r_reckons hs_z hk2) dX12_painsOf_4 (hs_z.1 0 (12, 0) rfl) (by decide) rfl rfl rfl (Nat.le_of_ble_eq_true rfl) (by decide) (by decide) (Nat.le_refl _) (Nat.le_refl _) (fun _ _ hq => ?_)
  obtain ⟨rfl, rfl⟩ := hq
  try dsimp only
  refine V.istore_n dX12_painsOf_7 rfl (by decide) (by first | exact rfl | exact trivial) ?_
  refine V.iload_n dX12_painsOf_8 rfl ?_
  refine V.bipush (v := -99) dX12_painsOf_9 (by decide) ?_
  refine V.icmp_ge 19 dX12_painsOf_11 (by decide) (fun c5 => ?_) (fun c5 => ?_)
  · rw [if_pos c5] at hf
    refine V.iload_n dX12_painsOf_19 rfl ?_
    refine V.bipush (v := 99) dX12_painsOf_20 (by decide) ?_
    refine V.icmp_le 30 dX12_painsOf_22 (by decide) (fun c6 => ?_) (fun c6 => ?_)
    · rw [if_pos c6] at hf
      refine V.iload_n dX12_painsOf_30 rfl ?_
      obtain rfl := Option.some.inj hf
      exact V.iret dX12_painsOf_31 rfl (Nat.le_refl _) (Nat.le_refl _) ⟨rfl, rfl⟩
    · rw [if_neg c6] at hf
      refine V.bipush (v := 99) dX12_painsOf_25 (by decide) ?_
      refine V.goto 31 dX12_painsOf_27 (by decide) ?_
      obtain rfl := Option.some.inj hf
      exact V.iret dX12_painsOf_31 rfl (Nat.le_refl _) (Nat.le_refl _) ⟨rfl, rfl⟩
  · rw [if_neg c5] at hf
    refine V.bipush (v := -99) dX12_painsOf_14 (by decide) ?_
    refine V.goto 31 dX12_painsOf_16 (by decide) ?_
    obtain rfl := Option.some.inj hf
    exact V.iret dX12_painsOf_31 rfl (Nat.le_refl _) (Nat.le_refl _) ⟨rfl, rfl⟩
theorem dX12_isAhead_0 : decode cX12_isAhead 0 = .ok (.aload_n 0, 1) := by decide +kernel
theorem dX12_isAhead_1 : decode cX12_isAhead 1 = .ok (.iload_n 1, 1) := by decide +kernel
theorem dX12_isAhead_2 : decode cX12_isAhead 2 = .ok (.invokevirtual 218, 3) := by decide +kernel
theorem dX12_isAhead_5 : decode cX12_isAhead 5 = .ok (.aload_n 0, 1) := by decide +kernel
theorem dX12_isAhead_6 : decode cX12_isAhead 6 = .ok (.iload_n 2, 1) := by decide +kernel
theorem dX12_isAhead_7 : decode cX12_isAhead 7 = .ok (.invokevirtual 218, 3) := by decide +kernel
theorem dX12_isAhead_10 : decode cX12_isAhead 10 = .ok (.if_icmp .eq 9, 3) := by decide +kernel
theorem dX12_isAhead_13 : decode cX12_isAhead 13 = .ok (.aload_n 0, 1) := by decide +kernel
theorem dX12_isAhead_14 : decode cX12_isAhead 14 = .ok (.iload_n 1, 1) := by decide +kernel
theorem dX12_isAhead_15 : decode cX12_isAhead 15 = .ok (.invokevirtual 218, 3) := by decide +kernel
theorem dX12_isAhead_18 : decode cX12_isAhead 18 = .ok (.ireturn, 1) := by decide +kernel
theorem dX12_isAhead_19 : decode cX12_isAhead 19 = .ok (.aload_n 0, 1) := by decide +kernel
theorem dX12_isAhead_20 : decode cX12_isAhead 20 = .ok (.iload_n 1, 1) := by decide +kernel
theorem dX12_isAhead_21 : decode cX12_isAhead 21 = .ok (.invokevirtual 218, 3) := by decide +kernel
theorem dX12_isAhead_24 : decode cX12_isAhead 24 = .ok (.ifCond .ne 24, 3) := by decide +kernel
theorem dX12_isAhead_27 : decode cX12_isAhead 27 = .ok (.aload_n 0, 1) := by decide +kernel
theorem dX12_isAhead_28 : decode cX12_isAhead 28 = .ok (.getfield 13, 3) := by decide +kernel
theorem dX12_isAhead_31 : decode cX12_isAhead 31 = .ok (.bipush 53, 2) := by decide +kernel
theorem dX12_isAhead_33 : decode cX12_isAhead 33 = .ok (.iload_n 1, 1) := by decide +kernel
theorem dX12_isAhead_34 : decode cX12_isAhead 34 = .ok (.iadd, 1) := by decide +kernel
theorem dX12_isAhead_35 : decode cX12_isAhead 35 = .ok (.iaload, 1) := by decide +kernel
theorem dX12_isAhead_36 : decode cX12_isAhead 36 = .ok (.aload_n 0, 1) := by decide +kernel
theorem dX12_isAhead_37 : decode cX12_isAhead 37 = .ok (.getfield 13, 3) := by decide +kernel
theorem dX12_isAhead_40 : decode cX12_isAhead 40 = .ok (.bipush 53, 2) := by decide +kernel
theorem dX12_isAhead_42 : decode cX12_isAhead 42 = .ok (.iload_n 2, 1) := by decide +kernel
theorem dX12_isAhead_43 : decode cX12_isAhead 43 = .ok (.iadd, 1) := by decide +kernel
theorem dX12_isAhead_44 : decode cX12_isAhead 44 = .ok (.iaload, 1) := by decide +kernel
theorem dX12_isAhead_45 : decode cX12_isAhead 45 = .ok (.if_icmp .ne 16, 3) := by decide +kernel
theorem dX12_isAhead_48 : decode cX12_isAhead 48 = .ok (.iload_n 1, 1) := by decide +kernel
theorem dX12_isAhead_49 : decode cX12_isAhead 49 = .ok (.iload_n 2, 1) := by decide +kernel
theorem dX12_isAhead_50 : decode cX12_isAhead 50 = .ok (.if_icmp .ge 7, 3) := by decide +kernel
theorem dX12_isAhead_53 : decode cX12_isAhead 53 = .ok (.iconst 1, 1) := by decide +kernel
theorem dX12_isAhead_54 : decode cX12_isAhead 54 = .ok (.goto 33, 3) := by decide +kernel
theorem dX12_isAhead_57 : decode cX12_isAhead 57 = .ok (.iconst 0, 1) := by decide +kernel
theorem dX12_isAhead_58 : decode cX12_isAhead 58 = .ok (.goto 29, 3) := by decide +kernel
theorem dX12_isAhead_61 : decode cX12_isAhead 61 = .ok (.aload_n 0, 1) := by decide +kernel
theorem dX12_isAhead_62 : decode cX12_isAhead 62 = .ok (.getfield 13, 3) := by decide +kernel
theorem dX12_isAhead_65 : decode cX12_isAhead 65 = .ok (.bipush 53, 2) := by decide +kernel
theorem dX12_isAhead_67 : decode cX12_isAhead 67 = .ok (.iload_n 1, 1) := by decide +kernel
theorem dX12_isAhead_68 : decode cX12_isAhead 68 = .ok (.iadd, 1) := by decide +kernel
theorem dX12_isAhead_69 : decode cX12_isAhead 69 = .ok (.iaload, 1) := by decide +kernel
theorem dX12_isAhead_70 : decode cX12_isAhead 70 = .ok (.aload_n 0, 1) := by decide +kernel
theorem dX12_isAhead_71 : decode cX12_isAhead 71 = .ok (.getfield 13, 3) := by decide +kernel
theorem dX12_isAhead_74 : decode cX12_isAhead 74 = .ok (.bipush 53, 2) := by decide +kernel
theorem dX12_isAhead_76 : decode cX12_isAhead 76 = .ok (.iload_n 2, 1) := by decide +kernel
theorem dX12_isAhead_77 : decode cX12_isAhead 77 = .ok (.iadd, 1) := by decide +kernel
theorem dX12_isAhead_78 : decode cX12_isAhead 78 = .ok (.iaload, 1) := by decide +kernel
theorem dX12_isAhead_79 : decode cX12_isAhead 79 = .ok (.if_icmp .le 7, 3) := by decide +kernel
theorem dX12_isAhead_82 : decode cX12_isAhead 82 = .ok (.iconst 1, 1) := by decide +kernel
theorem dX12_isAhead_83 : decode cX12_isAhead 83 = .ok (.goto 4, 3) := by decide +kernel
theorem dX12_isAhead_86 : decode cX12_isAhead 86 = .ok (.iconst 0, 1) := by decide +kernel
theorem dX12_isAhead_87 : decode cX12_isAhead 87 = .ok (.ireturn, 1) := by decide +kernel
def r_isAhead (I : Nat → Nat → Int32) (z : Nat) (v1 : Int32) (v2 : Int32) : Option (Int32) := (r_isUp I z v1).bind (fun q1 => let u3 := q1; (r_isUp I z v2).bind (fun q4 => let u6 := q4; if u3 = u6 then ((r_isUp I z v1).bind (fun q8 => let u10 := q8; if u10 = 0 then (chk (53 + v1) 3891 (chk (53 + v2) 3891 (if (I (z + 1) (Int32.toNatClampNeg (53 + v1))) = (I (z + 1) (Int32.toNatClampNeg (53 + v2))) then (if v2 ≤ v1 then (some 0) else (some 1)) else (if (I (z + 1) (Int32.toNatClampNeg (53 + v1))) ≤ (I (z + 1) (Int32.toNatClampNeg (53 + v2))) then (some 0) else (some 1))))) else (if v2 ≤ v1 then (some 0) else (some 1)))) else ((r_isUp I z v1).bind (fun q18 => let u20 := q18; isb u20 (some u20)))))
theorem c_r_isAhead {l : Launch} {D : va_G} {E : Nat → ClassId} {B : Nat → Prop} {n : Nat} {T : Nat → Option (Nat × Nat)} {I : Nat → Nat → Int32} {J : Nat → Nat → Int64} {P : Nat → Nat → Option Nat} {z : Nat} {v1 : Int32} {v2 : Int32} {r : Int32} (hs_z : isMd T P z) (hf : r_isAhead I z v1 v2 = some r) : Ct l D E B yX12_isAhead cX12_isAhead 3 (some .boolean) 2 0 0 [.ref z, .int v1, .int v2] (n, T, I, J, P) (Ret (some (.int r)) (n, T, I, J, P)) := by
  unfold r_isAhead at hf
  refine Ct.ofV (by decide) (Nat.le_of_ble_eq_true rfl) ?_
  refine V.aload_n dX12_isAhead_0 rfl ?_
  refine V.iload_n dX12_isAhead_1 rfl ?_
  obtain ⟨u3, hk2, hf⟩ := bnd_some hf
  try dsimp only at hf
  refine V.inv cv_X12_218 (c_r_isUp hs_z hk2) dX12_isAhead_2 (hs_z.1 0 (12, 0) rfl) (by decide) rfl rfl rfl (Nat.le_of_ble_eq_true rfl) (by decide) (by decide) (Nat.le_refl _) (Nat.le_refl _) (fun _ _ hq => ?_)
  obtain ⟨rfl, rfl⟩ := hq
  refine V.aload_n dX12_isAhead_5 rfl ?_
  refine V.iload_n dX12_isAhead_6 rfl ?_
  obtain ⟨u6, hk5, hf⟩ := bnd_some hf
  try dsimp only at hf
  refine V.inv cv_X12_218 (c_r_isUp hs_z hk5) dX12_isAhead_7 (hs_z.1 0 (12, 0) rfl) (by decide) rfl rfl rfl (Nat.le_of_ble_eq_true rfl) (by decide) (by decide) (Nat.le_refl _) (Nat.le_refl _) (fun _ _ hq => ?_)
  obtain ⟨rfl, rfl⟩ := hq
  refine V.icmp_eq 19 dX12_isAhead_10 (by decide) (fun c7 => ?_) (fun c7 => ?_)
  · rw [if_pos c7] at hf
    refine V.aload_n dX12_isAhead_19 rfl ?_
    refine V.iload_n dX12_isAhead_20 rfl ?_
    obtain ⟨u10, hk9, hf⟩ := bnd_some hf
    try dsimp only at hf
    refine V.inv cv_X12_218 (c_r_isUp hs_z hk9) dX12_isAhead_21 (hs_z.1 0 (12, 0) rfl) (by decide) rfl rfl rfl (Nat.le_of_ble_eq_true rfl) (by decide) (by decide) (Nat.le_refl _) (Nat.le_refl _) (fun _ _ hq => ?_)
    obtain ⟨rfl, rfl⟩ := hq
    refine V.if_ne 48 dX12_isAhead_24 (by decide) (fun c11 => ?_) (fun c11 => ?_)
    · rw [if_neg c11] at hf
      refine V.iload_n dX12_isAhead_48 rfl ?_
      refine V.iload_n dX12_isAhead_49 rfl ?_
      refine V.icmp_ge 57 dX12_isAhead_50 (by decide) (fun c12 => ?_) (fun c12 => ?_)
      · rw [if_pos c12] at hf
        refine V.iconst (v := 0) dX12_isAhead_57 (by decide) ?_
        refine V.goto 87 dX12_isAhead_58 (by decide) ?_
        obtain rfl := Option.some.inj hf
        exact V.zret dX12_isAhead_87 rfl rfl (Nat.le_refl _) (Nat.le_refl _) ⟨rfl, rfl⟩
      · rw [if_neg c12] at hf
        refine V.iconst (v := 1) dX12_isAhead_53 (by decide) ?_
        refine V.goto 87 dX12_isAhead_54 (by decide) ?_
        obtain rfl := Option.some.inj hf
        exact V.zret dX12_isAhead_87 rfl rfl (Nat.le_refl _) (Nat.le_refl _) ⟨rfl, rfl⟩
    · rw [if_pos c11] at hf
      refine V.aload_n dX12_isAhead_27 rfl ?_
      refine V.getr fl_X12_13 dX12_isAhead_28 (hs_z.1 0 (12, 0) rfl) (hs_z.2 0 1 1 rfl) (by decide) rfl ?_
      refine V.bipush (v := 53) dX12_isAhead_31 (by decide) ?_
      refine V.iload_n dX12_isAhead_33 rfl ?_
      refine V.iadd dX12_isAhead_34 ?_
      obtain ⟨hb13, hf⟩ := chk_some hf
      refine V.iald dX12_isAhead_35 (hs_z.1 1 (20, 3891) rfl) hb13 ?_
      refine V.aload_n dX12_isAhead_36 rfl ?_
      refine V.getr fl_X12_13 dX12_isAhead_37 (hs_z.1 0 (12, 0) rfl) (hs_z.2 0 1 1 rfl) (by decide) rfl ?_
      refine V.bipush (v := 53) dX12_isAhead_40 (by decide) ?_
      refine V.iload_n dX12_isAhead_42 rfl ?_
      refine V.iadd dX12_isAhead_43 ?_
      obtain ⟨hb14, hf⟩ := chk_some hf
      refine V.iald dX12_isAhead_44 (hs_z.1 1 (20, 3891) rfl) hb14 ?_
      refine V.icmp_ne 61 dX12_isAhead_45 (by decide) (fun c15 => ?_) (fun c15 => ?_)
      · rw [if_neg c15] at hf
        refine V.aload_n dX12_isAhead_61 rfl ?_
        refine V.getr fl_X12_13 dX12_isAhead_62 (hs_z.1 0 (12, 0) rfl) (hs_z.2 0 1 1 rfl) (by decide) rfl ?_
        refine V.bipush (v := 53) dX12_isAhead_65 (by decide) ?_
        refine V.iload_n dX12_isAhead_67 rfl ?_
        refine V.iadd dX12_isAhead_68 ?_
        refine V.iald dX12_isAhead_69 (hs_z.1 1 (20, 3891) rfl) hb13 ?_
        refine V.aload_n dX12_isAhead_70 rfl ?_
        refine V.getr fl_X12_13 dX12_isAhead_71 (hs_z.1 0 (12, 0) rfl) (hs_z.2 0 1 1 rfl) (by decide) rfl ?_
        refine V.bipush (v := 53) dX12_isAhead_74 (by decide) ?_
        refine V.iload_n dX12_isAhead_76 rfl ?_
        refine V.iadd dX12_isAhead_77 ?_
        refine V.iald dX12_isAhead_78 (hs_z.1 1 (20, 3891) rfl) hb14 ?_
        refine V.icmp_le 86 dX12_isAhead_79 (by decide) (fun c16 => ?_) (fun c16 => ?_)
        · rw [if_pos c16] at hf
          refine V.iconst (v := 0) dX12_isAhead_86 (by decide) ?_
          obtain rfl := Option.some.inj hf
          exact V.zret dX12_isAhead_87 rfl rfl (Nat.le_refl _) (Nat.le_refl _) ⟨rfl, rfl⟩
        · rw [if_neg c16] at hf
          refine V.iconst (v := 1) dX12_isAhead_82 (by decide) ?_
          refine V.goto 87 dX12_isAhead_83 (by decide) ?_
          obtain rfl := Option.some.inj hf
          exact V.zret dX12_isAhead_87 rfl rfl (Nat.le_refl _) (Nat.le_refl _) ⟨rfl, rfl⟩
      · rw [if_pos c15] at hf
        refine V.iload_n dX12_isAhead_48 rfl ?_
        refine V.iload_n dX12_isAhead_49 rfl ?_
        refine V.icmp_ge 57 dX12_isAhead_50 (by decide) (fun c17 => ?_) (fun c17 => ?_)
        · rw [if_pos c17] at hf
          refine V.iconst (v := 0) dX12_isAhead_57 (by decide) ?_
          refine V.goto 87 dX12_isAhead_58 (by decide) ?_
          obtain rfl := Option.some.inj hf
          exact V.zret dX12_isAhead_87 rfl rfl (Nat.le_refl _) (Nat.le_refl _) ⟨rfl, rfl⟩
        · rw [if_neg c17] at hf
          refine V.iconst (v := 1) dX12_isAhead_53 (by decide) ?_
          refine V.goto 87 dX12_isAhead_54 (by decide) ?_
          obtain rfl := Option.some.inj hf
          exact V.zret dX12_isAhead_87 rfl rfl (Nat.le_refl _) (Nat.le_refl _) ⟨rfl, rfl⟩
  · rw [if_neg c7] at hf
    refine V.aload_n dX12_isAhead_13 rfl ?_
    refine V.iload_n dX12_isAhead_14 rfl ?_
    obtain ⟨u20, hk19, hf⟩ := bnd_some hf
    try dsimp only at hf
    refine V.inv cv_X12_218 (c_r_isUp hs_z hk19) dX12_isAhead_15 (hs_z.1 0 (12, 0) rfl) (by decide) rfl rfl rfl (Nat.le_of_ble_eq_true rfl) (by decide) (by decide) (Nat.le_refl _) (Nat.le_refl _) (fun _ _ hq => ?_)
    obtain ⟨rfl, rfl⟩ := hq
    obtain ⟨hn21, hf⟩ := isb_some hf
    obtain rfl := Option.some.inj hf
    exact V.zret dX12_isAhead_18 rfl hn21 (Nat.le_refl _) (Nat.le_refl _) ⟨rfl, rfl⟩
theorem dX12_placeOf_0 : decode cX12_placeOf 0 = .ok (.iconst 0, 1) := by decide +kernel
theorem dX12_placeOf_1 : decode cX12_placeOf 1 = .ok (.istore_n 2, 1) := by decide +kernel
theorem dX12_placeOf_2 : decode cX12_placeOf 2 = .ok (.iconst 0, 1) := by decide +kernel
theorem dX12_placeOf_3 : decode cX12_placeOf 3 = .ok (.istore_n 3, 1) := by decide +kernel
theorem dX12_placeOf_4 : decode cX12_placeOf 4 = .ok (.iload_n 3, 1) := by decide +kernel
theorem dX12_placeOf_5 : decode cX12_placeOf 5 = .ok (.aload_n 0, 1) := by decide +kernel
theorem dX12_placeOf_6 : decode cX12_placeOf 6 = .ok (.getfield 13, 3) := by decide +kernel
theorem dX12_placeOf_9 : decode cX12_placeOf 9 = .ok (.iconst 1, 1) := by decide +kernel
theorem dX12_placeOf_10 : decode cX12_placeOf 10 = .ok (.iaload, 1) := by decide +kernel
theorem dX12_placeOf_11 : decode cX12_placeOf 11 = .ok (.if_icmp .ge 31, 3) := by decide +kernel
theorem dX12_placeOf_14 : decode cX12_placeOf 14 = .ok (.iload_n 2, 1) := by decide +kernel
theorem dX12_placeOf_15 : decode cX12_placeOf 15 = .ok (.iload_n 3, 1) := by decide +kernel
theorem dX12_placeOf_16 : decode cX12_placeOf 16 = .ok (.iload_n 1, 1) := by decide +kernel
theorem dX12_placeOf_17 : decode cX12_placeOf 17 = .ok (.if_icmp .eq 16, 3) := by decide +kernel
theorem dX12_placeOf_20 : decode cX12_placeOf 20 = .ok (.aload_n 0, 1) := by decide +kernel
theorem dX12_placeOf_21 : decode cX12_placeOf 21 = .ok (.iload_n 3, 1) := by decide +kernel
theorem dX12_placeOf_22 : decode cX12_placeOf 22 = .ok (.iload_n 1, 1) := by decide +kernel
theorem dX12_placeOf_23 : decode cX12_placeOf 23 = .ok (.invokevirtual 240, 3) := by decide +kernel
theorem dX12_placeOf_26 : decode cX12_placeOf 26 = .ok (.ifCond .eq 7, 3) := by decide +kernel
theorem dX12_placeOf_29 : decode cX12_placeOf 29 = .ok (.iconst 1, 1) := by decide +kernel
theorem dX12_placeOf_30 : decode cX12_placeOf 30 = .ok (.goto 4, 3) := by decide +kernel
theorem dX12_placeOf_33 : decode cX12_placeOf 33 = .ok (.iconst 0, 1) := by decide +kernel
theorem dX12_placeOf_34 : decode cX12_placeOf 34 = .ok (.iadd, 1) := by decide +kernel
theorem dX12_placeOf_35 : decode cX12_placeOf 35 = .ok (.istore_n 2, 1) := by decide +kernel
theorem dX12_placeOf_36 : decode cX12_placeOf 36 = .ok (.iinc 3 1, 3) := by decide +kernel
theorem dX12_placeOf_39 : decode cX12_placeOf 39 = .ok (.goto (-35), 3) := by decide +kernel
theorem dX12_placeOf_42 : decode cX12_placeOf 42 = .ok (.iload_n 2, 1) := by decide +kernel
theorem dX12_placeOf_43 : decode cX12_placeOf 43 = .ok (.ireturn, 1) := by decide +kernel
def r_placeOf_4 (F : Nat) (I : Nat → Nat → Int32) (z : Nat) (g1 : Int32) : Nat → Int32 → Int32 → Option (Int32 × Int32)
  | 0, _, _ => none
  | k + 1, l2, l3 => if (I (z + 1) (Int32.toNatClampNeg 1)) ≤ l3 then (some (l2, l3)) else (if l3 = g1 then (let x3 := (l2 + 0); r_placeOf_4 F I z g1 k x3 (l3 + 1)) else ((r_isAhead I z l3 g1).bind (fun q5 => let u7 := q5; if u7 = 0 then (let x9 := (l2 + 0); r_placeOf_4 F I z g1 k x9 (l3 + 1)) else (let x11 := (l2 + 1); r_placeOf_4 F I z g1 k x11 (l3 + 1)))))
def r_placeOf (F : Nat) (I : Nat → Nat → Int32) (z : Nat) (v1 : Int32) : Option (Int32) := (r_placeOf_4 F I z v1 F 0 0).bind (fun q13 => let m15 := q13.1; let m16 := q13.2; some m15)
theorem l_r_placeOf_4 {l : Launch} {D : va_G} {E : Nat → ClassId} {B : Nat → Prop} {n F : Nat} {Q : Option Value → HT → Prop} {T : Nat → Option (Nat × Nat)} {I : Nat → Nat → Int32} {J : Nat → Nat → Int64} {P : Nat → Nat → Option Nat} {z : Nat} {g1 : Int32} (hs_z : isMd T P z)  (r : Int32 × Int32) : ∀ (k : Nat) (l2 : Int32) (l3 : Int32), r_placeOf_4 F I z g1 k l2 l3 = some r → V l D E B yX12_placeOf cX12_placeOf 4 (some .int) 3 0 0 Q 0 0 (n, T, I, J, P) 42 [(0, some (.ref z)), (1, some (.int g1)), (2, some (.int (r.1))), (3, some (.int (r.2)))] [] → V l D E B yX12_placeOf cX12_placeOf 4 (some .int) 3 0 0 Q 0 0 (n, T, I, J, P) 4 [(0, some (.ref z)), (1, some (.int g1)), (2, some (.int l2)), (3, some (.int l3))] [] := by
  intro k
  induction k with
  | zero =>
    intro l2 l3 hf hk
    cases hf
  | succ k ih =>
    intro l2 l3 hf hk
    unfold r_placeOf_4 at hf
    refine V.iload_n dX12_placeOf_4 rfl ?_
    refine V.aload_n dX12_placeOf_5 rfl ?_
    refine V.getr fl_X12_13 dX12_placeOf_6 (hs_z.1 0 (12, 0) rfl) (hs_z.2 0 1 1 rfl) (by decide) rfl ?_
    refine V.iconst (v := 1) dX12_placeOf_9 (by decide) ?_
    refine V.iald dX12_placeOf_10 (hs_z.1 1 (20, 3891) rfl) (vp_lit (by decide)) ?_
    refine V.icmp_ge 42 dX12_placeOf_11 (by decide) (fun c1 => ?_) (fun c1 => ?_)
    · rw [if_pos c1] at hf
      obtain rfl := Option.some.inj hf
      exact V.lo [(0, some (.ref z)), (1, some (.int g1)), (2, some (.int l2)), (3, some (.int l3))] (by simp only [Subs]; repeat' first | exact trivial | constructor | rfl) hk
    · rw [if_neg c1] at hf
      refine V.iload_n dX12_placeOf_14 rfl ?_
      refine V.iload_n dX12_placeOf_15 rfl ?_
      refine V.iload_n dX12_placeOf_16 rfl ?_
      refine V.icmp_eq 33 dX12_placeOf_17 (by decide) (fun c2 => ?_) (fun c2 => ?_)
      · rw [if_pos c2] at hf
        refine V.iconst (v := 0) dX12_placeOf_33 (by decide) ?_
        refine V.iadd dX12_placeOf_34 ?_
        refine V.istore_n dX12_placeOf_35 rfl (by decide) (by first | exact rfl | exact trivial) ?_
        obtain ⟨x3, e4⟩ : ∃ zz_, zz_ = (l2 + 0) := ⟨_, rfl⟩
        rw [← e4] at hf ⊢
        try dsimp only at hf
        refine V.iinc (v := (l3 + 1)) dX12_placeOf_36 rfl rfl (by first | exact rfl | exact trivial) ?_
        refine V.goto 4 dX12_placeOf_39 (by decide) ?_
        exact V.lo [(0, some (.ref z)), (1, some (.int g1)), (2, some (.int x3)), (3, some (.int (l3 + 1)))] (by simp only [Subs]; repeat' first | exact trivial | constructor | rfl) (ih _ _ hf hk)
      · rw [if_neg c2] at hf
        refine V.aload_n dX12_placeOf_20 rfl ?_
        refine V.iload_n dX12_placeOf_21 rfl ?_
        refine V.iload_n dX12_placeOf_22 rfl ?_
        obtain ⟨u7, hk6, hf⟩ := bnd_some hf
        try dsimp only at hf
        refine V.inv cv_X12_240 (c_r_isAhead hs_z hk6) dX12_placeOf_23 (hs_z.1 0 (12, 0) rfl) (by decide) rfl rfl rfl (Nat.le_of_ble_eq_true rfl) (by decide) (by decide) (Nat.le_refl _) (Nat.le_refl _) (fun _ _ hq => ?_)
        obtain ⟨rfl, rfl⟩ := hq
        refine V.if_eq 33 dX12_placeOf_26 (by decide) (fun c8 => ?_) (fun c8 => ?_)
        · rw [if_pos c8] at hf
          refine V.iconst (v := 0) dX12_placeOf_33 (by decide) ?_
          refine V.iadd dX12_placeOf_34 ?_
          refine V.istore_n dX12_placeOf_35 rfl (by decide) (by first | exact rfl | exact trivial) ?_
          obtain ⟨x9, e10⟩ : ∃ zz_, zz_ = (l2 + 0) := ⟨_, rfl⟩
          rw [← e10] at hf ⊢
          try dsimp only at hf
          refine V.iinc (v := (l3 + 1)) dX12_placeOf_36 rfl rfl (by first | exact rfl | exact trivial) ?_
          refine V.goto 4 dX12_placeOf_39 (by decide) ?_
          exact V.lo [(0, some (.ref z)), (1, some (.int g1)), (2, some (.int x9)), (3, some (.int (l3 + 1)))] (by simp only [Subs]; repeat' first | exact trivial | constructor | rfl) (ih _ _ hf hk)
        · rw [if_neg c8] at hf
          refine V.iconst (v := 1) dX12_placeOf_29 (by decide) ?_
          refine V.goto 34 dX12_placeOf_30 (by decide) ?_
          refine V.iadd dX12_placeOf_34 ?_
          refine V.istore_n dX12_placeOf_35 rfl (by decide) (by first | exact rfl | exact trivial) ?_
          obtain ⟨x11, e12⟩ : ∃ zz_, zz_ = (l2 + 1) := ⟨_, rfl⟩
          rw [← e12] at hf ⊢
          try dsimp only at hf
          refine V.iinc (v := (l3 + 1)) dX12_placeOf_36 rfl rfl (by first | exact rfl | exact trivial) ?_
          refine V.goto 4 dX12_placeOf_39 (by decide) ?_
          exact V.lo [(0, some (.ref z)), (1, some (.int g1)), (2, some (.int x11)), (3, some (.int (l3 + 1)))] (by simp only [Subs]; repeat' first | exact trivial | constructor | rfl) (ih _ _ hf hk)
theorem c_r_placeOf {l : Launch} {D : va_G} {E : Nat → ClassId} {B : Nat → Prop} {n F : Nat} {T : Nat → Option (Nat × Nat)} {I : Nat → Nat → Int32} {J : Nat → Nat → Int64} {P : Nat → Nat → Option Nat} {z : Nat} {v1 : Int32} {r : Int32} (hs_z : isMd T P z) (hf : r_placeOf F I z v1 = some r) : Ct l D E B yX12_placeOf cX12_placeOf 4 (some .int) 3 0 0 [.ref z, .int v1] (n, T, I, J, P) (Ret (some (.int r)) (n, T, I, J, P)) := by
  unfold r_placeOf at hf
  refine Ct.ofV (by decide) (Nat.le_of_ble_eq_true rfl) ?_
  refine V.iconst (v := 0) dX12_placeOf_0 (by decide) ?_
  refine V.istore_n dX12_placeOf_1 rfl (by decide) (by first | exact rfl | exact trivial) ?_
  refine V.iconst (v := 0) dX12_placeOf_2 (by decide) ?_
  refine V.istore_n dX12_placeOf_3 rfl (by decide) (by first | exact rfl | exact trivial) ?_
  obtain ⟨⟨m15, m16⟩, hk14, hf⟩ := bnd_some hf
  try dsimp only at hf
  refine V.lo [(0, some (.ref z)), (1, some (.int v1)), (2, some (.int 0)), (3, some (.int 0))] (by simp only [Subs]; repeat' first | exact trivial | constructor | rfl) (l_r_placeOf_4 hs_z _ F _ _ hk14 ?_)
  try dsimp only
  refine V.iload_n dX12_placeOf_42 rfl ?_
  obtain rfl := Option.some.inj hf
  exact V.iret dX12_placeOf_43 rfl (Nat.le_refl _) (Nat.le_refl _) ⟨rfl, rfl⟩
theorem dX12_firstNow_0 : decode cX12_firstNow 0 = .ok (.iconst 0, 1) := by decide +kernel
theorem dX12_firstNow_1 : decode cX12_firstNow 1 = .ok (.istore_n 1, 1) := by decide +kernel
theorem dX12_firstNow_2 : decode cX12_firstNow 2 = .ok (.iload_n 1, 1) := by decide +kernel
theorem dX12_firstNow_3 : decode cX12_firstNow 3 = .ok (.aload_n 0, 1) := by decide +kernel
theorem dX12_firstNow_4 : decode cX12_firstNow 4 = .ok (.getfield 13, 3) := by decide +kernel
theorem dX12_firstNow_7 : decode cX12_firstNow 7 = .ok (.iconst 1, 1) := by decide +kernel
theorem dX12_firstNow_8 : decode cX12_firstNow 8 = .ok (.iaload, 1) := by decide +kernel
theorem dX12_firstNow_9 : decode cX12_firstNow 9 = .ok (.if_icmp .ge 19, 3) := by decide +kernel
theorem dX12_firstNow_12 : decode cX12_firstNow 12 = .ok (.aload_n 0, 1) := by decide +kernel
theorem dX12_firstNow_13 : decode cX12_firstNow 13 = .ok (.iload_n 1, 1) := by decide +kernel
theorem dX12_firstNow_14 : decode cX12_firstNow 14 = .ok (.invokevirtual 244, 3) := by decide +kernel
theorem dX12_firstNow_17 : decode cX12_firstNow 17 = .ok (.ifCond .ne 5, 3) := by decide +kernel
theorem dX12_firstNow_20 : decode cX12_firstNow 20 = .ok (.iload_n 1, 1) := by decide +kernel
theorem dX12_firstNow_21 : decode cX12_firstNow 21 = .ok (.ireturn, 1) := by decide +kernel
theorem dX12_firstNow_22 : decode cX12_firstNow 22 = .ok (.iinc 1 1, 3) := by decide +kernel
theorem dX12_firstNow_25 : decode cX12_firstNow 25 = .ok (.goto (-23), 3) := by decide +kernel
theorem dX12_firstNow_28 : decode cX12_firstNow 28 = .ok (.iconst (-1), 1) := by decide +kernel
theorem dX12_firstNow_29 : decode cX12_firstNow 29 = .ok (.ireturn, 1) := by decide +kernel
def r_firstNow_2 (F : Nat) (I : Nat → Nat → Int32) (z : Nat) : Nat → Int32 → Option ((Int32) ⊕ (Int32))
  | 0, _ => none
  | k + 1, l1 => if (I (z + 1) (Int32.toNatClampNeg 1)) ≤ l1 then (some (.inr l1)) else ((r_placeOf F I z l1).bind (fun q2 => let u4 := q2; if u4 = 0 then (some (.inl l1)) else (r_firstNow_2 F I z k (l1 + 1))))
def r_firstNow (F : Nat) (I : Nat → Nat → Int32) (z : Nat) : Option (Int32) := (r_firstNow_2 F I z F 0).bind (fun q6 => match q6 with | .inl r0 => some r0 | .inr q0 => let m8 := q0; some (-1))
theorem l_r_firstNow_2 {l : Launch} {D : va_G} {E : Nat → ClassId} {B : Nat → Prop} {n F : Nat} {Q : Option Value → HT → Prop} {T : Nat → Option (Nat × Nat)} {I : Nat → Nat → Int32} {J : Nat → Nat → Int64} {P : Nat → Nat → Option Nat} {z : Nat}  (hs_z : isMd T P z)  (r : (Int32) ⊕ (Int32)) : ∀ (k : Nat) (l1 : Int32), r_firstNow_2 F I z k l1 = some r → (match r with | .inl r => Q (some (.int r)) (n, T, I, J, P) | .inr r => V l D E B yX12_firstNow cX12_firstNow 2 (some .int) 4 0 0 Q 0 0 (n, T, I, J, P) 28 [(0, some (.ref z)), (1, some (.int r))] []) → V l D E B yX12_firstNow cX12_firstNow 2 (some .int) 4 0 0 Q 0 0 (n, T, I, J, P) 2 [(0, some (.ref z)), (1, some (.int l1))] [] := by
  intro k
  induction k with
  | zero =>
    intro l1 hf hk
    cases hf
  | succ k ih =>
    intro l1 hf hk
    unfold r_firstNow_2 at hf
    refine V.iload_n dX12_firstNow_2 rfl ?_
    refine V.aload_n dX12_firstNow_3 rfl ?_
    refine V.getr fl_X12_13 dX12_firstNow_4 (hs_z.1 0 (12, 0) rfl) (hs_z.2 0 1 1 rfl) (by decide) rfl ?_
    refine V.iconst (v := 1) dX12_firstNow_7 (by decide) ?_
    refine V.iald dX12_firstNow_8 (hs_z.1 1 (20, 3891) rfl) (vp_lit (by decide)) ?_
    refine V.icmp_ge 28 dX12_firstNow_9 (by decide) (fun c1 => ?_) (fun c1 => ?_)
    · rw [if_pos c1] at hf
      obtain rfl := Option.some.inj hf
      exact V.lo [(0, some (.ref z)), (1, some (.int l1))] (by simp only [Subs]; repeat' first | exact trivial | constructor | rfl) hk
    · rw [if_neg c1] at hf
      refine V.aload_n dX12_firstNow_12 rfl ?_
      refine V.iload_n dX12_firstNow_13 rfl ?_
      obtain ⟨u4, hk3, hf⟩ := bnd_some hf
      try dsimp only at hf
      refine V.inv cv_X12_244 (c_r_placeOf hs_z hk3) dX12_firstNow_14 (hs_z.1 0 (12, 0) rfl) (by decide) rfl rfl rfl (Nat.le_of_ble_eq_true rfl) (by decide) (by decide) (Nat.le_refl _) (Nat.le_refl _) (fun _ _ hq => ?_)
      obtain ⟨rfl, rfl⟩ := hq
      refine V.if_ne 22 dX12_firstNow_17 (by decide) (fun c5 => ?_) (fun c5 => ?_)
      · rw [if_neg c5] at hf
        refine V.iinc (v := (l1 + 1)) dX12_firstNow_22 rfl rfl (by first | exact rfl | exact trivial) ?_
        refine V.goto 2 dX12_firstNow_25 (by decide) ?_
        exact V.lo [(0, some (.ref z)), (1, some (.int (l1 + 1)))] (by simp only [Subs]; repeat' first | exact trivial | constructor | rfl) (ih _ hf hk)
      · rw [if_pos c5] at hf
        refine V.iload_n dX12_firstNow_20 rfl ?_
        obtain rfl := Option.some.inj hf
        exact V.iret dX12_firstNow_21 rfl (Nat.le_refl _) (Nat.le_refl _) hk
theorem c_r_firstNow {l : Launch} {D : va_G} {E : Nat → ClassId} {B : Nat → Prop} {n F : Nat} {T : Nat → Option (Nat × Nat)} {I : Nat → Nat → Int32} {J : Nat → Nat → Int64} {P : Nat → Nat → Option Nat} {z : Nat}  {r : Int32} (hs_z : isMd T P z) (hf : r_firstNow F I z = some r) : Ct l D E B yX12_firstNow cX12_firstNow 2 (some .int) 4 0 0 [.ref z] (n, T, I, J, P) (Ret (some (.int r)) (n, T, I, J, P)) := by
  unfold r_firstNow at hf
  refine Ct.ofV (by decide) (Nat.le_of_ble_eq_true rfl) ?_
  refine V.iconst (v := 0) dX12_firstNow_0 (by decide) ?_
  refine V.istore_n dX12_firstNow_1 rfl (by decide) (by first | exact rfl | exact trivial) ?_
  obtain ⟨q6, hk7, hf⟩ := bnd_some hf
  refine V.lo [(0, some (.ref z)), (1, some (.int 0))] (by simp only [Subs]; repeat' first | exact trivial | constructor | rfl) (l_r_firstNow_2 hs_z q6 F _ hk7 ?_)
  rcases q6 with r0 | m8
  · try dsimp only at hf ⊢
    obtain rfl := Option.some.inj hf
    exact ⟨rfl, rfl⟩
  · try dsimp only at hf ⊢
    refine V.iconst (v := -1) dX12_firstNow_28 (by decide) ?_
    obtain rfl := Option.some.inj hf
    exact V.iret dX12_firstNow_29 rfl (Nat.le_refl _) (Nat.le_refl _) ⟨rfl, rfl⟩
theorem dX12_worthOf_0 : decode cX12_worthOf 0 = .ok (.iload_n 1, 1) := by decide +kernel
theorem dX12_worthOf_1 : decode cX12_worthOf 1 = .ok (.bipush 6, 2) := by decide +kernel
theorem dX12_worthOf_3 : decode cX12_worthOf 3 = .ok (.if_icmp .ge 15, 3) := by decide +kernel
theorem dX12_worthOf_6 : decode cX12_worthOf 6 = .ok (.aload_n 0, 1) := by decide +kernel
theorem dX12_worthOf_7 : decode cX12_worthOf 7 = .ok (.getfield 13, 3) := by decide +kernel
theorem dX12_worthOf_10 : decode cX12_worthOf 10 = .ok (.bipush 26, 2) := by decide +kernel
theorem dX12_worthOf_12 : decode cX12_worthOf 12 = .ok (.iload_n 1, 1) := by decide +kernel
theorem dX12_worthOf_13 : decode cX12_worthOf 13 = .ok (.iadd, 1) := by decide +kernel
theorem dX12_worthOf_14 : decode cX12_worthOf 14 = .ok (.iaload, 1) := by decide +kernel
theorem dX12_worthOf_15 : decode cX12_worthOf 15 = .ok (.goto 4, 3) := by decide +kernel
theorem dX12_worthOf_18 : decode cX12_worthOf 18 = .ok (.iconst 0, 1) := by decide +kernel
theorem dX12_worthOf_19 : decode cX12_worthOf 19 = .ok (.ireturn, 1) := by decide +kernel
def r_worthOf (I : Nat → Nat → Int32) (z : Nat) (v1 : Int32) : Option (Int32) := if 6 ≤ v1 then (some 0) else (chk (26 + v1) 3891 (some (I (z + 1) (Int32.toNatClampNeg (26 + v1)))))
theorem c_r_worthOf {l : Launch} {D : va_G} {E : Nat → ClassId} {B : Nat → Prop} {n : Nat} {T : Nat → Option (Nat × Nat)} {I : Nat → Nat → Int32} {J : Nat → Nat → Int64} {P : Nat → Nat → Option Nat} {z : Nat} {v1 : Int32} {r : Int32} (hs_z : isMd T P z) (hf : r_worthOf I z v1 = some r) : Ct l D E B yX12_worthOf cX12_worthOf 2 (some .int) 0 0 0 [.ref z, .int v1] (n, T, I, J, P) (Ret (some (.int r)) (n, T, I, J, P)) := by
  unfold r_worthOf at hf
  refine Ct.ofV (by decide) (Nat.le_of_ble_eq_true rfl) ?_
  refine V.iload_n dX12_worthOf_0 rfl ?_
  refine V.bipush (v := 6) dX12_worthOf_1 (by decide) ?_
  refine V.icmp_ge 18 dX12_worthOf_3 (by decide) (fun c1 => ?_) (fun c1 => ?_)
  · rw [if_pos c1] at hf
    refine V.iconst (v := 0) dX12_worthOf_18 (by decide) ?_
    obtain rfl := Option.some.inj hf
    exact V.iret dX12_worthOf_19 rfl (Nat.le_refl _) (Nat.le_refl _) ⟨rfl, rfl⟩
  · rw [if_neg c1] at hf
    refine V.aload_n dX12_worthOf_6 rfl ?_
    refine V.getr fl_X12_13 dX12_worthOf_7 (hs_z.1 0 (12, 0) rfl) (hs_z.2 0 1 1 rfl) (by decide) rfl ?_
    refine V.bipush (v := 26) dX12_worthOf_10 (by decide) ?_
    refine V.iload_n dX12_worthOf_12 rfl ?_
    refine V.iadd dX12_worthOf_13 ?_
    obtain ⟨hb2, hf⟩ := chk_some hf
    refine V.iald dX12_worthOf_14 (hs_z.1 1 (20, 3891) rfl) hb2 ?_
    refine V.goto 19 dX12_worthOf_15 (by decide) ?_
    obtain rfl := Option.some.inj hf
    exact V.iret dX12_worthOf_19 rfl (Nat.le_refl _) (Nat.le_refl _) ⟨rfl, rfl⟩
theorem dX12_person_0 : decode cX12_person 0 = .ok (.aload_n 0, 1) := by decide +kernel
theorem dX12_person_1 : decode cX12_person 1 = .ok (.iconst 0, 1) := by decide +kernel
theorem dX12_person_2 : decode cX12_person 2 = .ok (.putfield 1, 3) := by decide +kernel
theorem dX12_person_5 : decode cX12_person 5 = .ok (.aload_n 0, 1) := by decide +kernel
theorem dX12_person_6 : decode cX12_person 6 = .ok (.iload_n 1, 1) := by decide +kernel
theorem dX12_person_7 : decode cX12_person 7 = .ok (.i2l, 1) := by decide +kernel
theorem dX12_person_8 : decode cX12_person 8 = .ok (.invokevirtual 210, 3) := by decide +kernel
theorem dX12_person_11 : decode cX12_person 11 = .ok (.ifCond .ne 6, 3) := by decide +kernel
theorem dX12_person_14 : decode cX12_person 14 = .ok (.ldc 247, 2) := by decide +kernel
theorem dX12_person_16 : decode cX12_person 16 = .ok (.ireturn, 1) := by decide +kernel
theorem dX12_person_17 : decode cX12_person 17 = .ok (.iload_n 2, 1) := by decide +kernel
theorem dX12_person_18 : decode cX12_person 18 = .ok (.tableswitch 124 0 6 #[42, 52, 62, 76, 86, 92, 102], 42) := by decide +kernel
theorem dX12_person_60 : decode cX12_person 60 = .ok (.aload_n 0, 1) := by decide +kernel
theorem dX12_person_61 : decode cX12_person 61 = .ok (.getfield 13, 3) := by decide +kernel
theorem dX12_person_64 : decode cX12_person 64 = .ok (.bipush 41, 2) := by decide +kernel
theorem dX12_person_66 : decode cX12_person 66 = .ok (.iload_n 1, 1) := by decide +kernel
theorem dX12_person_67 : decode cX12_person 67 = .ok (.iadd, 1) := by decide +kernel
theorem dX12_person_68 : decode cX12_person 68 = .ok (.iaload, 1) := by decide +kernel
theorem dX12_person_69 : decode cX12_person 69 = .ok (.ireturn, 1) := by decide +kernel
theorem dX12_person_70 : decode cX12_person 70 = .ok (.aload_n 0, 1) := by decide +kernel
theorem dX12_person_71 : decode cX12_person 71 = .ok (.getfield 13, 3) := by decide +kernel
theorem dX12_person_74 : decode cX12_person 74 = .ok (.bipush 16, 2) := by decide +kernel
theorem dX12_person_76 : decode cX12_person 76 = .ok (.iload_n 1, 1) := by decide +kernel
theorem dX12_person_77 : decode cX12_person 77 = .ok (.iadd, 1) := by decide +kernel
theorem dX12_person_78 : decode cX12_person 78 = .ok (.iaload, 1) := by decide +kernel
theorem dX12_person_79 : decode cX12_person 79 = .ok (.ireturn, 1) := by decide +kernel
theorem dX12_person_80 : decode cX12_person 80 = .ok (.aload_n 0, 1) := by decide +kernel
theorem dX12_person_81 : decode cX12_person 81 = .ok (.iload_n 1, 1) := by decide +kernel
theorem dX12_person_82 : decode cX12_person 82 = .ok (.invokevirtual 218, 3) := by decide +kernel
theorem dX12_person_85 : decode cX12_person 85 = .ok (.ifCond .eq 7, 3) := by decide +kernel
theorem dX12_person_88 : decode cX12_person 88 = .ok (.iconst 1, 1) := by decide +kernel
theorem dX12_person_89 : decode cX12_person 89 = .ok (.goto 4, 3) := by decide +kernel
theorem dX12_person_92 : decode cX12_person 92 = .ok (.iconst 0, 1) := by decide +kernel
theorem dX12_person_93 : decode cX12_person 93 = .ok (.ireturn, 1) := by decide +kernel
theorem dX12_person_94 : decode cX12_person 94 = .ok (.aload_n 0, 1) := by decide +kernel
theorem dX12_person_95 : decode cX12_person 95 = .ok (.getfield 13, 3) := by decide +kernel
theorem dX12_person_98 : decode cX12_person 98 = .ok (.bipush 35, 2) := by decide +kernel
theorem dX12_person_100 : decode cX12_person 100 = .ok (.iload_n 1, 1) := by decide +kernel
theorem dX12_person_101 : decode cX12_person 101 = .ok (.iadd, 1) := by decide +kernel
theorem dX12_person_102 : decode cX12_person 102 = .ok (.iaload, 1) := by decide +kernel
theorem dX12_person_103 : decode cX12_person 103 = .ok (.ireturn, 1) := by decide +kernel
theorem dX12_person_104 : decode cX12_person 104 = .ok (.aload_n 0, 1) := by decide +kernel
theorem dX12_person_105 : decode cX12_person 105 = .ok (.iload_n 1, 1) := by decide +kernel
theorem dX12_person_106 : decode cX12_person 106 = .ok (.invokevirtual 244, 3) := by decide +kernel
theorem dX12_person_109 : decode cX12_person 109 = .ok (.ireturn, 1) := by decide +kernel
theorem dX12_person_110 : decode cX12_person 110 = .ok (.aload_n 0, 1) := by decide +kernel
theorem dX12_person_111 : decode cX12_person 111 = .ok (.getfield 13, 3) := by decide +kernel
theorem dX12_person_114 : decode cX12_person 114 = .ok (.bipush 47, 2) := by decide +kernel
theorem dX12_person_116 : decode cX12_person 116 = .ok (.iload_n 1, 1) := by decide +kernel
theorem dX12_person_117 : decode cX12_person 117 = .ok (.iadd, 1) := by decide +kernel
theorem dX12_person_118 : decode cX12_person 118 = .ok (.iaload, 1) := by decide +kernel
theorem dX12_person_119 : decode cX12_person 119 = .ok (.ireturn, 1) := by decide +kernel
theorem dX12_person_120 : decode cX12_person 120 = .ok (.aload_n 0, 1) := by decide +kernel
theorem dX12_person_121 : decode cX12_person 121 = .ok (.iload_n 1, 1) := by decide +kernel
theorem dX12_person_122 : decode cX12_person 122 = .ok (.invokevirtual 218, 3) := by decide +kernel
theorem dX12_person_125 : decode cX12_person 125 = .ok (.ifCond .eq 7, 3) := by decide +kernel
theorem dX12_person_128 : decode cX12_person 128 = .ok (.iconst (-1), 1) := by decide +kernel
theorem dX12_person_129 : decode cX12_person 129 = .ok (.goto 12, 3) := by decide +kernel
theorem dX12_person_132 : decode cX12_person 132 = .ok (.aload_n 0, 1) := by decide +kernel
theorem dX12_person_133 : decode cX12_person 133 = .ok (.getfield 13, 3) := by decide +kernel
theorem dX12_person_136 : decode cX12_person 136 = .ok (.bipush 59, 2) := by decide +kernel
theorem dX12_person_138 : decode cX12_person 138 = .ok (.iload_n 1, 1) := by decide +kernel
theorem dX12_person_139 : decode cX12_person 139 = .ok (.iadd, 1) := by decide +kernel
theorem dX12_person_140 : decode cX12_person 140 = .ok (.iaload, 1) := by decide +kernel
theorem dX12_person_141 : decode cX12_person 141 = .ok (.ireturn, 1) := by decide +kernel
theorem dX12_person_142 : decode cX12_person 142 = .ok (.ldc 247, 2) := by decide +kernel
theorem dX12_person_144 : decode cX12_person 144 = .ok (.ireturn, 1) := by decide +kernel
def r_person (F : Nat) (I : Nat → Nat → Int32) (z : Nat) (v1 : Int32) (v2 : Int32) : Option (Int32 × (Nat → Nat → Int32)) := let I1 := uI I z 0 0; (r_isPerson I1 z (Int32.toInt64 v1)).bind (fun q3 => let u5 := q3; if u5 = 0 then (some ((-99000002), I1)) else (if v2 = 0 then (chk (41 + v1) 3891 (some ((I1 (z + 1) (Int32.toNatClampNeg (41 + v1))), I1))) else (if v2 = 1 then (chk (16 + v1) 3891 (some ((I1 (z + 1) (Int32.toNatClampNeg (16 + v1))), I1))) else (if v2 = 2 then ((r_isUp I1 z v1).bind (fun q12 => let u14 := q12; if u14 = 0 then (some (0, I1)) else (some (1, I1)))) else (if v2 = 3 then (chk (35 + v1) 3891 (some ((I1 (z + 1) (Int32.toNatClampNeg (35 + v1))), I1))) else (if v2 = 4 then ((r_placeOf F I1 z v1).bind (fun q19 => let u21 := q19; some (u21, I1))) else (if v2 = 5 then (chk (47 + v1) 3891 (some ((I1 (z + 1) (Int32.toNatClampNeg (47 + v1))), I1))) else (if v2 = 6 then ((r_isUp I1 z v1).bind (fun q25 => let u27 := q25; if u27 = 0 then (chk (59 + v1) 3891 (some ((I1 (z + 1) (Int32.toNatClampNeg (59 + v1))), I1))) else (some ((-1), I1)))) else (some ((-99000002), I1))))))))))
theorem c_r_person {l : Launch} {D : va_G} {E : Nat → ClassId} {B : Nat → Prop} {n F : Nat} {T : Nat → Option (Nat × Nat)} {I : Nat → Nat → Int32} {J : Nat → Nat → Int64} {P : Nat → Nat → Option Nat} {z : Nat} {v1 : Int32} {v2 : Int32} {r : Int32 × (Nat → Nat → Int32)} (hs_z : isMd T P z) (hf : r_person F I z v1 v2 = some r) : Ct l D E B yX12_person cX12_person 3 (some .int) 4 0 0 [.ref z, .int v1, .int v2] (n, T, I, J, P) (Ret (some (.int r.1)) (n, T, r.2, J, P)) := by
  unfold r_person at hf
  refine Ct.ofV (by decide) (Nat.le_of_ble_eq_true rfl) ?_
  refine V.aload_n dX12_person_0 rfl ?_
  refine V.iconst (v := 0) dX12_person_1 (by decide) ?_
  refine V.putiE fl_X12_1 dX12_person_2 (hs_z.1 0 (12, 0) rfl) (by decide) (fun h => by cases h) rfl rfl rfl (Nat.le_of_ble_eq_true rfl) (fun I1 e2 => ?_)
  rw [← e2] at hf
  try dsimp only at hf
  clear e2
  refine V.aload_n dX12_person_5 rfl ?_
  refine V.iload_n dX12_person_6 rfl ?_
  refine V.i2l dX12_person_7 ?_
  obtain ⟨u5, hk4, hf⟩ := bnd_some hf
  try dsimp only at hf
  refine V.inv cv_X12_210 (c_r_isPerson hs_z hk4) dX12_person_8 (hs_z.1 0 (12, 0) rfl) (by decide) rfl rfl rfl (Nat.le_of_ble_eq_true rfl) (by decide) (by decide) (Nat.le_refl _) (Nat.le_refl _) (fun _ _ hq => ?_)
  obtain ⟨rfl, rfl⟩ := hq
  refine V.if_ne 17 dX12_person_11 (by decide) (fun c6 => ?_) (fun c6 => ?_)
  · rw [if_neg c6] at hf
    refine V.iload_n dX12_person_17 rfl ?_
    by_cases c7 : v2 = 0
    · rw [if_pos c7] at hf
      refine V.tabIn (off := 42) 60 dX12_person_18 (by rw [c7]; decide) (by rw [c7]; decide) (by rw [c7]; rfl) (by decide) ?_
      refine V.aload_n dX12_person_60 rfl ?_
      refine V.getr fl_X12_13 dX12_person_61 (hs_z.1 0 (12, 0) rfl) (hs_z.2 0 1 1 rfl) (by decide) rfl ?_
      refine V.bipush (v := 41) dX12_person_64 (by decide) ?_
      refine V.iload_n dX12_person_66 rfl ?_
      refine V.iadd dX12_person_67 ?_
      obtain ⟨hb8, hf⟩ := chk_some hf
      refine V.iald dX12_person_68 (hs_z.1 1 (20, 3891) rfl) hb8 ?_
      obtain rfl := Option.some.inj hf
      exact V.iret dX12_person_69 rfl (Nat.le_refl _) (Nat.le_refl _) ⟨rfl, rfl⟩
    rw [if_neg c7] at hf
    by_cases c9 : v2 = 1
    · rw [if_pos c9] at hf
      refine V.tabIn (off := 52) 70 dX12_person_18 (by rw [c9]; decide) (by rw [c9]; decide) (by rw [c9]; rfl) (by decide) ?_
      refine V.aload_n dX12_person_70 rfl ?_
      refine V.getr fl_X12_13 dX12_person_71 (hs_z.1 0 (12, 0) rfl) (hs_z.2 0 1 1 rfl) (by decide) rfl ?_
      refine V.bipush (v := 16) dX12_person_74 (by decide) ?_
      refine V.iload_n dX12_person_76 rfl ?_
      refine V.iadd dX12_person_77 ?_
      obtain ⟨hb10, hf⟩ := chk_some hf
      refine V.iald dX12_person_78 (hs_z.1 1 (20, 3891) rfl) hb10 ?_
      obtain rfl := Option.some.inj hf
      exact V.iret dX12_person_79 rfl (Nat.le_refl _) (Nat.le_refl _) ⟨rfl, rfl⟩
    rw [if_neg c9] at hf
    by_cases c11 : v2 = 2
    · rw [if_pos c11] at hf
      refine V.tabIn (off := 62) 80 dX12_person_18 (by rw [c11]; decide) (by rw [c11]; decide) (by rw [c11]; rfl) (by decide) ?_
      refine V.aload_n dX12_person_80 rfl ?_
      refine V.iload_n dX12_person_81 rfl ?_
      obtain ⟨u14, hk13, hf⟩ := bnd_some hf
      try dsimp only at hf
      refine V.inv cv_X12_218 (c_r_isUp hs_z hk13) dX12_person_82 (hs_z.1 0 (12, 0) rfl) (by decide) rfl rfl rfl (Nat.le_of_ble_eq_true rfl) (by decide) (by decide) (Nat.le_refl _) (Nat.le_refl _) (fun _ _ hq => ?_)
      obtain ⟨rfl, rfl⟩ := hq
      refine V.if_eq 92 dX12_person_85 (by decide) (fun c15 => ?_) (fun c15 => ?_)
      · rw [if_pos c15] at hf
        refine V.iconst (v := 0) dX12_person_92 (by decide) ?_
        obtain rfl := Option.some.inj hf
        exact V.iret dX12_person_93 rfl (Nat.le_refl _) (Nat.le_refl _) ⟨rfl, rfl⟩
      · rw [if_neg c15] at hf
        refine V.iconst (v := 1) dX12_person_88 (by decide) ?_
        refine V.goto 93 dX12_person_89 (by decide) ?_
        obtain rfl := Option.some.inj hf
        exact V.iret dX12_person_93 rfl (Nat.le_refl _) (Nat.le_refl _) ⟨rfl, rfl⟩
    rw [if_neg c11] at hf
    by_cases c16 : v2 = 3
    · rw [if_pos c16] at hf
      refine V.tabIn (off := 76) 94 dX12_person_18 (by rw [c16]; decide) (by rw [c16]; decide) (by rw [c16]; rfl) (by decide) ?_
      refine V.aload_n dX12_person_94 rfl ?_
      refine V.getr fl_X12_13 dX12_person_95 (hs_z.1 0 (12, 0) rfl) (hs_z.2 0 1 1 rfl) (by decide) rfl ?_
      refine V.bipush (v := 35) dX12_person_98 (by decide) ?_
      refine V.iload_n dX12_person_100 rfl ?_
      refine V.iadd dX12_person_101 ?_
      obtain ⟨hb17, hf⟩ := chk_some hf
      refine V.iald dX12_person_102 (hs_z.1 1 (20, 3891) rfl) hb17 ?_
      obtain rfl := Option.some.inj hf
      exact V.iret dX12_person_103 rfl (Nat.le_refl _) (Nat.le_refl _) ⟨rfl, rfl⟩
    rw [if_neg c16] at hf
    by_cases c18 : v2 = 4
    · rw [if_pos c18] at hf
      refine V.tabIn (off := 86) 104 dX12_person_18 (by rw [c18]; decide) (by rw [c18]; decide) (by rw [c18]; rfl) (by decide) ?_
      refine V.aload_n dX12_person_104 rfl ?_
      refine V.iload_n dX12_person_105 rfl ?_
      obtain ⟨u21, hk20, hf⟩ := bnd_some hf
      try dsimp only at hf
      refine V.inv cv_X12_244 (c_r_placeOf hs_z hk20) dX12_person_106 (hs_z.1 0 (12, 0) rfl) (by decide) rfl rfl rfl (Nat.le_of_ble_eq_true rfl) (by decide) (by decide) (Nat.le_refl _) (Nat.le_refl _) (fun _ _ hq => ?_)
      obtain ⟨rfl, rfl⟩ := hq
      obtain rfl := Option.some.inj hf
      exact V.iret dX12_person_109 rfl (Nat.le_refl _) (Nat.le_refl _) ⟨rfl, rfl⟩
    rw [if_neg c18] at hf
    by_cases c22 : v2 = 5
    · rw [if_pos c22] at hf
      refine V.tabIn (off := 92) 110 dX12_person_18 (by rw [c22]; decide) (by rw [c22]; decide) (by rw [c22]; rfl) (by decide) ?_
      refine V.aload_n dX12_person_110 rfl ?_
      refine V.getr fl_X12_13 dX12_person_111 (hs_z.1 0 (12, 0) rfl) (hs_z.2 0 1 1 rfl) (by decide) rfl ?_
      refine V.bipush (v := 47) dX12_person_114 (by decide) ?_
      refine V.iload_n dX12_person_116 rfl ?_
      refine V.iadd dX12_person_117 ?_
      obtain ⟨hb23, hf⟩ := chk_some hf
      refine V.iald dX12_person_118 (hs_z.1 1 (20, 3891) rfl) hb23 ?_
      obtain rfl := Option.some.inj hf
      exact V.iret dX12_person_119 rfl (Nat.le_refl _) (Nat.le_refl _) ⟨rfl, rfl⟩
    rw [if_neg c22] at hf
    by_cases c24 : v2 = 6
    · rw [if_pos c24] at hf
      refine V.tabIn (off := 102) 120 dX12_person_18 (by rw [c24]; decide) (by rw [c24]; decide) (by rw [c24]; rfl) (by decide) ?_
      refine V.aload_n dX12_person_120 rfl ?_
      refine V.iload_n dX12_person_121 rfl ?_
      obtain ⟨u27, hk26, hf⟩ := bnd_some hf
      try dsimp only at hf
      refine V.inv cv_X12_218 (c_r_isUp hs_z hk26) dX12_person_122 (hs_z.1 0 (12, 0) rfl) (by decide) rfl rfl rfl (Nat.le_of_ble_eq_true rfl) (by decide) (by decide) (Nat.le_refl _) (Nat.le_refl _) (fun _ _ hq => ?_)
      obtain ⟨rfl, rfl⟩ := hq
      refine V.if_eq 132 dX12_person_125 (by decide) (fun c28 => ?_) (fun c28 => ?_)
      · rw [if_pos c28] at hf
        refine V.aload_n dX12_person_132 rfl ?_
        refine V.getr fl_X12_13 dX12_person_133 (hs_z.1 0 (12, 0) rfl) (hs_z.2 0 1 1 rfl) (by decide) rfl ?_
        refine V.bipush (v := 59) dX12_person_136 (by decide) ?_
        refine V.iload_n dX12_person_138 rfl ?_
        refine V.iadd dX12_person_139 ?_
        obtain ⟨hb29, hf⟩ := chk_some hf
        refine V.iald dX12_person_140 (hs_z.1 1 (20, 3891) rfl) hb29 ?_
        obtain rfl := Option.some.inj hf
        exact V.iret dX12_person_141 rfl (Nat.le_refl _) (Nat.le_refl _) ⟨rfl, rfl⟩
      · rw [if_neg c28] at hf
        refine V.iconst (v := -1) dX12_person_128 (by decide) ?_
        refine V.goto 141 dX12_person_129 (by decide) ?_
        obtain rfl := Option.some.inj hf
        exact V.iret dX12_person_141 rfl (Nat.le_refl _) (Nat.le_refl _) ⟨rfl, rfl⟩
    rw [if_neg c24] at hf
    refine V.tabOut 142 dX12_person_18 (by have c7_ := sw_ne c7 (j := 0) (by decide); have c9_ := sw_ne c9 (j := 1) (by decide); have c11_ := sw_ne c11 (j := 2) (by decide); have c16_ := sw_ne c16 (j := 3) (by decide); have c18_ := sw_ne c18 (j := 4) (by decide); have c22_ := sw_ne c22 (j := 5) (by decide); have c24_ := sw_ne c24 (j := 6) (by decide); omega) (by decide) ?_
    refine V.ldc dX12_person_142 kc_X12_247 ?_
    obtain rfl := Option.some.inj hf
    exact V.iret dX12_person_144 rfl (Nat.le_refl _) (Nat.le_refl _) ⟨rfl, rfl⟩
  · rw [if_pos c6] at hf
    refine V.ldc dX12_person_14 kc_X12_247 ?_
    obtain rfl := Option.some.inj hf
    exact V.iret dX12_person_16 rfl (Nat.le_refl _) (Nat.le_refl _) ⟨rfl, rfl⟩
theorem dX12_tires_0 : decode cX12_tires 0 = .ok (.aload_n 0, 1) := by decide +kernel
theorem dX12_tires_1 : decode cX12_tires 1 = .ok (.iconst 0, 1) := by decide +kernel
theorem dX12_tires_2 : decode cX12_tires 2 = .ok (.putfield 1, 3) := by decide +kernel
theorem dX12_tires_5 : decode cX12_tires 5 = .ok (.aload_n 0, 1) := by decide +kernel
theorem dX12_tires_6 : decode cX12_tires 6 = .ok (.iload_n 1, 1) := by decide +kernel
theorem dX12_tires_7 : decode cX12_tires 7 = .ok (.i2l, 1) := by decide +kernel
theorem dX12_tires_8 : decode cX12_tires 8 = .ok (.invokevirtual 210, 3) := by decide +kernel
theorem dX12_tires_11 : decode cX12_tires 11 = .ok (.ifCond .eq 12, 3) := by decide +kernel
theorem dX12_tires_14 : decode cX12_tires 14 = .ok (.aload_n 0, 1) := by decide +kernel
theorem dX12_tires_15 : decode cX12_tires 15 = .ok (.iload_n 2, 1) := by decide +kernel
theorem dX12_tires_16 : decode cX12_tires 16 = .ok (.i2l, 1) := by decide +kernel
theorem dX12_tires_17 : decode cX12_tires 17 = .ok (.invokevirtual 248, 3) := by decide +kernel
theorem dX12_tires_20 : decode cX12_tires 20 = .ok (.ifCond .ne 6, 3) := by decide +kernel
theorem dX12_tires_23 : decode cX12_tires 23 = .ok (.bipush (-2), 2) := by decide +kernel
theorem dX12_tires_25 : decode cX12_tires 25 = .ok (.ireturn, 1) := by decide +kernel
theorem dX12_tires_26 : decode cX12_tires 26 = .ok (.aload_n 0, 1) := by decide +kernel
theorem dX12_tires_27 : decode cX12_tires 27 = .ok (.iload_n 1, 1) := by decide +kernel
theorem dX12_tires_28 : decode cX12_tires 28 = .ok (.invokevirtual 218, 3) := by decide +kernel
theorem dX12_tires_31 : decode cX12_tires 31 = .ok (.ifCond .eq 12, 3) := by decide +kernel
theorem dX12_tires_34 : decode cX12_tires 34 = .ok (.aload_n 0, 1) := by decide +kernel
theorem dX12_tires_35 : decode cX12_tires 35 = .ok (.iload_n 1, 1) := by decide +kernel
theorem dX12_tires_36 : decode cX12_tires 36 = .ok (.iload_n 2, 1) := by decide +kernel
theorem dX12_tires_37 : decode cX12_tires 37 = .ok (.invokevirtual 251, 3) := by decide +kernel
theorem dX12_tires_40 : decode cX12_tires 40 = .ok (.goto 4, 3) := by decide +kernel
theorem dX12_tires_43 : decode cX12_tires 43 = .ok (.iconst 0, 1) := by decide +kernel
theorem dX12_tires_44 : decode cX12_tires 44 = .ok (.ireturn, 1) := by decide +kernel
def r_tires (F : Nat) (I : Nat → Nat → Int32) (z : Nat) (v1 : Int32) (v2 : Int32) : Option (Int32 × (Nat → Nat → Int32)) := let I1 := uI I z 0 0; (r_isPerson I1 z (Int32.toInt64 v1)).bind (fun q3 => let u5 := q3; if u5 = 0 then (some ((-2), I1)) else ((r_isTune I1 z (Int32.toInt64 v2)).bind (fun q7 => let u9 := q7; if u9 = 0 then (some ((-2), I1)) else ((r_isUp I1 z v1).bind (fun q11 => let u13 := q11; if u13 = 0 then (some (0, I1)) else ((r_tiresOf F I1 z v1 v2).bind (fun q15 => let u17 := q15.1; let I18 := q15.2; some (u17, I18))))))))
theorem c_r_tires {l : Launch} {D : va_G} {E : Nat → ClassId} {B : Nat → Prop} {n F : Nat} {T : Nat → Option (Nat × Nat)} {I : Nat → Nat → Int32} {J : Nat → Nat → Int64} {P : Nat → Nat → Option Nat} {z : Nat} {v1 : Int32} {v2 : Int32} {r : Int32 × (Nat → Nat → Int32)} (hs_z : isMd T P z) (hf : r_tires F I z v1 v2 = some r) : Ct l D E B yX12_tires cX12_tires 3 (some .int) 5 0 0 [.ref z, .int v1, .int v2] (n, T, I, J, P) (Ret (some (.int r.1)) (n, T, r.2, J, P)) := by
  unfold r_tires at hf
  refine Ct.ofV (by decide) (Nat.le_of_ble_eq_true rfl) ?_
  refine V.aload_n dX12_tires_0 rfl ?_
  refine V.iconst (v := 0) dX12_tires_1 (by decide) ?_
  refine V.putiE fl_X12_1 dX12_tires_2 (hs_z.1 0 (12, 0) rfl) (by decide) (fun h => by cases h) rfl rfl rfl (Nat.le_of_ble_eq_true rfl) (fun I1 e2 => ?_)
  rw [← e2] at hf
  try dsimp only at hf
  clear e2
  refine V.aload_n dX12_tires_5 rfl ?_
  refine V.iload_n dX12_tires_6 rfl ?_
  refine V.i2l dX12_tires_7 ?_
  obtain ⟨u5, hk4, hf⟩ := bnd_some hf
  try dsimp only at hf
  refine V.inv cv_X12_210 (c_r_isPerson hs_z hk4) dX12_tires_8 (hs_z.1 0 (12, 0) rfl) (by decide) rfl rfl rfl (Nat.le_of_ble_eq_true rfl) (by decide) (by decide) (Nat.le_refl _) (Nat.le_refl _) (fun _ _ hq => ?_)
  obtain ⟨rfl, rfl⟩ := hq
  refine V.if_eq 23 dX12_tires_11 (by decide) (fun c6 => ?_) (fun c6 => ?_)
  · rw [if_pos c6] at hf
    refine V.bipush (v := -2) dX12_tires_23 (by decide) ?_
    obtain rfl := Option.some.inj hf
    exact V.iret dX12_tires_25 rfl (Nat.le_refl _) (Nat.le_refl _) ⟨rfl, rfl⟩
  · rw [if_neg c6] at hf
    refine V.aload_n dX12_tires_14 rfl ?_
    refine V.iload_n dX12_tires_15 rfl ?_
    refine V.i2l dX12_tires_16 ?_
    obtain ⟨u9, hk8, hf⟩ := bnd_some hf
    try dsimp only at hf
    refine V.inv cv_X12_248 (c_r_isTune hs_z hk8) dX12_tires_17 (hs_z.1 0 (12, 0) rfl) (by decide) rfl rfl rfl (Nat.le_of_ble_eq_true rfl) (by decide) (by decide) (Nat.le_refl _) (Nat.le_refl _) (fun _ _ hq => ?_)
    obtain ⟨rfl, rfl⟩ := hq
    refine V.if_ne 26 dX12_tires_20 (by decide) (fun c10 => ?_) (fun c10 => ?_)
    · rw [if_neg c10] at hf
      refine V.aload_n dX12_tires_26 rfl ?_
      refine V.iload_n dX12_tires_27 rfl ?_
      obtain ⟨u13, hk12, hf⟩ := bnd_some hf
      try dsimp only at hf
      refine V.inv cv_X12_218 (c_r_isUp hs_z hk12) dX12_tires_28 (hs_z.1 0 (12, 0) rfl) (by decide) rfl rfl rfl (Nat.le_of_ble_eq_true rfl) (by decide) (by decide) (Nat.le_refl _) (Nat.le_refl _) (fun _ _ hq => ?_)
      obtain ⟨rfl, rfl⟩ := hq
      refine V.if_eq 43 dX12_tires_31 (by decide) (fun c14 => ?_) (fun c14 => ?_)
      · rw [if_pos c14] at hf
        refine V.iconst (v := 0) dX12_tires_43 (by decide) ?_
        obtain rfl := Option.some.inj hf
        exact V.iret dX12_tires_44 rfl (Nat.le_refl _) (Nat.le_refl _) ⟨rfl, rfl⟩
      · rw [if_neg c14] at hf
        refine V.aload_n dX12_tires_34 rfl ?_
        refine V.iload_n dX12_tires_35 rfl ?_
        refine V.iload_n dX12_tires_36 rfl ?_
        obtain ⟨⟨u17, I18⟩, hk16, hf⟩ := bnd_some hf
        try dsimp only at hf
        refine V.inv cv_X12_251 (c_r_tiresOf hs_z hk16) dX12_tires_37 (hs_z.1 0 (12, 0) rfl) (by decide) rfl rfl rfl (Nat.le_of_ble_eq_true rfl) (by decide) (by decide) (Nat.le_refl _) (Nat.le_refl _) (fun _ _ hq => ?_)
        obtain ⟨rfl, rfl⟩ := hq
        try dsimp only
        refine V.goto 44 dX12_tires_40 (by decide) ?_
        obtain rfl := Option.some.inj hf
        exact V.iret dX12_tires_44 rfl (Nat.le_refl _) (Nat.le_refl _) ⟨rfl, rfl⟩
    · rw [if_pos c10] at hf
      refine V.bipush (v := -2) dX12_tires_23 (by decide) ?_
      obtain rfl := Option.some.inj hf
      exact V.iret dX12_tires_25 rfl (Nat.le_refl _) (Nat.le_refl _) ⟨rfl, rfl⟩
theorem dX12_office_0 : decode cX12_office 0 = .ok (.aload_n 0, 1) := by decide +kernel
theorem dX12_office_1 : decode cX12_office 1 = .ok (.iconst 0, 1) := by decide +kernel
theorem dX12_office_2 : decode cX12_office 2 = .ok (.putfield 1, 3) := by decide +kernel
theorem dX12_office_5 : decode cX12_office 5 = .ok (.iload_n 1, 1) := by decide +kernel
theorem dX12_office_6 : decode cX12_office 6 = .ok (.i2l, 1) := by decide +kernel
theorem dX12_office_7 : decode cX12_office 7 = .ok (.lconst 0, 1) := by decide +kernel
theorem dX12_office_8 : decode cX12_office 8 = .ok (.ldc2_w 254, 3) := by decide +kernel
theorem dX12_office_11 : decode cX12_office 11 = .ok (.invokestatic 145, 3) := by decide +kernel
theorem dX12_office_14 : decode cX12_office 14 = .ok (.ifCond .eq 15, 3) := by decide +kernel
theorem dX12_office_17 : decode cX12_office 17 = .ok (.aload_n 0, 1) := by decide +kernel
theorem dX12_office_18 : decode cX12_office 18 = .ok (.getfield 13, 3) := by decide +kernel
theorem dX12_office_21 : decode cX12_office 21 = .ok (.bipush 26, 2) := by decide +kernel
theorem dX12_office_23 : decode cX12_office 23 = .ok (.iload_n 1, 1) := by decide +kernel
theorem dX12_office_24 : decode cX12_office 24 = .ok (.iadd, 1) := by decide +kernel
theorem dX12_office_25 : decode cX12_office 25 = .ok (.iaload, 1) := by decide +kernel
theorem dX12_office_26 : decode cX12_office 26 = .ok (.goto 5, 3) := by decide +kernel
theorem dX12_office_29 : decode cX12_office 29 = .ok (.bipush (-2), 2) := by decide +kernel
theorem dX12_office_31 : decode cX12_office 31 = .ok (.ireturn, 1) := by decide +kernel
def r_office (I : Nat → Nat → Int32) (z : Nat) (v1 : Int32) : Option (Int32 × (Nat → Nat → Int32)) := let I1 := uI I z 0 0; if (r_within (Int32.toInt64 v1) 0 5) = 0 then (some ((-2), I1)) else (chk (26 + v1) 3891 (some ((I1 (z + 1) (Int32.toNatClampNeg (26 + v1))), I1)))
theorem c_r_office {l : Launch} {D : va_G} {E : Nat → ClassId} {B : Nat → Prop} {n : Nat} {T : Nat → Option (Nat × Nat)} {I : Nat → Nat → Int32} {J : Nat → Nat → Int64} {P : Nat → Nat → Option Nat} {z : Nat} {v1 : Int32} {r : Int32 × (Nat → Nat → Int32)} (hs_z : isMd T P z) (hf : r_office I z v1 = some r) : Ct l D E B yX12_office cX12_office 2 (some .int) 1 0 0 [.ref z, .int v1] (n, T, I, J, P) (Ret (some (.int r.1)) (n, T, r.2, J, P)) := by
  unfold r_office at hf
  refine Ct.ofV (by decide) (Nat.le_of_ble_eq_true rfl) ?_
  refine V.aload_n dX12_office_0 rfl ?_
  refine V.iconst (v := 0) dX12_office_1 (by decide) ?_
  refine V.putiE fl_X12_1 dX12_office_2 (hs_z.1 0 (12, 0) rfl) (by decide) (fun h => by cases h) rfl rfl rfl (Nat.le_of_ble_eq_true rfl) (fun I1 e2 => ?_)
  rw [← e2] at hf
  try dsimp only at hf
  clear e2
  refine V.iload_n dX12_office_5 rfl ?_
  refine V.i2l dX12_office_6 ?_
  refine V.lconst (v := 0) dX12_office_7 (by decide) ?_
  refine V.ldc2 dX12_office_8 kc_X12_254 ?_
  refine V.ins cs_X12_145 (c_r_within) dX12_office_11 rfl rfl (Nat.le_of_ble_eq_true rfl) (by decide) (by decide) (Nat.le_refl _) (Nat.le_refl _) (fun _ _ hq => ?_)
  obtain ⟨rfl, rfl⟩ := hq
  refine V.if_eq 29 dX12_office_14 (by decide) (fun c3 => ?_) (fun c3 => ?_)
  · rw [if_pos c3] at hf
    refine V.bipush (v := -2) dX12_office_29 (by decide) ?_
    obtain rfl := Option.some.inj hf
    exact V.iret dX12_office_31 rfl (Nat.le_refl _) (Nat.le_refl _) ⟨rfl, rfl⟩
  · rw [if_neg c3] at hf
    refine V.aload_n dX12_office_17 rfl ?_
    refine V.getr fl_X12_13 dX12_office_18 (hs_z.1 0 (12, 0) rfl) (hs_z.2 0 1 1 rfl) (by decide) rfl ?_
    refine V.bipush (v := 26) dX12_office_21 (by decide) ?_
    refine V.iload_n dX12_office_23 rfl ?_
    refine V.iadd dX12_office_24 ?_
    obtain ⟨hb4, hf⟩ := chk_some hf
    refine V.iald dX12_office_25 (hs_z.1 1 (20, 3891) rfl) hb4 ?_
    refine V.goto 31 dX12_office_26 (by decide) ?_
    obtain rfl := Option.some.inj hf
    exact V.iret dX12_office_31 rfl (Nat.le_refl _) (Nat.le_refl _) ⟨rfl, rfl⟩
theorem dX12_spot_0 : decode cX12_spot 0 = .ok (.aload_n 0, 1) := by decide +kernel
theorem dX12_spot_1 : decode cX12_spot 1 = .ok (.iconst 0, 1) := by decide +kernel
theorem dX12_spot_2 : decode cX12_spot 2 = .ok (.putfield 1, 3) := by decide +kernel
theorem dX12_spot_5 : decode cX12_spot 5 = .ok (.iconst 0, 1) := by decide +kernel
theorem dX12_spot_6 : decode cX12_spot 6 = .ok (.istore_n 2, 1) := by decide +kernel
theorem dX12_spot_7 : decode cX12_spot 7 = .ok (.iload_n 2, 1) := by decide +kernel
theorem dX12_spot_8 : decode cX12_spot 8 = .ok (.aload_n 0, 1) := by decide +kernel
theorem dX12_spot_9 : decode cX12_spot 9 = .ok (.getfield 13, 3) := by decide +kernel
theorem dX12_spot_12 : decode cX12_spot 12 = .ok (.iconst 1, 1) := by decide +kernel
theorem dX12_spot_13 : decode cX12_spot 13 = .ok (.iaload, 1) := by decide +kernel
theorem dX12_spot_14 : decode cX12_spot 14 = .ok (.if_icmp .ge 24, 3) := by decide +kernel
theorem dX12_spot_17 : decode cX12_spot 17 = .ok (.aload_n 0, 1) := by decide +kernel
theorem dX12_spot_18 : decode cX12_spot 18 = .ok (.getfield 13, 3) := by decide +kernel
theorem dX12_spot_21 : decode cX12_spot 21 = .ok (.bipush 35, 2) := by decide +kernel
theorem dX12_spot_23 : decode cX12_spot 23 = .ok (.iload_n 2, 1) := by decide +kernel
theorem dX12_spot_24 : decode cX12_spot 24 = .ok (.iadd, 1) := by decide +kernel
theorem dX12_spot_25 : decode cX12_spot 25 = .ok (.iaload, 1) := by decide +kernel
theorem dX12_spot_26 : decode cX12_spot 26 = .ok (.iload_n 1, 1) := by decide +kernel
theorem dX12_spot_27 : decode cX12_spot 27 = .ok (.if_icmp .ne 5, 3) := by decide +kernel
theorem dX12_spot_30 : decode cX12_spot 30 = .ok (.iload_n 2, 1) := by decide +kernel
theorem dX12_spot_31 : decode cX12_spot 31 = .ok (.ireturn, 1) := by decide +kernel
theorem dX12_spot_32 : decode cX12_spot 32 = .ok (.iinc 2 1, 3) := by decide +kernel
theorem dX12_spot_35 : decode cX12_spot 35 = .ok (.goto (-28), 3) := by decide +kernel
theorem dX12_spot_38 : decode cX12_spot 38 = .ok (.bipush (-2), 2) := by decide +kernel
theorem dX12_spot_40 : decode cX12_spot 40 = .ok (.ireturn, 1) := by decide +kernel
def r_spot_7 (F : Nat) (I : Nat → Nat → Int32) (z : Nat) (g1 : Int32) : Nat → Int32 → Option ((Int32 × (Nat → Nat → Int32)) ⊕ (Int32))
  | 0, _ => none
  | k + 1, l2 => if (I (z + 1) (Int32.toNatClampNeg 1)) ≤ l2 then (some (.inr l2)) else (chk (35 + l2) 3891 (if (I (z + 1) (Int32.toNatClampNeg (35 + l2))) = g1 then (some (.inl (l2, I))) else (r_spot_7 F I z g1 k (l2 + 1))))
def r_spot (F : Nat) (I : Nat → Nat → Int32) (z : Nat) (v1 : Int32) : Option (Int32 × (Nat → Nat → Int32)) := let I1 := uI I z 0 0; (r_spot_7 F I1 z v1 F 0).bind (fun q6 => match q6 with | .inl r0 => some r0 | .inr q0 => let m8 := q0; some ((-2), I1))
theorem l_r_spot_7 {l : Launch} {D : va_G} {E : Nat → ClassId} {B : Nat → Prop} {n F : Nat} {Q : Option Value → HT → Prop} {T : Nat → Option (Nat × Nat)} {I : Nat → Nat → Int32} {J : Nat → Nat → Int64} {P : Nat → Nat → Option Nat} {z : Nat} {g1 : Int32} (hs_z : isMd T P z)  (r : (Int32 × (Nat → Nat → Int32)) ⊕ (Int32)) : ∀ (k : Nat) (l2 : Int32), r_spot_7 F I z g1 k l2 = some r → (match r with | .inl r => Q (some (.int r.1)) (n, T, r.2, J, P) | .inr r => V l D E B yX12_spot cX12_spot 3 (some .int) 0 0 0 Q 0 0 (n, T, I, J, P) 38 [(0, some (.ref z)), (1, some (.int g1)), (2, some (.int r))] []) → V l D E B yX12_spot cX12_spot 3 (some .int) 0 0 0 Q 0 0 (n, T, I, J, P) 7 [(0, some (.ref z)), (1, some (.int g1)), (2, some (.int l2))] [] := by
  intro k
  induction k with
  | zero =>
    intro l2 hf hk
    cases hf
  | succ k ih =>
    intro l2 hf hk
    unfold r_spot_7 at hf
    refine V.iload_n dX12_spot_7 rfl ?_
    refine V.aload_n dX12_spot_8 rfl ?_
    refine V.getr fl_X12_13 dX12_spot_9 (hs_z.1 0 (12, 0) rfl) (hs_z.2 0 1 1 rfl) (by decide) rfl ?_
    refine V.iconst (v := 1) dX12_spot_12 (by decide) ?_
    refine V.iald dX12_spot_13 (hs_z.1 1 (20, 3891) rfl) (vp_lit (by decide)) ?_
    refine V.icmp_ge 38 dX12_spot_14 (by decide) (fun c3 => ?_) (fun c3 => ?_)
    · rw [if_pos c3] at hf
      obtain rfl := Option.some.inj hf
      exact V.lo [(0, some (.ref z)), (1, some (.int g1)), (2, some (.int l2))] (by simp only [Subs]; repeat' first | exact trivial | constructor | rfl) hk
    · rw [if_neg c3] at hf
      refine V.aload_n dX12_spot_17 rfl ?_
      refine V.getr fl_X12_13 dX12_spot_18 (hs_z.1 0 (12, 0) rfl) (hs_z.2 0 1 1 rfl) (by decide) rfl ?_
      refine V.bipush (v := 35) dX12_spot_21 (by decide) ?_
      refine V.iload_n dX12_spot_23 rfl ?_
      refine V.iadd dX12_spot_24 ?_
      obtain ⟨hb4, hf⟩ := chk_some hf
      refine V.iald dX12_spot_25 (hs_z.1 1 (20, 3891) rfl) hb4 ?_
      refine V.iload_n dX12_spot_26 rfl ?_
      refine V.icmp_ne 32 dX12_spot_27 (by decide) (fun c5 => ?_) (fun c5 => ?_)
      · rw [if_neg c5] at hf
        refine V.iinc (v := (l2 + 1)) dX12_spot_32 rfl rfl (by first | exact rfl | exact trivial) ?_
        refine V.goto 7 dX12_spot_35 (by decide) ?_
        exact V.lo [(0, some (.ref z)), (1, some (.int g1)), (2, some (.int (l2 + 1)))] (by simp only [Subs]; repeat' first | exact trivial | constructor | rfl) (ih _ hf hk)
      · rw [if_pos c5] at hf
        refine V.iload_n dX12_spot_30 rfl ?_
        obtain rfl := Option.some.inj hf
        exact V.iret dX12_spot_31 rfl (Nat.le_refl _) (Nat.le_refl _) hk
theorem c_r_spot {l : Launch} {D : va_G} {E : Nat → ClassId} {B : Nat → Prop} {n F : Nat} {T : Nat → Option (Nat × Nat)} {I : Nat → Nat → Int32} {J : Nat → Nat → Int64} {P : Nat → Nat → Option Nat} {z : Nat} {v1 : Int32} {r : Int32 × (Nat → Nat → Int32)} (hs_z : isMd T P z) (hf : r_spot F I z v1 = some r) : Ct l D E B yX12_spot cX12_spot 3 (some .int) 0 0 0 [.ref z, .int v1] (n, T, I, J, P) (Ret (some (.int r.1)) (n, T, r.2, J, P)) := by
  unfold r_spot at hf
  refine Ct.ofV (by decide) (Nat.le_of_ble_eq_true rfl) ?_
  refine V.aload_n dX12_spot_0 rfl ?_
  refine V.iconst (v := 0) dX12_spot_1 (by decide) ?_
  refine V.putiE fl_X12_1 dX12_spot_2 (hs_z.1 0 (12, 0) rfl) (by decide) (fun h => by cases h) rfl rfl rfl (Nat.le_of_ble_eq_true rfl) (fun I1 e2 => ?_)
  rw [← e2] at hf
  try dsimp only at hf
  clear e2
  refine V.iconst (v := 0) dX12_spot_5 (by decide) ?_
  refine V.istore_n dX12_spot_6 rfl (by decide) (by first | exact rfl | exact trivial) ?_
  obtain ⟨q6, hk7, hf⟩ := bnd_some hf
  refine V.lo [(0, some (.ref z)), (1, some (.int v1)), (2, some (.int 0))] (by simp only [Subs]; repeat' first | exact trivial | constructor | rfl) (l_r_spot_7 hs_z q6 F _ hk7 ?_)
  rcases q6 with r0 | m8
  · try dsimp only at hf ⊢
    obtain rfl := Option.some.inj hf
    exact ⟨rfl, rfl⟩
  · try dsimp only at hf ⊢
    refine V.bipush (v := -2) dX12_spot_38 (by decide) ?_
    obtain rfl := Option.some.inj hf
    exact V.iret dX12_spot_40 rfl (Nat.le_refl _) (Nat.le_refl _) ⟨rfl, rfl⟩
theorem dX12_keeps_0 : decode cX12_keeps 0 = .ok (.iconst 0, 1) := by decide +kernel
theorem dX12_keeps_1 : decode cX12_keeps 1 = .ok (.istore_n 1, 1) := by decide +kernel
theorem dX12_keeps_2 : decode cX12_keeps 2 = .ok (.iload_n 1, 1) := by decide +kernel
theorem dX12_keeps_3 : decode cX12_keeps 3 = .ok (.bipush 33, 2) := by decide +kernel
theorem dX12_keeps_5 : decode cX12_keeps 5 = .ok (.if_icmp .ge 24, 3) := by decide +kernel
theorem dX12_keeps_8 : decode cX12_keeps 8 = .ok (.aload_n 0, 1) := by decide +kernel
theorem dX12_keeps_9 : decode cX12_keeps 9 = .ok (.getfield 36, 3) := by decide +kernel
theorem dX12_keeps_12 : decode cX12_keeps 12 = .ok (.iload_n 1, 1) := by decide +kernel
theorem dX12_keeps_13 : decode cX12_keeps 13 = .ok (.aload_n 0, 1) := by decide +kernel
theorem dX12_keeps_14 : decode cX12_keeps 14 = .ok (.getfield 13, 3) := by decide +kernel
theorem dX12_keeps_17 : decode cX12_keeps 17 = .ok (.bipush 32, 2) := by decide +kernel
theorem dX12_keeps_19 : decode cX12_keeps 19 = .ok (.iload_n 1, 1) := by decide +kernel
theorem dX12_keeps_20 : decode cX12_keeps 20 = .ok (.iadd, 1) := by decide +kernel
theorem dX12_keeps_21 : decode cX12_keeps 21 = .ok (.iaload, 1) := by decide +kernel
theorem dX12_keeps_22 : decode cX12_keeps 22 = .ok (.iastore, 1) := by decide +kernel
theorem dX12_keeps_23 : decode cX12_keeps 23 = .ok (.iinc 1 1, 3) := by decide +kernel
theorem dX12_keeps_26 : decode cX12_keeps 26 = .ok (.goto (-24), 3) := by decide +kernel
theorem dX12_keeps_29 : decode cX12_keeps 29 = .ok (.return_, 1) := by decide +kernel
def r_keeps_2 (F : Nat) (z : Nat) : Nat → Int32 → (Nat → Nat → Int32) → Option (Int32 × (Nat → Nat → Int32))
  | 0, _, _ => none
  | k + 1, l1, I => if 33 ≤ l1 then (some (l1, I)) else (chk (32 + l1) 3891 (chk l1 33 (let I4 := uI I (z + 7) (Int32.toNatClampNeg l1) (I (z + 1) (Int32.toNatClampNeg (32 + l1))); r_keeps_2 F z k (l1 + 1) I4)))
def r_keeps (F : Nat) (I : Nat → Nat → Int32) (z : Nat) : Option ((Nat → Nat → Int32)) := (r_keeps_2 F z F 0 I).bind (fun q6 => let m8 := q6.1; let I9 := q6.2; some I9)
theorem l_r_keeps_2 {l : Launch} {D : va_G} {E : Nat → ClassId} {B : Nat → Prop} {n F : Nat} {Q : Option Value → HT → Prop} {T : Nat → Option (Nat × Nat)} {J : Nat → Nat → Int64} {P : Nat → Nat → Option Nat} {z : Nat}  (hs_z : isMd T P z)  (r : Int32 × (Nat → Nat → Int32)) : ∀ (k : Nat) (l1 : Int32) (I : (Nat → Nat → Int32)), r_keeps_2 F z k l1 I = some r → V l D E B yX12_keeps cX12_keeps 2 none 0 0 0 Q 0 0 (n, T, r.2, J, P) 29 [(0, some (.ref z)), (1, some (.int (r.1)))] [] → V l D E B yX12_keeps cX12_keeps 2 none 0 0 0 Q 0 0 (n, T, I, J, P) 2 [(0, some (.ref z)), (1, some (.int l1))] [] := by
  intro k
  induction k with
  | zero =>
    intro l1 I hf hk
    cases hf
  | succ k ih =>
    intro l1 I hf hk
    unfold r_keeps_2 at hf
    refine V.iload_n dX12_keeps_2 rfl ?_
    refine V.bipush (v := 33) dX12_keeps_3 (by decide) ?_
    refine V.icmp_ge 29 dX12_keeps_5 (by decide) (fun c1 => ?_) (fun c1 => ?_)
    · rw [if_pos c1] at hf
      obtain rfl := Option.some.inj hf
      exact V.lo [(0, some (.ref z)), (1, some (.int l1))] (by simp only [Subs]; repeat' first | exact trivial | constructor | rfl) hk
    · rw [if_neg c1] at hf
      refine V.aload_n dX12_keeps_8 rfl ?_
      refine V.getr fl_X12_36 dX12_keeps_9 (hs_z.1 0 (12, 0) rfl) (hs_z.2 0 17 7 rfl) (by decide) rfl ?_
      refine V.iload_n dX12_keeps_12 rfl ?_
      refine V.aload_n dX12_keeps_13 rfl ?_
      refine V.getr fl_X12_13 dX12_keeps_14 (hs_z.1 0 (12, 0) rfl) (hs_z.2 0 1 1 rfl) (by decide) rfl ?_
      refine V.bipush (v := 32) dX12_keeps_17 (by decide) ?_
      refine V.iload_n dX12_keeps_19 rfl ?_
      refine V.iadd dX12_keeps_20 ?_
      obtain ⟨hb2, hf⟩ := chk_some hf
      refine V.iald dX12_keeps_21 (hs_z.1 1 (20, 3891) rfl) hb2 ?_
      obtain ⟨hb3, hf⟩ := chk_some hf
      refine V.iastE dX12_keeps_22 (hs_z.1 7 (20, 33) rfl) hb3 (fun I4 e5 => ?_)
      rw [← e5] at hf
      try dsimp only at hf
      clear e5
      refine V.iinc (v := (l1 + 1)) dX12_keeps_23 rfl rfl (by first | exact rfl | exact trivial) ?_
      refine V.goto 2 dX12_keeps_26 (by decide) ?_
      exact V.lo [(0, some (.ref z)), (1, some (.int (l1 + 1)))] (by simp only [Subs]; repeat' first | exact trivial | constructor | rfl) (ih _ _ hf hk)
theorem c_r_keeps {l : Launch} {D : va_G} {E : Nat → ClassId} {B : Nat → Prop} {n F : Nat} {T : Nat → Option (Nat × Nat)} {I : Nat → Nat → Int32} {J : Nat → Nat → Int64} {P : Nat → Nat → Option Nat} {z : Nat}  {r : (Nat → Nat → Int32)} (hs_z : isMd T P z) (hf : r_keeps F I z = some r) : Ct l D E B yX12_keeps cX12_keeps 2 none 0 0 0 [.ref z] (n, T, I, J, P) (Ret (none) (n, T, r, J, P)) := by
  unfold r_keeps at hf
  refine Ct.ofV (by decide) (Nat.le_of_ble_eq_true rfl) ?_
  refine V.iconst (v := 0) dX12_keeps_0 (by decide) ?_
  refine V.istore_n dX12_keeps_1 rfl (by decide) (by first | exact rfl | exact trivial) ?_
  obtain ⟨⟨m8, I9⟩, hk7, hf⟩ := bnd_some hf
  try dsimp only at hf
  refine V.lo [(0, some (.ref z)), (1, some (.int 0))] (by simp only [Subs]; repeat' first | exact trivial | constructor | rfl) (l_r_keeps_2 hs_z _ F _ _ hk7 ?_)
  try dsimp only
  obtain rfl := Option.some.inj hf
  exact V.vret dX12_keeps_29 rfl (Nat.le_refl _) (Nat.le_refl _) ⟨rfl, rfl⟩
theorem dX12_isAgain_0 : decode cX12_isAgain 0 = .ok (.iconst 0, 1) := by decide +kernel
theorem dX12_isAgain_1 : decode cX12_isAgain 1 = .ok (.istore_n 1, 1) := by decide +kernel
theorem dX12_isAgain_2 : decode cX12_isAgain 2 = .ok (.iload_n 1, 1) := by decide +kernel
theorem dX12_isAgain_3 : decode cX12_isAgain 3 = .ok (.bipush 33, 2) := by decide +kernel
theorem dX12_isAgain_5 : decode cX12_isAgain 5 = .ok (.if_icmp .ge 24, 3) := by decide +kernel
theorem dX12_isAgain_8 : decode cX12_isAgain 8 = .ok (.aload_n 0, 1) := by decide +kernel
theorem dX12_isAgain_9 : decode cX12_isAgain 9 = .ok (.getfield 13, 3) := by decide +kernel
theorem dX12_isAgain_12 : decode cX12_isAgain 12 = .ok (.bipush 32, 2) := by decide +kernel
theorem dX12_isAgain_14 : decode cX12_isAgain 14 = .ok (.iload_n 1, 1) := by decide +kernel
theorem dX12_isAgain_15 : decode cX12_isAgain 15 = .ok (.iadd, 1) := by decide +kernel
theorem dX12_isAgain_16 : decode cX12_isAgain 16 = .ok (.aload_n 0, 1) := by decide +kernel
theorem dX12_isAgain_17 : decode cX12_isAgain 17 = .ok (.getfield 36, 3) := by decide +kernel
theorem dX12_isAgain_20 : decode cX12_isAgain 20 = .ok (.iload_n 1, 1) := by decide +kernel
theorem dX12_isAgain_21 : decode cX12_isAgain 21 = .ok (.iaload, 1) := by decide +kernel
theorem dX12_isAgain_22 : decode cX12_isAgain 22 = .ok (.iastore, 1) := by decide +kernel
theorem dX12_isAgain_23 : decode cX12_isAgain 23 = .ok (.iinc 1 1, 3) := by decide +kernel
theorem dX12_isAgain_26 : decode cX12_isAgain 26 = .ok (.goto (-24), 3) := by decide +kernel
theorem dX12_isAgain_29 : decode cX12_isAgain 29 = .ok (.return_, 1) := by decide +kernel
def r_isAgain_2 (F : Nat) (z : Nat) : Nat → Int32 → (Nat → Nat → Int32) → Option (Int32 × (Nat → Nat → Int32))
  | 0, _, _ => none
  | k + 1, l1, I => if 33 ≤ l1 then (some (l1, I)) else (chk l1 33 (chk (32 + l1) 3891 (let I4 := uI I (z + 1) (Int32.toNatClampNeg (32 + l1)) (I (z + 7) (Int32.toNatClampNeg l1)); r_isAgain_2 F z k (l1 + 1) I4)))
def r_isAgain (F : Nat) (I : Nat → Nat → Int32) (z : Nat) : Option ((Nat → Nat → Int32)) := (r_isAgain_2 F z F 0 I).bind (fun q6 => let m8 := q6.1; let I9 := q6.2; some I9)
theorem l_r_isAgain_2 {l : Launch} {D : va_G} {E : Nat → ClassId} {B : Nat → Prop} {n F : Nat} {Q : Option Value → HT → Prop} {T : Nat → Option (Nat × Nat)} {J : Nat → Nat → Int64} {P : Nat → Nat → Option Nat} {z : Nat}  (hs_z : isMd T P z)  (r : Int32 × (Nat → Nat → Int32)) : ∀ (k : Nat) (l1 : Int32) (I : (Nat → Nat → Int32)), r_isAgain_2 F z k l1 I = some r → V l D E B yX12_isAgain cX12_isAgain 2 none 0 0 0 Q 0 0 (n, T, r.2, J, P) 29 [(0, some (.ref z)), (1, some (.int (r.1)))] [] → V l D E B yX12_isAgain cX12_isAgain 2 none 0 0 0 Q 0 0 (n, T, I, J, P) 2 [(0, some (.ref z)), (1, some (.int l1))] [] := by
  intro k
  induction k with
  | zero =>
    intro l1 I hf hk
    cases hf
  | succ k ih =>
    intro l1 I hf hk
    unfold r_isAgain_2 at hf
    refine V.iload_n dX12_isAgain_2 rfl ?_
    refine V.bipush (v := 33) dX12_isAgain_3 (by decide) ?_
    refine V.icmp_ge 29 dX12_isAgain_5 (by decide) (fun c1 => ?_) (fun c1 => ?_)
    · rw [if_pos c1] at hf
      obtain rfl := Option.some.inj hf
      exact V.lo [(0, some (.ref z)), (1, some (.int l1))] (by simp only [Subs]; repeat' first | exact trivial | constructor | rfl) hk
    · rw [if_neg c1] at hf
      refine V.aload_n dX12_isAgain_8 rfl ?_
      refine V.getr fl_X12_13 dX12_isAgain_9 (hs_z.1 0 (12, 0) rfl) (hs_z.2 0 1 1 rfl) (by decide) rfl ?_
      refine V.bipush (v := 32) dX12_isAgain_12 (by decide) ?_
      refine V.iload_n dX12_isAgain_14 rfl ?_
      refine V.iadd dX12_isAgain_15 ?_
      refine V.aload_n dX12_isAgain_16 rfl ?_
      refine V.getr fl_X12_36 dX12_isAgain_17 (hs_z.1 0 (12, 0) rfl) (hs_z.2 0 17 7 rfl) (by decide) rfl ?_
      refine V.iload_n dX12_isAgain_20 rfl ?_
      obtain ⟨hb2, hf⟩ := chk_some hf
      refine V.iald dX12_isAgain_21 (hs_z.1 7 (20, 33) rfl) hb2 ?_
      obtain ⟨hb3, hf⟩ := chk_some hf
      refine V.iastE dX12_isAgain_22 (hs_z.1 1 (20, 3891) rfl) hb3 (fun I4 e5 => ?_)
      rw [← e5] at hf
      try dsimp only at hf
      clear e5
      refine V.iinc (v := (l1 + 1)) dX12_isAgain_23 rfl rfl (by first | exact rfl | exact trivial) ?_
      refine V.goto 2 dX12_isAgain_26 (by decide) ?_
      exact V.lo [(0, some (.ref z)), (1, some (.int (l1 + 1)))] (by simp only [Subs]; repeat' first | exact trivial | constructor | rfl) (ih _ _ hf hk)
theorem c_r_isAgain {l : Launch} {D : va_G} {E : Nat → ClassId} {B : Nat → Prop} {n F : Nat} {T : Nat → Option (Nat × Nat)} {I : Nat → Nat → Int32} {J : Nat → Nat → Int64} {P : Nat → Nat → Option Nat} {z : Nat}  {r : (Nat → Nat → Int32)} (hs_z : isMd T P z) (hf : r_isAgain F I z = some r) : Ct l D E B yX12_isAgain cX12_isAgain 2 none 0 0 0 [.ref z] (n, T, I, J, P) (Ret (none) (n, T, r, J, P)) := by
  unfold r_isAgain at hf
  refine Ct.ofV (by decide) (Nat.le_of_ble_eq_true rfl) ?_
  refine V.iconst (v := 0) dX12_isAgain_0 (by decide) ?_
  refine V.istore_n dX12_isAgain_1 rfl (by decide) (by first | exact rfl | exact trivial) ?_
  obtain ⟨⟨m8, I9⟩, hk7, hf⟩ := bnd_some hf
  try dsimp only at hf
  refine V.lo [(0, some (.ref z)), (1, some (.int 0))] (by simp only [Subs]; repeat' first | exact trivial | constructor | rfl) (l_r_isAgain_2 hs_z _ F _ _ hk7 ?_)
  try dsimp only
  obtain rfl := Option.some.inj hf
  exact V.vret dX12_isAgain_29 rfl (Nat.le_refl _) (Nat.le_refl _) ⟨rfl, rfl⟩
theorem dX12_notes_0 : decode cX12_notes 0 = .ok (.aload_n 0, 1) := by decide +kernel
theorem dX12_notes_1 : decode cX12_notes 1 = .ok (.getfield 13, 3) := by decide +kernel
theorem dX12_notes_4 : decode cX12_notes 4 = .ok (.bipush 65, 2) := by decide +kernel
theorem dX12_notes_6 : decode cX12_notes 6 = .ok (.iaload, 1) := by decide +kernel
theorem dX12_notes_7 : decode cX12_notes 7 = .ok (.bipush 10, 2) := by decide +kernel
theorem dX12_notes_9 : decode cX12_notes 9 = .ok (.if_icmp .ne 47, 3) := by decide +kernel
theorem dX12_notes_12 : decode cX12_notes 12 = .ok (.iconst 0, 1) := by decide +kernel
theorem dX12_notes_13 : decode cX12_notes 13 = .ok (.istore_n 1, 1) := by decide +kernel
theorem dX12_notes_14 : decode cX12_notes 14 = .ok (.iload_n 1, 1) := by decide +kernel
theorem dX12_notes_15 : decode cX12_notes 15 = .ok (.sipush 297, 3) := by decide +kernel
theorem dX12_notes_18 : decode cX12_notes 18 = .ok (.if_icmp .ge 27, 3) := by decide +kernel
theorem dX12_notes_21 : decode cX12_notes 21 = .ok (.aload_n 0, 1) := by decide +kernel
theorem dX12_notes_22 : decode cX12_notes 22 = .ok (.getfield 13, 3) := by decide +kernel
theorem dX12_notes_25 : decode cX12_notes 25 = .ok (.bipush 66, 2) := by decide +kernel
theorem dX12_notes_27 : decode cX12_notes 27 = .ok (.iload_n 1, 1) := by decide +kernel
theorem dX12_notes_28 : decode cX12_notes 28 = .ok (.iadd, 1) := by decide +kernel
theorem dX12_notes_29 : decode cX12_notes 29 = .ok (.aload_n 0, 1) := by decide +kernel
theorem dX12_notes_30 : decode cX12_notes 30 = .ok (.getfield 13, 3) := by decide +kernel
theorem dX12_notes_33 : decode cX12_notes 33 = .ok (.bipush 99, 2) := by decide +kernel
theorem dX12_notes_35 : decode cX12_notes 35 = .ok (.iload_n 1, 1) := by decide +kernel
theorem dX12_notes_36 : decode cX12_notes 36 = .ok (.iadd, 1) := by decide +kernel
theorem dX12_notes_37 : decode cX12_notes 37 = .ok (.iaload, 1) := by decide +kernel
theorem dX12_notes_38 : decode cX12_notes 38 = .ok (.iastore, 1) := by decide +kernel
theorem dX12_notes_39 : decode cX12_notes 39 = .ok (.iinc 1 1, 3) := by decide +kernel
theorem dX12_notes_42 : decode cX12_notes 42 = .ok (.goto (-28), 3) := by decide +kernel
theorem dX12_notes_45 : decode cX12_notes 45 = .ok (.aload_n 0, 1) := by decide +kernel
theorem dX12_notes_46 : decode cX12_notes 46 = .ok (.getfield 13, 3) := by decide +kernel
theorem dX12_notes_49 : decode cX12_notes 49 = .ok (.bipush 65, 2) := by decide +kernel
theorem dX12_notes_51 : decode cX12_notes 51 = .ok (.dup2, 1) := by decide +kernel
theorem dX12_notes_52 : decode cX12_notes 52 = .ok (.iaload, 1) := by decide +kernel
theorem dX12_notes_53 : decode cX12_notes 53 = .ok (.iconst 1, 1) := by decide +kernel
theorem dX12_notes_54 : decode cX12_notes 54 = .ok (.isub, 1) := by decide +kernel
theorem dX12_notes_55 : decode cX12_notes 55 = .ok (.iastore, 1) := by decide +kernel
theorem dX12_notes_56 : decode cX12_notes 56 = .ok (.iconst 0, 1) := by decide +kernel
theorem dX12_notes_57 : decode cX12_notes 57 = .ok (.istore_n 1, 1) := by decide +kernel
theorem dX12_notes_58 : decode cX12_notes 58 = .ok (.iload_n 1, 1) := by decide +kernel
theorem dX12_notes_59 : decode cX12_notes 59 = .ok (.bipush 33, 2) := by decide +kernel
theorem dX12_notes_61 : decode cX12_notes 61 = .ok (.if_icmp .ge 35, 3) := by decide +kernel
theorem dX12_notes_64 : decode cX12_notes 64 = .ok (.aload_n 0, 1) := by decide +kernel
theorem dX12_notes_65 : decode cX12_notes 65 = .ok (.getfield 13, 3) := by decide +kernel
theorem dX12_notes_68 : decode cX12_notes 68 = .ok (.bipush 66, 2) := by decide +kernel
theorem dX12_notes_70 : decode cX12_notes 70 = .ok (.bipush 33, 2) := by decide +kernel
theorem dX12_notes_72 : decode cX12_notes 72 = .ok (.aload_n 0, 1) := by decide +kernel
theorem dX12_notes_73 : decode cX12_notes 73 = .ok (.getfield 13, 3) := by decide +kernel
theorem dX12_notes_76 : decode cX12_notes 76 = .ok (.bipush 65, 2) := by decide +kernel
theorem dX12_notes_78 : decode cX12_notes 78 = .ok (.iaload, 1) := by decide +kernel
theorem dX12_notes_79 : decode cX12_notes 79 = .ok (.imul, 1) := by decide +kernel
theorem dX12_notes_80 : decode cX12_notes 80 = .ok (.iadd, 1) := by decide +kernel
theorem dX12_notes_81 : decode cX12_notes 81 = .ok (.iload_n 1, 1) := by decide +kernel
theorem dX12_notes_82 : decode cX12_notes 82 = .ok (.iadd, 1) := by decide +kernel
theorem dX12_notes_83 : decode cX12_notes 83 = .ok (.aload_n 0, 1) := by decide +kernel
theorem dX12_notes_84 : decode cX12_notes 84 = .ok (.getfield 36, 3) := by decide +kernel
theorem dX12_notes_87 : decode cX12_notes 87 = .ok (.iload_n 1, 1) := by decide +kernel
theorem dX12_notes_88 : decode cX12_notes 88 = .ok (.iaload, 1) := by decide +kernel
theorem dX12_notes_89 : decode cX12_notes 89 = .ok (.iastore, 1) := by decide +kernel
theorem dX12_notes_90 : decode cX12_notes 90 = .ok (.iinc 1 1, 3) := by decide +kernel
theorem dX12_notes_93 : decode cX12_notes 93 = .ok (.goto (-35), 3) := by decide +kernel
theorem dX12_notes_96 : decode cX12_notes 96 = .ok (.aload_n 0, 1) := by decide +kernel
theorem dX12_notes_97 : decode cX12_notes 97 = .ok (.getfield 13, 3) := by decide +kernel
theorem dX12_notes_100 : decode cX12_notes 100 = .ok (.bipush 65, 2) := by decide +kernel
theorem dX12_notes_102 : decode cX12_notes 102 = .ok (.dup2, 1) := by decide +kernel
theorem dX12_notes_103 : decode cX12_notes 103 = .ok (.iaload, 1) := by decide +kernel
theorem dX12_notes_104 : decode cX12_notes 104 = .ok (.iconst 1, 1) := by decide +kernel
theorem dX12_notes_105 : decode cX12_notes 105 = .ok (.iadd, 1) := by decide +kernel
theorem dX12_notes_106 : decode cX12_notes 106 = .ok (.iastore, 1) := by decide +kernel
theorem dX12_notes_107 : decode cX12_notes 107 = .ok (.return_, 1) := by decide +kernel
def r_notes_58 (F : Nat) (z : Nat) : Nat → Int32 → (Nat → Nat → Int32) → Option (Int32 × (Nat → Nat → Int32))
  | 0, _, _ => none
  | k + 1, l1, I => if 33 ≤ l1 then (some (l1, I)) else (chk l1 33 (chk ((66 + (33 * (I (z + 1) (Int32.toNatClampNeg 65)))) + l1) 3891 (let I5 := uI I (z + 1) (Int32.toNatClampNeg ((66 + (33 * (I (z + 1) (Int32.toNatClampNeg 65)))) + l1)) (I (z + 7) (Int32.toNatClampNeg l1)); r_notes_58 F z k (l1 + 1) I5)))
def r_notes_14 (F : Nat) (z : Nat) : Nat → Int32 → (Nat → Nat → Int32) → Option (Int32 × (Nat → Nat → Int32))
  | 0, _, _ => none
  | k + 1, l1, I => if 297 ≤ l1 then (some (l1, I)) else (chk (99 + l1) 3891 (chk (66 + l1) 3891 (let I16 := uI I (z + 1) (Int32.toNatClampNeg (66 + l1)) (I (z + 1) (Int32.toNatClampNeg (99 + l1))); r_notes_14 F z k (l1 + 1) I16)))
def r_notes (F : Nat) (I : Nat → Nat → Int32) (z : Nat) : Option ((Nat → Nat → Int32)) := if (I (z + 1) (Int32.toNatClampNeg 65)) = 10 then ((r_notes_14 F z F 0 I).bind (fun q18 => let m20 := q18.1; let I21 := q18.2; let I22 := uI I21 (z + 1) (Int32.toNatClampNeg 65) ((I21 (z + 1) (Int32.toNatClampNeg 65)) - 1); (r_notes_58 F z F 0 I22).bind (fun q24 => let m26 := q24.1; let I27 := q24.2; let I28 := uI I27 (z + 1) (Int32.toNatClampNeg 65) ((I27 (z + 1) (Int32.toNatClampNeg 65)) + 1); some I28))) else ((r_notes_58 F z F 0 I).bind (fun q7 => let m9 := q7.1; let I10 := q7.2; let I11 := uI I10 (z + 1) (Int32.toNatClampNeg 65) ((I10 (z + 1) (Int32.toNatClampNeg 65)) + 1); some I11))
theorem l_r_notes_58 {l : Launch} {D : va_G} {E : Nat → ClassId} {B : Nat → Prop} {n F : Nat} {Q : Option Value → HT → Prop} {T : Nat → Option (Nat × Nat)} {J : Nat → Nat → Int64} {P : Nat → Nat → Option Nat} {z : Nat}  (hs_z : isMd T P z)  (r : Int32 × (Nat → Nat → Int32)) : ∀ (k : Nat) (l1 : Int32) (I : (Nat → Nat → Int32)), r_notes_58 F z k l1 I = some r → V l D E B yX12_notes cX12_notes 2 none 0 0 0 Q 0 0 (n, T, r.2, J, P) 96 [(0, some (.ref z)), (1, some (.int (r.1)))] [] → V l D E B yX12_notes cX12_notes 2 none 0 0 0 Q 0 0 (n, T, I, J, P) 58 [(0, some (.ref z)), (1, some (.int l1))] [] := by
  intro k
  induction k with
  | zero =>
    intro l1 I hf hk
    cases hf
  | succ k ih =>
    intro l1 I hf hk
    unfold r_notes_58 at hf
    refine V.iload_n dX12_notes_58 rfl ?_
    refine V.bipush (v := 33) dX12_notes_59 (by decide) ?_
    refine V.icmp_ge 96 dX12_notes_61 (by decide) (fun c2 => ?_) (fun c2 => ?_)
    · rw [if_pos c2] at hf
      obtain rfl := Option.some.inj hf
      exact V.lo [(0, some (.ref z)), (1, some (.int l1))] (by simp only [Subs]; repeat' first | exact trivial | constructor | rfl) hk
    · rw [if_neg c2] at hf
      refine V.aload_n dX12_notes_64 rfl ?_
      refine V.getr fl_X12_13 dX12_notes_65 (hs_z.1 0 (12, 0) rfl) (hs_z.2 0 1 1 rfl) (by decide) rfl ?_
      refine V.bipush (v := 66) dX12_notes_68 (by decide) ?_
      refine V.bipush (v := 33) dX12_notes_70 (by decide) ?_
      refine V.aload_n dX12_notes_72 rfl ?_
      refine V.getr fl_X12_13 dX12_notes_73 (hs_z.1 0 (12, 0) rfl) (hs_z.2 0 1 1 rfl) (by decide) rfl ?_
      refine V.bipush (v := 65) dX12_notes_76 (by decide) ?_
      refine V.iald dX12_notes_78 (hs_z.1 1 (20, 3891) rfl) (vp_lit (by decide)) ?_
      refine V.imul dX12_notes_79 ?_
      refine V.iadd dX12_notes_80 ?_
      refine V.iload_n dX12_notes_81 rfl ?_
      refine V.iadd dX12_notes_82 ?_
      refine V.aload_n dX12_notes_83 rfl ?_
      refine V.getr fl_X12_36 dX12_notes_84 (hs_z.1 0 (12, 0) rfl) (hs_z.2 0 17 7 rfl) (by decide) rfl ?_
      refine V.iload_n dX12_notes_87 rfl ?_
      obtain ⟨hb3, hf⟩ := chk_some hf
      refine V.iald dX12_notes_88 (hs_z.1 7 (20, 33) rfl) hb3 ?_
      obtain ⟨hb4, hf⟩ := chk_some hf
      refine V.iastE dX12_notes_89 (hs_z.1 1 (20, 3891) rfl) hb4 (fun I5 e6 => ?_)
      rw [← e6] at hf
      try dsimp only at hf
      clear e6
      refine V.iinc (v := (l1 + 1)) dX12_notes_90 rfl rfl (by first | exact rfl | exact trivial) ?_
      refine V.goto 58 dX12_notes_93 (by decide) ?_
      exact V.lo [(0, some (.ref z)), (1, some (.int (l1 + 1)))] (by simp only [Subs]; repeat' first | exact trivial | constructor | rfl) (ih _ _ hf hk)
theorem l_r_notes_14 {l : Launch} {D : va_G} {E : Nat → ClassId} {B : Nat → Prop} {n F : Nat} {Q : Option Value → HT → Prop} {T : Nat → Option (Nat × Nat)} {J : Nat → Nat → Int64} {P : Nat → Nat → Option Nat} {z : Nat}  (hs_z : isMd T P z)  (r : Int32 × (Nat → Nat → Int32)) : ∀ (k : Nat) (l1 : Int32) (I : (Nat → Nat → Int32)), r_notes_14 F z k l1 I = some r → V l D E B yX12_notes cX12_notes 2 none 0 0 0 Q 0 0 (n, T, r.2, J, P) 45 [(0, some (.ref z)), (1, some (.int (r.1)))] [] → V l D E B yX12_notes cX12_notes 2 none 0 0 0 Q 0 0 (n, T, I, J, P) 14 [(0, some (.ref z)), (1, some (.int l1))] [] := by
  intro k
  induction k with
  | zero =>
    intro l1 I hf hk
    cases hf
  | succ k ih =>
    intro l1 I hf hk
    unfold r_notes_14 at hf
    refine V.iload_n dX12_notes_14 rfl ?_
    refine V.sipush (v := 297) dX12_notes_15 (by decide) ?_
    refine V.icmp_ge 45 dX12_notes_18 (by decide) (fun c13 => ?_) (fun c13 => ?_)
    · rw [if_pos c13] at hf
      obtain rfl := Option.some.inj hf
      exact V.lo [(0, some (.ref z)), (1, some (.int l1))] (by simp only [Subs]; repeat' first | exact trivial | constructor | rfl) hk
    · rw [if_neg c13] at hf
      refine V.aload_n dX12_notes_21 rfl ?_
      refine V.getr fl_X12_13 dX12_notes_22 (hs_z.1 0 (12, 0) rfl) (hs_z.2 0 1 1 rfl) (by decide) rfl ?_
      refine V.bipush (v := 66) dX12_notes_25 (by decide) ?_
      refine V.iload_n dX12_notes_27 rfl ?_
      refine V.iadd dX12_notes_28 ?_
      refine V.aload_n dX12_notes_29 rfl ?_
      refine V.getr fl_X12_13 dX12_notes_30 (hs_z.1 0 (12, 0) rfl) (hs_z.2 0 1 1 rfl) (by decide) rfl ?_
      refine V.bipush (v := 99) dX12_notes_33 (by decide) ?_
      refine V.iload_n dX12_notes_35 rfl ?_
      refine V.iadd dX12_notes_36 ?_
      obtain ⟨hb14, hf⟩ := chk_some hf
      refine V.iald dX12_notes_37 (hs_z.1 1 (20, 3891) rfl) hb14 ?_
      obtain ⟨hb15, hf⟩ := chk_some hf
      refine V.iastE dX12_notes_38 (hs_z.1 1 (20, 3891) rfl) hb15 (fun I16 e17 => ?_)
      rw [← e17] at hf
      try dsimp only at hf
      clear e17
      refine V.iinc (v := (l1 + 1)) dX12_notes_39 rfl rfl (by first | exact rfl | exact trivial) ?_
      refine V.goto 14 dX12_notes_42 (by decide) ?_
      exact V.lo [(0, some (.ref z)), (1, some (.int (l1 + 1)))] (by simp only [Subs]; repeat' first | exact trivial | constructor | rfl) (ih _ _ hf hk)
theorem c_r_notes {l : Launch} {D : va_G} {E : Nat → ClassId} {B : Nat → Prop} {n F : Nat} {T : Nat → Option (Nat × Nat)} {I : Nat → Nat → Int32} {J : Nat → Nat → Int64} {P : Nat → Nat → Option Nat} {z : Nat}  {r : (Nat → Nat → Int32)} (hs_z : isMd T P z) (hf : r_notes F I z = some r) : Ct l D E B yX12_notes cX12_notes 2 none 0 0 0 [.ref z] (n, T, I, J, P) (Ret (none) (n, T, r, J, P)) := by
  unfold r_notes at hf
  refine Ct.ofV (by decide) (Nat.le_of_ble_eq_true rfl) ?_
  refine V.aload_n dX12_notes_0 rfl ?_
  refine V.getr fl_X12_13 dX12_notes_1 (hs_z.1 0 (12, 0) rfl) (hs_z.2 0 1 1 rfl) (by decide) rfl ?_
  refine V.bipush (v := 65) dX12_notes_4 (by decide) ?_
  refine V.iald dX12_notes_6 (hs_z.1 1 (20, 3891) rfl) (vp_lit (by decide)) ?_
  refine V.bipush (v := 10) dX12_notes_7 (by decide) ?_
  refine V.icmp_ne 56 dX12_notes_9 (by decide) (fun c1 => ?_) (fun c1 => ?_)
  · rw [if_neg c1] at hf
    refine V.iconst (v := 0) dX12_notes_56 (by decide) ?_
    refine V.istore_n dX12_notes_57 rfl (by decide) (by first | exact rfl | exact trivial) ?_
    obtain ⟨⟨m9, I10⟩, hk8, hf⟩ := bnd_some hf
    try dsimp only at hf
    refine V.lo [(0, some (.ref z)), (1, some (.int 0))] (by simp only [Subs]; repeat' first | exact trivial | constructor | rfl) (l_r_notes_58 hs_z _ F _ _ hk8 ?_)
    try dsimp only
    refine V.aload_n dX12_notes_96 rfl ?_
    refine V.getr fl_X12_13 dX12_notes_97 (hs_z.1 0 (12, 0) rfl) (hs_z.2 0 1 1 rfl) (by decide) rfl ?_
    refine V.bipush (v := 65) dX12_notes_100 (by decide) ?_
    refine V.dup2 dX12_notes_102 rfl rfl ?_
    refine V.iald dX12_notes_103 (hs_z.1 1 (20, 3891) rfl) (vp_lit (by decide)) ?_
    refine V.iconst (v := 1) dX12_notes_104 (by decide) ?_
    refine V.iadd dX12_notes_105 ?_
    refine V.iastE dX12_notes_106 (hs_z.1 1 (20, 3891) rfl) (vp_lit (by decide)) (fun I11 e12 => ?_)
    rw [← e12] at hf
    try dsimp only at hf
    clear e12
    obtain rfl := Option.some.inj hf
    exact V.vret dX12_notes_107 rfl (Nat.le_refl _) (Nat.le_refl _) ⟨rfl, rfl⟩
  · rw [if_pos c1] at hf
    refine V.iconst (v := 0) dX12_notes_12 (by decide) ?_
    refine V.istore_n dX12_notes_13 rfl (by decide) (by first | exact rfl | exact trivial) ?_
    obtain ⟨⟨m20, I21⟩, hk19, hf⟩ := bnd_some hf
    try dsimp only at hf
    refine V.lo [(0, some (.ref z)), (1, some (.int 0))] (by simp only [Subs]; repeat' first | exact trivial | constructor | rfl) (l_r_notes_14 hs_z _ F _ _ hk19 ?_)
    try dsimp only
    refine V.aload_n dX12_notes_45 rfl ?_
    refine V.getr fl_X12_13 dX12_notes_46 (hs_z.1 0 (12, 0) rfl) (hs_z.2 0 1 1 rfl) (by decide) rfl ?_
    refine V.bipush (v := 65) dX12_notes_49 (by decide) ?_
    refine V.dup2 dX12_notes_51 rfl rfl ?_
    refine V.iald dX12_notes_52 (hs_z.1 1 (20, 3891) rfl) (vp_lit (by decide)) ?_
    refine V.iconst (v := 1) dX12_notes_53 (by decide) ?_
    refine V.isub dX12_notes_54 ?_
    refine V.iastE dX12_notes_55 (hs_z.1 1 (20, 3891) rfl) (vp_lit (by decide)) (fun I22 e23 => ?_)
    rw [← e23] at hf
    try dsimp only at hf
    clear e23
    refine V.iconst (v := 0) dX12_notes_56 (by decide) ?_
    refine V.istore_n dX12_notes_57 rfl (by decide) (by first | exact rfl | exact trivial) ?_
    obtain ⟨⟨m26, I27⟩, hk25, hf⟩ := bnd_some hf
    try dsimp only at hf
    refine V.lo [(0, some (.ref z)), (1, some (.int 0))] (by simp only [Subs]; repeat' first | exact trivial | constructor | rfl) (l_r_notes_58 hs_z _ F _ _ hk25 ?_)
    try dsimp only
    refine V.aload_n dX12_notes_96 rfl ?_
    refine V.getr fl_X12_13 dX12_notes_97 (hs_z.1 0 (12, 0) rfl) (hs_z.2 0 1 1 rfl) (by decide) rfl ?_
    refine V.bipush (v := 65) dX12_notes_100 (by decide) ?_
    refine V.dup2 dX12_notes_102 rfl rfl ?_
    refine V.iald dX12_notes_103 (hs_z.1 1 (20, 3891) rfl) (vp_lit (by decide)) ?_
    refine V.iconst (v := 1) dX12_notes_104 (by decide) ?_
    refine V.iadd dX12_notes_105 ?_
    refine V.iastE dX12_notes_106 (hs_z.1 1 (20, 3891) rfl) (vp_lit (by decide)) (fun I28 e29 => ?_)
    rw [← e29] at hf
    try dsimp only at hf
    clear e29
    obtain rfl := Option.some.inj hf
    exact V.vret dX12_notes_107 rfl (Nat.le_refl _) (Nat.le_refl _) ⟨rfl, rfl⟩
theorem dX12_sitsDown_0 : decode cX12_sitsDown 0 = .ok (.aload_n 0, 1) := by decide +kernel
theorem dX12_sitsDown_1 : decode cX12_sitsDown 1 = .ok (.getfield 13, 3) := by decide +kernel
theorem dX12_sitsDown_4 : decode cX12_sitsDown 4 = .ok (.bipush 32, 2) := by decide +kernel
theorem dX12_sitsDown_6 : decode cX12_sitsDown 6 = .ok (.dup2, 1) := by decide +kernel
theorem dX12_sitsDown_7 : decode cX12_sitsDown 7 = .ok (.iaload, 1) := by decide +kernel
theorem dX12_sitsDown_8 : decode cX12_sitsDown 8 = .ok (.iconst 1, 1) := by decide +kernel
theorem dX12_sitsDown_9 : decode cX12_sitsDown 9 = .ok (.iload_n 1, 1) := by decide +kernel
theorem dX12_sitsDown_10 : decode cX12_sitsDown 10 = .ok (.ishl, 1) := by decide +kernel
theorem dX12_sitsDown_11 : decode cX12_sitsDown 11 = .ok (.iconst (-1), 1) := by decide +kernel
theorem dX12_sitsDown_12 : decode cX12_sitsDown 12 = .ok (.ixor, 1) := by decide +kernel
theorem dX12_sitsDown_13 : decode cX12_sitsDown 13 = .ok (.iand, 1) := by decide +kernel
theorem dX12_sitsDown_14 : decode cX12_sitsDown 14 = .ok (.iastore, 1) := by decide +kernel
theorem dX12_sitsDown_15 : decode cX12_sitsDown 15 = .ok (.aload_n 0, 1) := by decide +kernel
theorem dX12_sitsDown_16 : decode cX12_sitsDown 16 = .ok (.getfield 13, 3) := by decide +kernel
theorem dX12_sitsDown_19 : decode cX12_sitsDown 19 = .ok (.bipush 53, 2) := by decide +kernel
theorem dX12_sitsDown_21 : decode cX12_sitsDown 21 = .ok (.iload_n 1, 1) := by decide +kernel
theorem dX12_sitsDown_22 : decode cX12_sitsDown 22 = .ok (.iadd, 1) := by decide +kernel
theorem dX12_sitsDown_23 : decode cX12_sitsDown 23 = .ok (.aload_n 0, 1) := by decide +kernel
theorem dX12_sitsDown_24 : decode cX12_sitsDown 24 = .ok (.getfield 13, 3) := by decide +kernel
theorem dX12_sitsDown_27 : decode cX12_sitsDown 27 = .ok (.bipush 34, 2) := by decide +kernel
theorem dX12_sitsDown_29 : decode cX12_sitsDown 29 = .ok (.iaload, 1) := by decide +kernel
theorem dX12_sitsDown_30 : decode cX12_sitsDown 30 = .ok (.iastore, 1) := by decide +kernel
theorem dX12_sitsDown_31 : decode cX12_sitsDown 31 = .ok (.aload_n 0, 1) := by decide +kernel
theorem dX12_sitsDown_32 : decode cX12_sitsDown 32 = .ok (.getfield 13, 3) := by decide +kernel
theorem dX12_sitsDown_35 : decode cX12_sitsDown 35 = .ok (.bipush 59, 2) := by decide +kernel
theorem dX12_sitsDown_37 : decode cX12_sitsDown 37 = .ok (.iload_n 1, 1) := by decide +kernel
theorem dX12_sitsDown_38 : decode cX12_sitsDown 38 = .ok (.iadd, 1) := by decide +kernel
theorem dX12_sitsDown_39 : decode cX12_sitsDown 39 = .ok (.aload_n 0, 1) := by decide +kernel
theorem dX12_sitsDown_40 : decode cX12_sitsDown 40 = .ok (.getfield 13, 3) := by decide +kernel
theorem dX12_sitsDown_43 : decode cX12_sitsDown 43 = .ok (.bipush 33, 2) := by decide +kernel
theorem dX12_sitsDown_45 : decode cX12_sitsDown 45 = .ok (.iaload, 1) := by decide +kernel
theorem dX12_sitsDown_46 : decode cX12_sitsDown 46 = .ok (.iastore, 1) := by decide +kernel
theorem dX12_sitsDown_47 : decode cX12_sitsDown 47 = .ok (.return_, 1) := by decide +kernel
def r_sitsDown (I : Nat → Nat → Int32) (z : Nat) (v1 : Int32) : Option ((Nat → Nat → Int32)) := let I1 := uI I (z + 1) (Int32.toNatClampNeg 32) ((I (z + 1) (Int32.toNatClampNeg 32)) &&& ((1 <<< (v1 &&& 31)) ^^^ (-1))); chk (53 + v1) 3891 (let I4 := uI I1 (z + 1) (Int32.toNatClampNeg (53 + v1)) (I1 (z + 1) (Int32.toNatClampNeg 34)); chk (59 + v1) 3891 (let I7 := uI I4 (z + 1) (Int32.toNatClampNeg (59 + v1)) (I4 (z + 1) (Int32.toNatClampNeg 33)); some I7))
theorem c_r_sitsDown {l : Launch} {D : va_G} {E : Nat → ClassId} {B : Nat → Prop} {n : Nat} {T : Nat → Option (Nat × Nat)} {I : Nat → Nat → Int32} {J : Nat → Nat → Int64} {P : Nat → Nat → Option Nat} {z : Nat} {v1 : Int32} {r : (Nat → Nat → Int32)} (hs_z : isMd T P z) (hf : r_sitsDown I z v1 = some r) : Ct l D E B yX12_sitsDown cX12_sitsDown 2 none 0 0 0 [.ref z, .int v1] (n, T, I, J, P) (Ret (none) (n, T, r, J, P)) := by
  unfold r_sitsDown at hf
  refine Ct.ofV (by decide) (Nat.le_of_ble_eq_true rfl) ?_
  refine V.aload_n dX12_sitsDown_0 rfl ?_
  refine V.getr fl_X12_13 dX12_sitsDown_1 (hs_z.1 0 (12, 0) rfl) (hs_z.2 0 1 1 rfl) (by decide) rfl ?_
  refine V.bipush (v := 32) dX12_sitsDown_4 (by decide) ?_
  refine V.dup2 dX12_sitsDown_6 rfl rfl ?_
  refine V.iald dX12_sitsDown_7 (hs_z.1 1 (20, 3891) rfl) (vp_lit (by decide)) ?_
  refine V.iconst (v := 1) dX12_sitsDown_8 (by decide) ?_
  refine V.iload_n dX12_sitsDown_9 rfl ?_
  refine V.ishl dX12_sitsDown_10 ?_
  refine V.iconst (v := -1) dX12_sitsDown_11 (by decide) ?_
  refine V.ixor dX12_sitsDown_12 ?_
  refine V.iand dX12_sitsDown_13 ?_
  refine V.iastE dX12_sitsDown_14 (hs_z.1 1 (20, 3891) rfl) (vp_lit (by decide)) (fun I1 e2 => ?_)
  rw [← e2] at hf
  try dsimp only at hf
  clear e2
  refine V.aload_n dX12_sitsDown_15 rfl ?_
  refine V.getr fl_X12_13 dX12_sitsDown_16 (hs_z.1 0 (12, 0) rfl) (hs_z.2 0 1 1 rfl) (by decide) rfl ?_
  refine V.bipush (v := 53) dX12_sitsDown_19 (by decide) ?_
  refine V.iload_n dX12_sitsDown_21 rfl ?_
  refine V.iadd dX12_sitsDown_22 ?_
  refine V.aload_n dX12_sitsDown_23 rfl ?_
  refine V.getr fl_X12_13 dX12_sitsDown_24 (hs_z.1 0 (12, 0) rfl) (hs_z.2 0 1 1 rfl) (by decide) rfl ?_
  refine V.bipush (v := 34) dX12_sitsDown_27 (by decide) ?_
  refine V.iald dX12_sitsDown_29 (hs_z.1 1 (20, 3891) rfl) (vp_lit (by decide)) ?_
  obtain ⟨hb3, hf⟩ := chk_some hf
  refine V.iastE dX12_sitsDown_30 (hs_z.1 1 (20, 3891) rfl) hb3 (fun I4 e5 => ?_)
  rw [← e5] at hf
  try dsimp only at hf
  clear e5
  refine V.aload_n dX12_sitsDown_31 rfl ?_
  refine V.getr fl_X12_13 dX12_sitsDown_32 (hs_z.1 0 (12, 0) rfl) (hs_z.2 0 1 1 rfl) (by decide) rfl ?_
  refine V.bipush (v := 59) dX12_sitsDown_35 (by decide) ?_
  refine V.iload_n dX12_sitsDown_37 rfl ?_
  refine V.iadd dX12_sitsDown_38 ?_
  refine V.aload_n dX12_sitsDown_39 rfl ?_
  refine V.getr fl_X12_13 dX12_sitsDown_40 (hs_z.1 0 (12, 0) rfl) (hs_z.2 0 1 1 rfl) (by decide) rfl ?_
  refine V.bipush (v := 33) dX12_sitsDown_43 (by decide) ?_
  refine V.iald dX12_sitsDown_45 (hs_z.1 1 (20, 3891) rfl) (vp_lit (by decide)) ?_
  obtain ⟨hb6, hf⟩ := chk_some hf
  refine V.iastE dX12_sitsDown_46 (hs_z.1 1 (20, 3891) rfl) hb6 (fun I7 e8 => ?_)
  rw [← e8] at hf
  try dsimp only at hf
  clear e8
  obtain rfl := Option.some.inj hf
  exact V.vret dX12_sitsDown_47 rfl (Nat.le_refl _) (Nat.le_refl _) ⟨rfl, rfl⟩
theorem dX12_sitsOwn_0 : decode cX12_sitsOwn 0 = .ok (.aload_n 0, 1) := by decide +kernel
theorem dX12_sitsOwn_1 : decode cX12_sitsOwn 1 = .ok (.getfield 13, 3) := by decide +kernel
theorem dX12_sitsOwn_4 : decode cX12_sitsOwn 4 = .ok (.bipush 34, 2) := by decide +kernel
theorem dX12_sitsOwn_6 : decode cX12_sitsOwn 6 = .ok (.dup2, 1) := by decide +kernel
theorem dX12_sitsOwn_7 : decode cX12_sitsOwn 7 = .ok (.iaload, 1) := by decide +kernel
theorem dX12_sitsOwn_8 : decode cX12_sitsOwn 8 = .ok (.iconst 1, 1) := by decide +kernel
theorem dX12_sitsOwn_9 : decode cX12_sitsOwn 9 = .ok (.iadd, 1) := by decide +kernel
theorem dX12_sitsOwn_10 : decode cX12_sitsOwn 10 = .ok (.iastore, 1) := by decide +kernel
theorem dX12_sitsOwn_11 : decode cX12_sitsOwn 11 = .ok (.aload_n 0, 1) := by decide +kernel
theorem dX12_sitsOwn_12 : decode cX12_sitsOwn 12 = .ok (.iload_n 1, 1) := by decide +kernel
theorem dX12_sitsOwn_13 : decode cX12_sitsOwn 13 = .ok (.invokevirtual 259, 3) := by decide +kernel
theorem dX12_sitsOwn_16 : decode cX12_sitsOwn 16 = .ok (.return_, 1) := by decide +kernel
def r_sitsOwn (I : Nat → Nat → Int32) (z : Nat) (v1 : Int32) : Option ((Nat → Nat → Int32)) := let I1 := uI I (z + 1) (Int32.toNatClampNeg 34) ((I (z + 1) (Int32.toNatClampNeg 34)) + 1); (r_sitsDown I1 z v1).bind (fun q3 => let I5 := q3; some I5)
theorem c_r_sitsOwn {l : Launch} {D : va_G} {E : Nat → ClassId} {B : Nat → Prop} {n : Nat} {T : Nat → Option (Nat × Nat)} {I : Nat → Nat → Int32} {J : Nat → Nat → Int64} {P : Nat → Nat → Option Nat} {z : Nat} {v1 : Int32} {r : (Nat → Nat → Int32)} (hs_z : isMd T P z) (hf : r_sitsOwn I z v1 = some r) : Ct l D E B yX12_sitsOwn cX12_sitsOwn 2 none 1 0 0 [.ref z, .int v1] (n, T, I, J, P) (Ret (none) (n, T, r, J, P)) := by
  unfold r_sitsOwn at hf
  refine Ct.ofV (by decide) (Nat.le_of_ble_eq_true rfl) ?_
  refine V.aload_n dX12_sitsOwn_0 rfl ?_
  refine V.getr fl_X12_13 dX12_sitsOwn_1 (hs_z.1 0 (12, 0) rfl) (hs_z.2 0 1 1 rfl) (by decide) rfl ?_
  refine V.bipush (v := 34) dX12_sitsOwn_4 (by decide) ?_
  refine V.dup2 dX12_sitsOwn_6 rfl rfl ?_
  refine V.iald dX12_sitsOwn_7 (hs_z.1 1 (20, 3891) rfl) (vp_lit (by decide)) ?_
  refine V.iconst (v := 1) dX12_sitsOwn_8 (by decide) ?_
  refine V.iadd dX12_sitsOwn_9 ?_
  refine V.iastE dX12_sitsOwn_10 (hs_z.1 1 (20, 3891) rfl) (vp_lit (by decide)) (fun I1 e2 => ?_)
  rw [← e2] at hf
  try dsimp only at hf
  clear e2
  refine V.aload_n dX12_sitsOwn_11 rfl ?_
  refine V.iload_n dX12_sitsOwn_12 rfl ?_
  obtain ⟨I5, hk4, hf⟩ := bnd_some hf
  try dsimp only at hf
  refine V.inv cv_X12_259 (c_r_sitsDown hs_z hk4) dX12_sitsOwn_13 (hs_z.1 0 (12, 0) rfl) (by decide) rfl rfl rfl (Nat.le_of_ble_eq_true rfl) (by decide) (by decide) (Nat.le_refl _) (Nat.le_refl _) (fun _ _ hq => ?_)
  obtain ⟨rfl, rfl⟩ := hq
  obtain rfl := Option.some.inj hf
  exact V.vret dX12_sitsOwn_16 rfl (Nat.le_refl _) (Nat.le_refl _) ⟨rfl, rfl⟩
theorem dX12_plays_0 : decode cX12_plays 0 = .ok (.iconst 0, 1) := by decide +kernel
theorem dX12_plays_1 : decode cX12_plays 1 = .ok (.istore_n 2, 1) := by decide +kernel
theorem dX12_plays_2 : decode cX12_plays 2 = .ok (.iload_n 2, 1) := by decide +kernel
theorem dX12_plays_3 : decode cX12_plays 3 = .ok (.aload_n 0, 1) := by decide +kernel
theorem dX12_plays_4 : decode cX12_plays 4 = .ok (.getfield 13, 3) := by decide +kernel
theorem dX12_plays_7 : decode cX12_plays 7 = .ok (.iconst 1, 1) := by decide +kernel
theorem dX12_plays_8 : decode cX12_plays 8 = .ok (.iaload, 1) := by decide +kernel
theorem dX12_plays_9 : decode cX12_plays 9 = .ok (.if_icmp .ge 57, 3) := by decide +kernel
theorem dX12_plays_12 : decode cX12_plays 12 = .ok (.aload_n 0, 1) := by decide +kernel
theorem dX12_plays_13 : decode cX12_plays 13 = .ok (.getfield 39, 3) := by decide +kernel
theorem dX12_plays_16 : decode cX12_plays 16 = .ok (.iload_n 2, 1) := by decide +kernel
theorem dX12_plays_17 : decode cX12_plays 17 = .ok (.aload_n 0, 1) := by decide +kernel
theorem dX12_plays_18 : decode cX12_plays 18 = .ok (.iload_n 2, 1) := by decide +kernel
theorem dX12_plays_19 : decode cX12_plays 19 = .ok (.invokevirtual 218, 3) := by decide +kernel
theorem dX12_plays_22 : decode cX12_plays 22 = .ok (.ifCond .eq 12, 3) := by decide +kernel
theorem dX12_plays_25 : decode cX12_plays 25 = .ok (.aload_n 0, 1) := by decide +kernel
theorem dX12_plays_26 : decode cX12_plays 26 = .ok (.iload_n 2, 1) := by decide +kernel
theorem dX12_plays_27 : decode cX12_plays 27 = .ok (.iload_n 1, 1) := by decide +kernel
theorem dX12_plays_28 : decode cX12_plays 28 = .ok (.invokevirtual 251, 3) := by decide +kernel
theorem dX12_plays_31 : decode cX12_plays 31 = .ok (.goto 4, 3) := by decide +kernel
theorem dX12_plays_34 : decode cX12_plays 34 = .ok (.iconst 0, 1) := by decide +kernel
theorem dX12_plays_35 : decode cX12_plays 35 = .ok (.iastore, 1) := by decide +kernel
theorem dX12_plays_36 : decode cX12_plays 36 = .ok (.aload_n 0, 1) := by decide +kernel
theorem dX12_plays_37 : decode cX12_plays 37 = .ok (.getfield 42, 3) := by decide +kernel
theorem dX12_plays_40 : decode cX12_plays 40 = .ok (.iload_n 2, 1) := by decide +kernel
theorem dX12_plays_41 : decode cX12_plays 41 = .ok (.aload_n 0, 1) := by decide +kernel
theorem dX12_plays_42 : decode cX12_plays 42 = .ok (.iload_n 2, 1) := by decide +kernel
theorem dX12_plays_43 : decode cX12_plays 43 = .ok (.invokevirtual 218, 3) := by decide +kernel
theorem dX12_plays_46 : decode cX12_plays 46 = .ok (.ifCond .eq 12, 3) := by decide +kernel
theorem dX12_plays_49 : decode cX12_plays 49 = .ok (.aload_n 0, 1) := by decide +kernel
theorem dX12_plays_50 : decode cX12_plays 50 = .ok (.iload_n 2, 1) := by decide +kernel
theorem dX12_plays_51 : decode cX12_plays 51 = .ok (.iload_n 1, 1) := by decide +kernel
theorem dX12_plays_52 : decode cX12_plays 52 = .ok (.invokevirtual 256, 3) := by decide +kernel
theorem dX12_plays_55 : decode cX12_plays 55 = .ok (.goto 4, 3) := by decide +kernel
theorem dX12_plays_58 : decode cX12_plays 58 = .ok (.iconst 0, 1) := by decide +kernel
theorem dX12_plays_59 : decode cX12_plays 59 = .ok (.iastore, 1) := by decide +kernel
theorem dX12_plays_60 : decode cX12_plays 60 = .ok (.iinc 2 1, 3) := by decide +kernel
theorem dX12_plays_63 : decode cX12_plays 63 = .ok (.goto (-61), 3) := by decide +kernel
theorem dX12_plays_66 : decode cX12_plays 66 = .ok (.aload_n 0, 1) := by decide +kernel
theorem dX12_plays_67 : decode cX12_plays 67 = .ok (.getfield 13, 3) := by decide +kernel
theorem dX12_plays_70 : decode cX12_plays 70 = .ok (.bipush 33, 2) := by decide +kernel
theorem dX12_plays_72 : decode cX12_plays 72 = .ok (.dup2, 1) := by decide +kernel
theorem dX12_plays_73 : decode cX12_plays 73 = .ok (.iaload, 1) := by decide +kernel
theorem dX12_plays_74 : decode cX12_plays 74 = .ok (.iconst 1, 1) := by decide +kernel
theorem dX12_plays_75 : decode cX12_plays 75 = .ok (.iadd, 1) := by decide +kernel
theorem dX12_plays_76 : decode cX12_plays 76 = .ok (.iastore, 1) := by decide +kernel
theorem dX12_plays_77 : decode cX12_plays 77 = .ok (.aload_n 0, 1) := by decide +kernel
theorem dX12_plays_78 : decode cX12_plays 78 = .ok (.getfield 13, 3) := by decide +kernel
theorem dX12_plays_81 : decode cX12_plays 81 = .ok (.bipush 34, 2) := by decide +kernel
theorem dX12_plays_83 : decode cX12_plays 83 = .ok (.dup2, 1) := by decide +kernel
theorem dX12_plays_84 : decode cX12_plays 84 = .ok (.iaload, 1) := by decide +kernel
theorem dX12_plays_85 : decode cX12_plays 85 = .ok (.iconst 1, 1) := by decide +kernel
theorem dX12_plays_86 : decode cX12_plays 86 = .ok (.iadd, 1) := by decide +kernel
theorem dX12_plays_87 : decode cX12_plays 87 = .ok (.iastore, 1) := by decide +kernel
theorem dX12_plays_88 : decode cX12_plays 88 = .ok (.iconst 0, 1) := by decide +kernel
theorem dX12_plays_89 : decode cX12_plays 89 = .ok (.istore_n 2, 1) := by decide +kernel
theorem dX12_plays_90 : decode cX12_plays 90 = .ok (.iconst 0, 1) := by decide +kernel
theorem dX12_plays_91 : decode cX12_plays 91 = .ok (.istore_n 3, 1) := by decide +kernel
theorem dX12_plays_92 : decode cX12_plays 92 = .ok (.iload_n 3, 1) := by decide +kernel
theorem dX12_plays_93 : decode cX12_plays 93 = .ok (.aload_n 0, 1) := by decide +kernel
theorem dX12_plays_94 : decode cX12_plays 94 = .ok (.getfield 13, 3) := by decide +kernel
theorem dX12_plays_97 : decode cX12_plays 97 = .ok (.iconst 1, 1) := by decide +kernel
theorem dX12_plays_98 : decode cX12_plays 98 = .ok (.iaload, 1) := by decide +kernel
theorem dX12_plays_99 : decode cX12_plays 99 = .ok (.if_icmp .ge 89, 3) := by decide +kernel
theorem dX12_plays_102 : decode cX12_plays 102 = .ok (.aload_n 0, 1) := by decide +kernel
theorem dX12_plays_103 : decode cX12_plays 103 = .ok (.iload_n 3, 1) := by decide +kernel
theorem dX12_plays_104 : decode cX12_plays 104 = .ok (.invokevirtual 218, 3) := by decide +kernel
theorem dX12_plays_107 : decode cX12_plays 107 = .ok (.ifCond .ne 6, 3) := by decide +kernel
theorem dX12_plays_110 : decode cX12_plays 110 = .ok (.goto 72, 3) := by decide +kernel
theorem dX12_plays_113 : decode cX12_plays 113 = .ok (.aload_n 0, 1) := by decide +kernel
theorem dX12_plays_114 : decode cX12_plays 114 = .ok (.getfield 13, 3) := by decide +kernel
theorem dX12_plays_117 : decode cX12_plays 117 = .ok (.bipush 47, 2) := by decide +kernel
theorem dX12_plays_119 : decode cX12_plays 119 = .ok (.iload_n 3, 1) := by decide +kernel
theorem dX12_plays_120 : decode cX12_plays 120 = .ok (.iadd, 1) := by decide +kernel
theorem dX12_plays_121 : decode cX12_plays 121 = .ok (.dup2, 1) := by decide +kernel
theorem dX12_plays_122 : decode cX12_plays 122 = .ok (.iaload, 1) := by decide +kernel
theorem dX12_plays_123 : decode cX12_plays 123 = .ok (.aload_n 0, 1) := by decide +kernel
theorem dX12_plays_124 : decode cX12_plays 124 = .ok (.getfield 42, 3) := by decide +kernel
theorem dX12_plays_127 : decode cX12_plays 127 = .ok (.iload_n 3, 1) := by decide +kernel
theorem dX12_plays_128 : decode cX12_plays 128 = .ok (.iaload, 1) := by decide +kernel
theorem dX12_plays_129 : decode cX12_plays 129 = .ok (.iadd, 1) := by decide +kernel
theorem dX12_plays_130 : decode cX12_plays 130 = .ok (.iastore, 1) := by decide +kernel
theorem dX12_plays_131 : decode cX12_plays 131 = .ok (.aload_n 0, 1) := by decide +kernel
theorem dX12_plays_132 : decode cX12_plays 132 = .ok (.getfield 13, 3) := by decide +kernel
theorem dX12_plays_135 : decode cX12_plays 135 = .ok (.bipush 41, 2) := by decide +kernel
theorem dX12_plays_137 : decode cX12_plays 137 = .ok (.iload_n 3, 1) := by decide +kernel
theorem dX12_plays_138 : decode cX12_plays 138 = .ok (.iadd, 1) := by decide +kernel
theorem dX12_plays_139 : decode cX12_plays 139 = .ok (.dup2, 1) := by decide +kernel
theorem dX12_plays_140 : decode cX12_plays 140 = .ok (.iaload, 1) := by decide +kernel
theorem dX12_plays_141 : decode cX12_plays 141 = .ok (.aload_n 0, 1) := by decide +kernel
theorem dX12_plays_142 : decode cX12_plays 142 = .ok (.getfield 39, 3) := by decide +kernel
theorem dX12_plays_145 : decode cX12_plays 145 = .ok (.iload_n 3, 1) := by decide +kernel
theorem dX12_plays_146 : decode cX12_plays 146 = .ok (.iaload, 1) := by decide +kernel
theorem dX12_plays_147 : decode cX12_plays 147 = .ok (.isub, 1) := by decide +kernel
theorem dX12_plays_148 : decode cX12_plays 148 = .ok (.iastore, 1) := by decide +kernel
theorem dX12_plays_149 : decode cX12_plays 149 = .ok (.aload_n 0, 1) := by decide +kernel
theorem dX12_plays_150 : decode cX12_plays 150 = .ok (.getfield 13, 3) := by decide +kernel
theorem dX12_plays_153 : decode cX12_plays 153 = .ok (.bipush 41, 2) := by decide +kernel
theorem dX12_plays_155 : decode cX12_plays 155 = .ok (.iload_n 3, 1) := by decide +kernel
theorem dX12_plays_156 : decode cX12_plays 156 = .ok (.iadd, 1) := by decide +kernel
theorem dX12_plays_157 : decode cX12_plays 157 = .ok (.iaload, 1) := by decide +kernel
theorem dX12_plays_158 : decode cX12_plays 158 = .ok (.ifCond .lt 6, 3) := by decide +kernel
theorem dX12_plays_161 : decode cX12_plays 161 = .ok (.goto 21, 3) := by decide +kernel
theorem dX12_plays_164 : decode cX12_plays 164 = .ok (.aload_n 0, 1) := by decide +kernel
theorem dX12_plays_165 : decode cX12_plays 165 = .ok (.getfield 13, 3) := by decide +kernel
theorem dX12_plays_168 : decode cX12_plays 168 = .ok (.bipush 41, 2) := by decide +kernel
theorem dX12_plays_170 : decode cX12_plays 170 = .ok (.iload_n 3, 1) := by decide +kernel
theorem dX12_plays_171 : decode cX12_plays 171 = .ok (.iadd, 1) := by decide +kernel
theorem dX12_plays_172 : decode cX12_plays 172 = .ok (.iconst 0, 1) := by decide +kernel
theorem dX12_plays_173 : decode cX12_plays 173 = .ok (.iastore, 1) := by decide +kernel
theorem dX12_plays_174 : decode cX12_plays 174 = .ok (.aload_n 0, 1) := by decide +kernel
theorem dX12_plays_175 : decode cX12_plays 175 = .ok (.iload_n 3, 1) := by decide +kernel
theorem dX12_plays_176 : decode cX12_plays 176 = .ok (.invokevirtual 259, 3) := by decide +kernel
theorem dX12_plays_179 : decode cX12_plays 179 = .ok (.iinc 2 1, 3) := by decide +kernel
theorem dX12_plays_182 : decode cX12_plays 182 = .ok (.iinc 3 1, 3) := by decide +kernel
theorem dX12_plays_185 : decode cX12_plays 185 = .ok (.goto (-93), 3) := by decide +kernel
theorem dX12_plays_188 : decode cX12_plays 188 = .ok (.iload_n 2, 1) := by decide +kernel
theorem dX12_plays_189 : decode cX12_plays 189 = .ok (.ireturn, 1) := by decide +kernel
def r_plays_2 (F : Nat) (z : Nat) (g1 : Int32) : Nat → Int32 → (Nat → Nat → Int32) → Option (Int32 × (Nat → Nat → Int32))
  | 0, _, _ => none
  | k + 1, l2, I => if (I (z + 1) (Int32.toNatClampNeg 1)) ≤ l2 then (some (l2, I)) else ((r_isUp I z l2).bind (fun q2 => let u4 := q2; if u4 = 0 then (chk l2 6 (let I7 := uI I (z + 8) (Int32.toNatClampNeg l2) 0; (r_isUp I7 z l2).bind (fun q9 => let u11 := q9; if u11 = 0 then (let I13 := uI I7 (z + 9) (Int32.toNatClampNeg l2) 0; r_plays_2 F z g1 k (l2 + 1) I13) else ((r_painsOf F I7 z l2 g1).bind (fun q15 => let u17 := q15.1; let I18 := q15.2; let I19 := uI I18 (z + 9) (Int32.toNatClampNeg l2) u17; r_plays_2 F z g1 k (l2 + 1) I19))))) else ((r_tiresOf F I z l2 g1).bind (fun q21 => let u23 := q21.1; let I24 := q21.2; chk l2 6 (let I26 := uI I24 (z + 8) (Int32.toNatClampNeg l2) u23; (r_isUp I26 z l2).bind (fun q28 => let u30 := q28; if u30 = 0 then (let I32 := uI I26 (z + 9) (Int32.toNatClampNeg l2) 0; r_plays_2 F z g1 k (l2 + 1) I32) else ((r_painsOf F I26 z l2 g1).bind (fun q34 => let u36 := q34.1; let I37 := q34.2; let I38 := uI I37 (z + 9) (Int32.toNatClampNeg l2) u36; r_plays_2 F z g1 k (l2 + 1) I38))))))))
def r_plays_92 (F : Nat) (z : Nat) (g1 : Int32) : Nat → Int32 → Int32 → (Nat → Nat → Int32) → Option (Int32 × Int32 × (Nat → Nat → Int32))
  | 0, _, _, _ => none
  | k + 1, l2, l3, I => if (I (z + 1) (Int32.toNatClampNeg 1)) ≤ l3 then (some (l2, l3, I)) else ((r_isUp I z l3).bind (fun q49 => let u51 := q49; if u51 = 0 then (r_plays_92 F z g1 k l2 (l3 + 1) I) else (chk (47 + l3) 3891 (chk l3 6 (let I55 := uI I (z + 1) (Int32.toNatClampNeg (47 + l3)) ((I (z + 1) (Int32.toNatClampNeg (47 + l3))) + (I (z + 9) (Int32.toNatClampNeg l3))); chk (41 + l3) 3891 (let I58 := uI I55 (z + 1) (Int32.toNatClampNeg (41 + l3)) ((I55 (z + 1) (Int32.toNatClampNeg (41 + l3))) - (I55 (z + 8) (Int32.toNatClampNeg l3))); if (I58 (z + 1) (Int32.toNatClampNeg (41 + l3))) < 0 then (let I61 := uI I58 (z + 1) (Int32.toNatClampNeg (41 + l3)) 0; (r_sitsDown I61 z l3).bind (fun q63 => let I65 := q63; r_plays_92 F z g1 k (l2 + 1) (l3 + 1) I65)) else (r_plays_92 F z g1 k l2 (l3 + 1) I58)))))))
def r_plays (F : Nat) (I : Nat → Nat → Int32) (z : Nat) (v1 : Int32) : Option (Int32 × (Nat → Nat → Int32)) := (r_plays_2 F z v1 F 0 I).bind (fun q40 => let m42 := q40.1; let I43 := q40.2; let I44 := uI I43 (z + 1) (Int32.toNatClampNeg 33) ((I43 (z + 1) (Int32.toNatClampNeg 33)) + 1); let I46 := uI I44 (z + 1) (Int32.toNatClampNeg 34) ((I44 (z + 1) (Int32.toNatClampNeg 34)) + 1); (r_plays_92 F z v1 F 0 0 I46).bind (fun q66 => let m68 := q66.1; let m69 := q66.2.1; let I70 := q66.2.2; some (m68, I70)))
theorem l_r_plays_2 {l : Launch} {D : va_G} {E : Nat → ClassId} {B : Nat → Prop} {n F : Nat} {Q : Option Value → HT → Prop} {T : Nat → Option (Nat × Nat)} {J : Nat → Nat → Int64} {P : Nat → Nat → Option Nat} {z : Nat} {g1 : Int32} (hs_z : isMd T P z)  (r : Int32 × (Nat → Nat → Int32)) : ∀ (k : Nat) (l2 : Int32) (I : (Nat → Nat → Int32)), r_plays_2 F z g1 k l2 I = some r → V l D E B yX12_plays cX12_plays 4 (some .int) 5 0 0 Q 0 0 (n, T, r.2, J, P) 66 [(0, some (.ref z)), (1, some (.int g1)), (2, some (.int (r.1)))] [] → V l D E B yX12_plays cX12_plays 4 (some .int) 5 0 0 Q 0 0 (n, T, I, J, P) 2 [(0, some (.ref z)), (1, some (.int g1)), (2, some (.int l2))] [] := by
  intro k
  induction k with
  | zero =>
    intro l2 I hf hk
    cases hf
  | succ k ih =>
    intro l2 I hf hk
    unfold r_plays_2 at hf
    refine V.iload_n dX12_plays_2 rfl ?_
    refine V.aload_n dX12_plays_3 rfl ?_
    refine V.getr fl_X12_13 dX12_plays_4 (hs_z.1 0 (12, 0) rfl) (hs_z.2 0 1 1 rfl) (by decide) rfl ?_
    refine V.iconst (v := 1) dX12_plays_7 (by decide) ?_
    refine V.iald dX12_plays_8 (hs_z.1 1 (20, 3891) rfl) (vp_lit (by decide)) ?_
    refine V.icmp_ge 66 dX12_plays_9 (by decide) (fun c1 => ?_) (fun c1 => ?_)
    · rw [if_pos c1] at hf
      obtain rfl := Option.some.inj hf
      exact V.lo [(0, some (.ref z)), (1, some (.int g1)), (2, some (.int l2))] (by simp only [Subs]; repeat' first | exact trivial | constructor | rfl) hk
    · rw [if_neg c1] at hf
      refine V.aload_n dX12_plays_12 rfl ?_
      refine V.getr fl_X12_39 dX12_plays_13 (hs_z.1 0 (12, 0) rfl) (hs_z.2 0 18 8 rfl) (by decide) rfl ?_
      refine V.iload_n dX12_plays_16 rfl ?_
      refine V.aload_n dX12_plays_17 rfl ?_
      refine V.iload_n dX12_plays_18 rfl ?_
      obtain ⟨u4, hk3, hf⟩ := bnd_some hf
      try dsimp only at hf
      refine V.inv cv_X12_218 (c_r_isUp hs_z hk3) dX12_plays_19 (hs_z.1 0 (12, 0) rfl) (by decide) rfl rfl rfl (Nat.le_of_ble_eq_true rfl) (by decide) (by decide) (Nat.le_refl _) (Nat.le_refl _) (fun _ _ hq => ?_)
      obtain ⟨rfl, rfl⟩ := hq
      refine V.if_eq 34 dX12_plays_22 (by decide) (fun c5 => ?_) (fun c5 => ?_)
      · rw [if_pos c5] at hf
        refine V.iconst (v := 0) dX12_plays_34 (by decide) ?_
        obtain ⟨hb6, hf⟩ := chk_some hf
        refine V.iastE dX12_plays_35 (hs_z.1 8 (20, 6) rfl) hb6 (fun I7 e8 => ?_)
        rw [← e8] at hf
        try dsimp only at hf
        clear e8
        refine V.aload_n dX12_plays_36 rfl ?_
        refine V.getr fl_X12_42 dX12_plays_37 (hs_z.1 0 (12, 0) rfl) (hs_z.2 0 19 9 rfl) (by decide) rfl ?_
        refine V.iload_n dX12_plays_40 rfl ?_
        refine V.aload_n dX12_plays_41 rfl ?_
        refine V.iload_n dX12_plays_42 rfl ?_
        obtain ⟨u11, hk10, hf⟩ := bnd_some hf
        try dsimp only at hf
        refine V.inv cv_X12_218 (c_r_isUp hs_z hk10) dX12_plays_43 (hs_z.1 0 (12, 0) rfl) (by decide) rfl rfl rfl (Nat.le_of_ble_eq_true rfl) (by decide) (by decide) (Nat.le_refl _) (Nat.le_refl _) (fun _ _ hq => ?_)
        obtain ⟨rfl, rfl⟩ := hq
        refine V.if_eq 58 dX12_plays_46 (by decide) (fun c12 => ?_) (fun c12 => ?_)
        · rw [if_pos c12] at hf
          refine V.iconst (v := 0) dX12_plays_58 (by decide) ?_
          refine V.iastE dX12_plays_59 (hs_z.1 9 (20, 6) rfl) hb6 (fun I13 e14 => ?_)
          rw [← e14] at hf
          try dsimp only at hf
          clear e14
          refine V.iinc (v := (l2 + 1)) dX12_plays_60 rfl rfl (by first | exact rfl | exact trivial) ?_
          refine V.goto 2 dX12_plays_63 (by decide) ?_
          exact V.lo [(0, some (.ref z)), (1, some (.int g1)), (2, some (.int (l2 + 1)))] (by simp only [Subs]; repeat' first | exact trivial | constructor | rfl) (ih _ _ hf hk)
        · rw [if_neg c12] at hf
          refine V.aload_n dX12_plays_49 rfl ?_
          refine V.iload_n dX12_plays_50 rfl ?_
          refine V.iload_n dX12_plays_51 rfl ?_
          obtain ⟨⟨u17, I18⟩, hk16, hf⟩ := bnd_some hf
          try dsimp only at hf
          refine V.inv cv_X12_256 (c_r_painsOf hs_z hk16) dX12_plays_52 (hs_z.1 0 (12, 0) rfl) (by decide) rfl rfl rfl (Nat.le_of_ble_eq_true rfl) (by decide) (by decide) (Nat.le_refl _) (Nat.le_refl _) (fun _ _ hq => ?_)
          obtain ⟨rfl, rfl⟩ := hq
          try dsimp only
          refine V.goto 59 dX12_plays_55 (by decide) ?_
          refine V.iastE dX12_plays_59 (hs_z.1 9 (20, 6) rfl) hb6 (fun I19 e20 => ?_)
          rw [← e20] at hf
          try dsimp only at hf
          clear e20
          refine V.iinc (v := (l2 + 1)) dX12_plays_60 rfl rfl (by first | exact rfl | exact trivial) ?_
          refine V.goto 2 dX12_plays_63 (by decide) ?_
          exact V.lo [(0, some (.ref z)), (1, some (.int g1)), (2, some (.int (l2 + 1)))] (by simp only [Subs]; repeat' first | exact trivial | constructor | rfl) (ih _ _ hf hk)
      · rw [if_neg c5] at hf
        refine V.aload_n dX12_plays_25 rfl ?_
        refine V.iload_n dX12_plays_26 rfl ?_
        refine V.iload_n dX12_plays_27 rfl ?_
        obtain ⟨⟨u23, I24⟩, hk22, hf⟩ := bnd_some hf
        try dsimp only at hf
        refine V.inv cv_X12_251 (c_r_tiresOf hs_z hk22) dX12_plays_28 (hs_z.1 0 (12, 0) rfl) (by decide) rfl rfl rfl (Nat.le_of_ble_eq_true rfl) (by decide) (by decide) (Nat.le_refl _) (Nat.le_refl _) (fun _ _ hq => ?_)
        obtain ⟨rfl, rfl⟩ := hq
        try dsimp only
        refine V.goto 35 dX12_plays_31 (by decide) ?_
        obtain ⟨hb25, hf⟩ := chk_some hf
        refine V.iastE dX12_plays_35 (hs_z.1 8 (20, 6) rfl) hb25 (fun I26 e27 => ?_)
        rw [← e27] at hf
        try dsimp only at hf
        clear e27
        refine V.aload_n dX12_plays_36 rfl ?_
        refine V.getr fl_X12_42 dX12_plays_37 (hs_z.1 0 (12, 0) rfl) (hs_z.2 0 19 9 rfl) (by decide) rfl ?_
        refine V.iload_n dX12_plays_40 rfl ?_
        refine V.aload_n dX12_plays_41 rfl ?_
        refine V.iload_n dX12_plays_42 rfl ?_
        obtain ⟨u30, hk29, hf⟩ := bnd_some hf
        try dsimp only at hf
        refine V.inv cv_X12_218 (c_r_isUp hs_z hk29) dX12_plays_43 (hs_z.1 0 (12, 0) rfl) (by decide) rfl rfl rfl (Nat.le_of_ble_eq_true rfl) (by decide) (by decide) (Nat.le_refl _) (Nat.le_refl _) (fun _ _ hq => ?_)
        obtain ⟨rfl, rfl⟩ := hq
        refine V.if_eq 58 dX12_plays_46 (by decide) (fun c31 => ?_) (fun c31 => ?_)
        · rw [if_pos c31] at hf
          refine V.iconst (v := 0) dX12_plays_58 (by decide) ?_
          refine V.iastE dX12_plays_59 (hs_z.1 9 (20, 6) rfl) hb25 (fun I32 e33 => ?_)
          rw [← e33] at hf
          try dsimp only at hf
          clear e33
          refine V.iinc (v := (l2 + 1)) dX12_plays_60 rfl rfl (by first | exact rfl | exact trivial) ?_
          refine V.goto 2 dX12_plays_63 (by decide) ?_
          exact V.lo [(0, some (.ref z)), (1, some (.int g1)), (2, some (.int (l2 + 1)))] (by simp only [Subs]; repeat' first | exact trivial | constructor | rfl) (ih _ _ hf hk)
        · rw [if_neg c31] at hf
          refine V.aload_n dX12_plays_49 rfl ?_
          refine V.iload_n dX12_plays_50 rfl ?_
          refine V.iload_n dX12_plays_51 rfl ?_
          obtain ⟨⟨u36, I37⟩, hk35, hf⟩ := bnd_some hf
          try dsimp only at hf
          refine V.inv cv_X12_256 (c_r_painsOf hs_z hk35) dX12_plays_52 (hs_z.1 0 (12, 0) rfl) (by decide) rfl rfl rfl (Nat.le_of_ble_eq_true rfl) (by decide) (by decide) (Nat.le_refl _) (Nat.le_refl _) (fun _ _ hq => ?_)
          obtain ⟨rfl, rfl⟩ := hq
          try dsimp only
          refine V.goto 59 dX12_plays_55 (by decide) ?_
          refine V.iastE dX12_plays_59 (hs_z.1 9 (20, 6) rfl) hb25 (fun I38 e39 => ?_)
          rw [← e39] at hf
          try dsimp only at hf
          clear e39
          refine V.iinc (v := (l2 + 1)) dX12_plays_60 rfl rfl (by first | exact rfl | exact trivial) ?_
          refine V.goto 2 dX12_plays_63 (by decide) ?_
          exact V.lo [(0, some (.ref z)), (1, some (.int g1)), (2, some (.int (l2 + 1)))] (by simp only [Subs]; repeat' first | exact trivial | constructor | rfl) (ih _ _ hf hk)
theorem l_r_plays_92 {l : Launch} {D : va_G} {E : Nat → ClassId} {B : Nat → Prop} {n F : Nat} {Q : Option Value → HT → Prop} {T : Nat → Option (Nat × Nat)} {J : Nat → Nat → Int64} {P : Nat → Nat → Option Nat} {z : Nat} {g1 : Int32} (hs_z : isMd T P z)  (r : Int32 × Int32 × (Nat → Nat → Int32)) : ∀ (k : Nat) (l2 : Int32) (l3 : Int32) (I : (Nat → Nat → Int32)), r_plays_92 F z g1 k l2 l3 I = some r → V l D E B yX12_plays cX12_plays 4 (some .int) 5 0 0 Q 0 0 (n, T, r.2.2, J, P) 188 [(0, some (.ref z)), (1, some (.int g1)), (2, some (.int (r.1))), (3, some (.int (r.2.1)))] [] → V l D E B yX12_plays cX12_plays 4 (some .int) 5 0 0 Q 0 0 (n, T, I, J, P) 92 [(0, some (.ref z)), (1, some (.int g1)), (2, some (.int l2)), (3, some (.int l3))] [] := by
  intro k
  induction k with
  | zero =>
    intro l2 l3 I hf hk
    cases hf
  | succ k ih =>
    intro l2 l3 I hf hk
    unfold r_plays_92 at hf
    refine V.iload_n dX12_plays_92 rfl ?_
    refine V.aload_n dX12_plays_93 rfl ?_
    refine V.getr fl_X12_13 dX12_plays_94 (hs_z.1 0 (12, 0) rfl) (hs_z.2 0 1 1 rfl) (by decide) rfl ?_
    refine V.iconst (v := 1) dX12_plays_97 (by decide) ?_
    refine V.iald dX12_plays_98 (hs_z.1 1 (20, 3891) rfl) (vp_lit (by decide)) ?_
    refine V.icmp_ge 188 dX12_plays_99 (by decide) (fun c48 => ?_) (fun c48 => ?_)
    · rw [if_pos c48] at hf
      obtain rfl := Option.some.inj hf
      exact V.lo [(0, some (.ref z)), (1, some (.int g1)), (2, some (.int l2)), (3, some (.int l3))] (by simp only [Subs]; repeat' first | exact trivial | constructor | rfl) hk
    · rw [if_neg c48] at hf
      refine V.aload_n dX12_plays_102 rfl ?_
      refine V.iload_n dX12_plays_103 rfl ?_
      obtain ⟨u51, hk50, hf⟩ := bnd_some hf
      try dsimp only at hf
      refine V.inv cv_X12_218 (c_r_isUp hs_z hk50) dX12_plays_104 (hs_z.1 0 (12, 0) rfl) (by decide) rfl rfl rfl (Nat.le_of_ble_eq_true rfl) (by decide) (by decide) (Nat.le_refl _) (Nat.le_refl _) (fun _ _ hq => ?_)
      obtain ⟨rfl, rfl⟩ := hq
      refine V.if_ne 113 dX12_plays_107 (by decide) (fun c52 => ?_) (fun c52 => ?_)
      · rw [if_neg c52] at hf
        refine V.aload_n dX12_plays_113 rfl ?_
        refine V.getr fl_X12_13 dX12_plays_114 (hs_z.1 0 (12, 0) rfl) (hs_z.2 0 1 1 rfl) (by decide) rfl ?_
        refine V.bipush (v := 47) dX12_plays_117 (by decide) ?_
        refine V.iload_n dX12_plays_119 rfl ?_
        refine V.iadd dX12_plays_120 ?_
        refine V.dup2 dX12_plays_121 rfl rfl ?_
        obtain ⟨hb53, hf⟩ := chk_some hf
        refine V.iald dX12_plays_122 (hs_z.1 1 (20, 3891) rfl) hb53 ?_
        refine V.aload_n dX12_plays_123 rfl ?_
        refine V.getr fl_X12_42 dX12_plays_124 (hs_z.1 0 (12, 0) rfl) (hs_z.2 0 19 9 rfl) (by decide) rfl ?_
        refine V.iload_n dX12_plays_127 rfl ?_
        obtain ⟨hb54, hf⟩ := chk_some hf
        refine V.iald dX12_plays_128 (hs_z.1 9 (20, 6) rfl) hb54 ?_
        refine V.iadd dX12_plays_129 ?_
        refine V.iastE dX12_plays_130 (hs_z.1 1 (20, 3891) rfl) hb53 (fun I55 e56 => ?_)
        rw [← e56] at hf
        try dsimp only at hf
        clear e56
        refine V.aload_n dX12_plays_131 rfl ?_
        refine V.getr fl_X12_13 dX12_plays_132 (hs_z.1 0 (12, 0) rfl) (hs_z.2 0 1 1 rfl) (by decide) rfl ?_
        refine V.bipush (v := 41) dX12_plays_135 (by decide) ?_
        refine V.iload_n dX12_plays_137 rfl ?_
        refine V.iadd dX12_plays_138 ?_
        refine V.dup2 dX12_plays_139 rfl rfl ?_
        obtain ⟨hb57, hf⟩ := chk_some hf
        refine V.iald dX12_plays_140 (hs_z.1 1 (20, 3891) rfl) hb57 ?_
        refine V.aload_n dX12_plays_141 rfl ?_
        refine V.getr fl_X12_39 dX12_plays_142 (hs_z.1 0 (12, 0) rfl) (hs_z.2 0 18 8 rfl) (by decide) rfl ?_
        refine V.iload_n dX12_plays_145 rfl ?_
        refine V.iald dX12_plays_146 (hs_z.1 8 (20, 6) rfl) hb54 ?_
        refine V.isub dX12_plays_147 ?_
        refine V.iastE dX12_plays_148 (hs_z.1 1 (20, 3891) rfl) hb57 (fun I58 e59 => ?_)
        rw [← e59] at hf
        try dsimp only at hf
        clear e59
        refine V.aload_n dX12_plays_149 rfl ?_
        refine V.getr fl_X12_13 dX12_plays_150 (hs_z.1 0 (12, 0) rfl) (hs_z.2 0 1 1 rfl) (by decide) rfl ?_
        refine V.bipush (v := 41) dX12_plays_153 (by decide) ?_
        refine V.iload_n dX12_plays_155 rfl ?_
        refine V.iadd dX12_plays_156 ?_
        refine V.iald dX12_plays_157 (hs_z.1 1 (20, 3891) rfl) hb57 ?_
        refine V.if_lt 164 dX12_plays_158 (by decide) (fun c60 => ?_) (fun c60 => ?_)
        · rw [if_pos c60] at hf
          refine V.aload_n dX12_plays_164 rfl ?_
          refine V.getr fl_X12_13 dX12_plays_165 (hs_z.1 0 (12, 0) rfl) (hs_z.2 0 1 1 rfl) (by decide) rfl ?_
          refine V.bipush (v := 41) dX12_plays_168 (by decide) ?_
          refine V.iload_n dX12_plays_170 rfl ?_
          refine V.iadd dX12_plays_171 ?_
          refine V.iconst (v := 0) dX12_plays_172 (by decide) ?_
          refine V.iastE dX12_plays_173 (hs_z.1 1 (20, 3891) rfl) hb57 (fun I61 e62 => ?_)
          rw [← e62] at hf
          try dsimp only at hf
          clear e62
          refine V.aload_n dX12_plays_174 rfl ?_
          refine V.iload_n dX12_plays_175 rfl ?_
          obtain ⟨I65, hk64, hf⟩ := bnd_some hf
          try dsimp only at hf
          refine V.inv cv_X12_259 (c_r_sitsDown hs_z hk64) dX12_plays_176 (hs_z.1 0 (12, 0) rfl) (by decide) rfl rfl rfl (Nat.le_of_ble_eq_true rfl) (by decide) (by decide) (Nat.le_refl _) (Nat.le_refl _) (fun _ _ hq => ?_)
          obtain ⟨rfl, rfl⟩ := hq
          refine V.iinc (v := (l2 + 1)) dX12_plays_179 rfl rfl (by first | exact rfl | exact trivial) ?_
          refine V.iinc (v := (l3 + 1)) dX12_plays_182 rfl rfl (by first | exact rfl | exact trivial) ?_
          refine V.goto 92 dX12_plays_185 (by decide) ?_
          exact V.lo [(0, some (.ref z)), (1, some (.int g1)), (2, some (.int (l2 + 1))), (3, some (.int (l3 + 1)))] (by simp only [Subs]; repeat' first | exact trivial | constructor | rfl) (ih _ _ _ hf hk)
        · rw [if_neg c60] at hf
          refine V.goto 182 dX12_plays_161 (by decide) ?_
          refine V.iinc (v := (l3 + 1)) dX12_plays_182 rfl rfl (by first | exact rfl | exact trivial) ?_
          refine V.goto 92 dX12_plays_185 (by decide) ?_
          exact V.lo [(0, some (.ref z)), (1, some (.int g1)), (2, some (.int l2)), (3, some (.int (l3 + 1)))] (by simp only [Subs]; repeat' first | exact trivial | constructor | rfl) (ih _ _ _ hf hk)
      · rw [if_pos c52] at hf
        refine V.goto 182 dX12_plays_110 (by decide) ?_
        refine V.iinc (v := (l3 + 1)) dX12_plays_182 rfl rfl (by first | exact rfl | exact trivial) ?_
        refine V.goto 92 dX12_plays_185 (by decide) ?_
        exact V.lo [(0, some (.ref z)), (1, some (.int g1)), (2, some (.int l2)), (3, some (.int (l3 + 1)))] (by simp only [Subs]; repeat' first | exact trivial | constructor | rfl) (ih _ _ _ hf hk)
theorem c_r_plays {l : Launch} {D : va_G} {E : Nat → ClassId} {B : Nat → Prop} {n F : Nat} {T : Nat → Option (Nat × Nat)} {I : Nat → Nat → Int32} {J : Nat → Nat → Int64} {P : Nat → Nat → Option Nat} {z : Nat} {v1 : Int32} {r : Int32 × (Nat → Nat → Int32)} (hs_z : isMd T P z) (hf : r_plays F I z v1 = some r) : Ct l D E B yX12_plays cX12_plays 4 (some .int) 5 0 0 [.ref z, .int v1] (n, T, I, J, P) (Ret (some (.int r.1)) (n, T, r.2, J, P)) := by
  unfold r_plays at hf
  refine Ct.ofV (by decide) (Nat.le_of_ble_eq_true rfl) ?_
  refine V.iconst (v := 0) dX12_plays_0 (by decide) ?_
  refine V.istore_n dX12_plays_1 rfl (by decide) (by first | exact rfl | exact trivial) ?_
  obtain ⟨⟨m42, I43⟩, hk41, hf⟩ := bnd_some hf
  try dsimp only at hf
  refine V.lo [(0, some (.ref z)), (1, some (.int v1)), (2, some (.int 0))] (by simp only [Subs]; repeat' first | exact trivial | constructor | rfl) (l_r_plays_2 hs_z _ F _ _ hk41 ?_)
  try dsimp only
  refine V.aload_n dX12_plays_66 rfl ?_
  refine V.getr fl_X12_13 dX12_plays_67 (hs_z.1 0 (12, 0) rfl) (hs_z.2 0 1 1 rfl) (by decide) rfl ?_
  refine V.bipush (v := 33) dX12_plays_70 (by decide) ?_
  refine V.dup2 dX12_plays_72 rfl rfl ?_
  refine V.iald dX12_plays_73 (hs_z.1 1 (20, 3891) rfl) (vp_lit (by decide)) ?_
  refine V.iconst (v := 1) dX12_plays_74 (by decide) ?_
  refine V.iadd dX12_plays_75 ?_
  refine V.iastE dX12_plays_76 (hs_z.1 1 (20, 3891) rfl) (vp_lit (by decide)) (fun I44 e45 => ?_)
  rw [← e45] at hf
  try dsimp only at hf
  clear e45
  refine V.aload_n dX12_plays_77 rfl ?_
  refine V.getr fl_X12_13 dX12_plays_78 (hs_z.1 0 (12, 0) rfl) (hs_z.2 0 1 1 rfl) (by decide) rfl ?_
  refine V.bipush (v := 34) dX12_plays_81 (by decide) ?_
  refine V.dup2 dX12_plays_83 rfl rfl ?_
  refine V.iald dX12_plays_84 (hs_z.1 1 (20, 3891) rfl) (vp_lit (by decide)) ?_
  refine V.iconst (v := 1) dX12_plays_85 (by decide) ?_
  refine V.iadd dX12_plays_86 ?_
  refine V.iastE dX12_plays_87 (hs_z.1 1 (20, 3891) rfl) (vp_lit (by decide)) (fun I46 e47 => ?_)
  rw [← e47] at hf
  try dsimp only at hf
  clear e47
  refine V.iconst (v := 0) dX12_plays_88 (by decide) ?_
  refine V.istore_n dX12_plays_89 rfl (by decide) (by first | exact rfl | exact trivial) ?_
  refine V.iconst (v := 0) dX12_plays_90 (by decide) ?_
  refine V.istore_n dX12_plays_91 rfl (by decide) (by first | exact rfl | exact trivial) ?_
  obtain ⟨⟨m68, m69, I70⟩, hk67, hf⟩ := bnd_some hf
  try dsimp only at hf
  refine V.lo [(0, some (.ref z)), (1, some (.int v1)), (2, some (.int 0)), (3, some (.int 0))] (by simp only [Subs]; repeat' first | exact trivial | constructor | rfl) (l_r_plays_92 hs_z _ F _ _ _ hk67 ?_)
  try dsimp only
  refine V.iload_n dX12_plays_188 rfl ?_
  obtain rfl := Option.some.inj hf
  exact V.iret dX12_plays_189 rfl (Nat.le_refl _) (Nat.le_refl _) ⟨rfl, rfl⟩
