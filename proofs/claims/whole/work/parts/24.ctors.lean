theorem lenT_is {T : Nat → Option (Nat × Nat)} {a t n : Nat} (h : T a = some (t, n)) : lenT T a = n := by
  unfold lenT
  rw [h]
theorem uI_same {I : Nat → Nat → Int32} {a k : Nat} {v : Int32} (h : I a k = v) : uI I a k v = I := by
  funext q j
  by_cases e : q = a
  · subst e
    rw [uI_s]
    by_cases e2 : j = k
    · subst e2
      simp [upd, h]
    · simp [upd, e2]
  · rw [uI_n _ _ _ e]
theorem plain_go {T : Nat → Option (Nat × Nat)} {I : Nat → Nat → Int32} {a F : Nat} (hl : lenT T a = 3891) (h : ∀ i, i < 1297 → I a i = 0) : ∀ (j k f : Nat), k + j = 1297 → j < f → r_plain_2 F T a f (nI k) I = some (nI 1297, I) := by
  intro j
  induction j with
  | zero =>
    intro k f hk hf
    obtain ⟨f, rfl⟩ : ∃ f', f = f' + 1 := ⟨f - 1, by omega⟩
    obtain rfl : k = 1297 := by omega
    unfold r_plain_2
    rw [if_pos (by decide)]
  | succ j ih =>
    intro k f hk hf
    obtain ⟨f, rfl⟩ : ∃ f', f = f' + 1 := ⟨f - 1, by omega⟩
    unfold r_plain_2
    rw [if_neg (show ¬ (1297 : Int32) ≤ nI k from nI_ge (a := k) (b := 1297) (by omega) (by decide)), hl, chk_in (vp_in_nI (by omega) (by decide))]
    dsimp only
    rw [nI_clamp (by omega), uI_same (h k (by omega)), nI_1]
    exact ih (k + 1) f (by omega) (by omega)
theorem plain_zero {T : Nat → Option (Nat × Nat)} {I : Nat → Nat → Int32} {a : Nat} (hl : lenT T a = 3891) (h : ∀ i, i < 1297 → I a i = 0) : r_plain 2000 T I a = some I := by
  unfold r_plain
  rw [show (0 : Int32) = nI 0 from rfl, plain_go hl h 1297 0 2000 rfl (by decide)]
  rfl
theorem dX8_init_0 : decode cX8_init 0 = .ok (.aload_n 0, 1) := by decide +kernel
theorem dX8_init_1 : decode cX8_init 1 = .ok (.invokespecial 3, 3) := by decide +kernel
theorem dX8_init_4 : decode cX8_init 4 = .ok (.aload_n 0, 1) := by decide +kernel
theorem dX8_init_5 : decode cX8_init 5 = .ok (.bipush 6, 2) := by decide +kernel
theorem dX8_init_7 : decode cX8_init 7 = .ok (.newarray .int, 2) := by decide +kernel
theorem dX8_init_9 : decode cX8_init 9 = .ok (.putfield 9, 3) := by decide +kernel
theorem dX8_init_12 : decode cX8_init 12 = .ok (.aload_n 0, 1) := by decide +kernel
theorem dX8_init_13 : decode cX8_init 13 = .ok (.bipush 6, 2) := by decide +kernel
theorem dX8_init_15 : decode cX8_init 15 = .ok (.newarray .int, 2) := by decide +kernel
theorem dX8_init_17 : decode cX8_init 17 = .ok (.putfield 15, 3) := by decide +kernel
theorem dX8_init_20 : decode cX8_init 20 = .ok (.aload_n 0, 1) := by decide +kernel
theorem dX8_init_21 : decode cX8_init 21 = .ok (.bipush 6, 2) := by decide +kernel
theorem dX8_init_23 : decode cX8_init 23 = .ok (.newarray .int, 2) := by decide +kernel
theorem dX8_init_25 : decode cX8_init 25 = .ok (.putfield 18, 3) := by decide +kernel
theorem dX8_init_28 : decode cX8_init 28 = .ok (.aload_n 0, 1) := by decide +kernel
theorem dX8_init_29 : decode cX8_init 29 = .ok (.bipush 6, 2) := by decide +kernel
theorem dX8_init_31 : decode cX8_init 31 = .ok (.newarray .int, 2) := by decide +kernel
theorem dX8_init_33 : decode cX8_init 33 = .ok (.putfield 21, 3) := by decide +kernel
theorem dX8_init_36 : decode cX8_init 36 = .ok (.aload_n 0, 1) := by decide +kernel
theorem dX8_init_37 : decode cX8_init 37 = .ok (.bipush 6, 2) := by decide +kernel
theorem dX8_init_39 : decode cX8_init 39 = .ok (.newarray .int, 2) := by decide +kernel
theorem dX8_init_41 : decode cX8_init 41 = .ok (.putfield 24, 3) := by decide +kernel
theorem dX8_init_44 : decode cX8_init 44 = .ok (.aload_n 0, 1) := by decide +kernel
theorem dX8_init_45 : decode cX8_init 45 = .ok (.bipush 6, 2) := by decide +kernel
theorem dX8_init_47 : decode cX8_init 47 = .ok (.newarray .int, 2) := by decide +kernel
theorem dX8_init_49 : decode cX8_init 49 = .ok (.putfield 27, 3) := by decide +kernel
theorem dX8_init_52 : decode cX8_init 52 = .ok (.return_, 1) := by decide +kernel
def shc8 : Nat → Option (Nat × Nat) := (u1 (u1 (u1 (u1 (u1 (u1 (sh1 8) 1 (some (20, 6))) 2 (some (20, 6))) 3 (some (20, 6))) 4 (some (20, 6))) 5 (some (20, 6))) 6 (some (20, 6)))
def ivc8 : Nat → Nat → Int32 := (u1 (u1 (u1 (u1 (u1 (u1 (zz2 0) 1 (fun _ => 0)) 2 (fun _ => 0)) 3 (fun _ => 0)) 4 (fun _ => 0)) 5 (fun _ => 0)) 6 (fun _ => 0))
def rfc8 : Nat → Nat → Option Int := (u2 (u1 (u2 (u1 (u2 (u1 (u2 (u1 (u2 (u1 (u2 (u1 (zz2 none) 1 (fun _ => none)) 0 4 (some (1))) 2 (fun _ => none)) 0 5 (some (2))) 3 (fun _ => none)) 0 6 (some (3))) 4 (fun _ => none)) 0 7 (some (4))) 5 (fun _ => none)) 0 8 (some (5))) 6 (fun _ => none)) 0 9 (some (6)))
theorem k_X8 {l : Launch} {D : va_G} {E : Nat → ClassId} {B : Nat → Prop} {a : Nat} {h0 : HT} {T I J P} (g : Gb a 1 (sh1 8) (zz2 0) (zz2 none) h0 (a + 1, T, I, J, P)) : Ct l D E B yX8_init cX8_init 1 none 1 6 36 [.ref a] (a + 1, T, I, J, P) (fun v h => v = none ∧ Gb a 7 shc8 ivc8 (rfc8) h0 h) := by
  refine Ct.ofV (by decide) (Nat.le_of_ble_eq_true rfl) ?_
  refine V.aload_n dX8_init_0 rfl ?_
  refine V.obj0 koi_X8 dX8_init_1 (by decide) (by decide) ?_
  refine V.aload_n dX8_init_4 rfl ?_
  refine V.bipush (v := 6) dX8_init_5 (by decide) ?_
  refine V.newIG (m1 := 2) g rfl dX8_init_7 (by decide) (len := 6) (by decide) (by decide) (Nat.le_of_ble_eq_true rfl) (Nat.le_of_ble_eq_true rfl) (fun T1 I1 J1 P1 g => ?_)
  refine V.putrG g 1 (by omega) (by decide) rfl fl_X8_9 dX8_init_9 (by decide) (fun _ => ⟨rfl, _, rfl⟩) rfl rfl rfl (Nat.le_of_ble_eq_true rfl) (fun P2 g => ?_)
  refine V.aload_n dX8_init_12 rfl ?_
  refine V.bipush (v := 6) dX8_init_13 (by decide) ?_
  refine V.newIG (m1 := 3) g rfl dX8_init_15 (by decide) (len := 6) (by decide) (by decide) (Nat.le_of_ble_eq_true rfl) (Nat.le_of_ble_eq_true rfl) (fun T3 I3 J3 P3 g => ?_)
  refine V.putrG g 2 (by omega) (by decide) rfl fl_X8_15 dX8_init_17 (by decide) (fun _ => ⟨rfl, _, rfl⟩) rfl rfl rfl (Nat.le_of_ble_eq_true rfl) (fun P4 g => ?_)
  refine V.aload_n dX8_init_20 rfl ?_
  refine V.bipush (v := 6) dX8_init_21 (by decide) ?_
  refine V.newIG (m1 := 4) g rfl dX8_init_23 (by decide) (len := 6) (by decide) (by decide) (Nat.le_of_ble_eq_true rfl) (Nat.le_of_ble_eq_true rfl) (fun T5 I5 J5 P5 g => ?_)
  refine V.putrG g 3 (by omega) (by decide) rfl fl_X8_18 dX8_init_25 (by decide) (fun _ => ⟨rfl, _, rfl⟩) rfl rfl rfl (Nat.le_of_ble_eq_true rfl) (fun P6 g => ?_)
  refine V.aload_n dX8_init_28 rfl ?_
  refine V.bipush (v := 6) dX8_init_29 (by decide) ?_
  refine V.newIG (m1 := 5) g rfl dX8_init_31 (by decide) (len := 6) (by decide) (by decide) (Nat.le_of_ble_eq_true rfl) (Nat.le_of_ble_eq_true rfl) (fun T7 I7 J7 P7 g => ?_)
  refine V.putrG g 4 (by omega) (by decide) rfl fl_X8_21 dX8_init_33 (by decide) (fun _ => ⟨rfl, _, rfl⟩) rfl rfl rfl (Nat.le_of_ble_eq_true rfl) (fun P8 g => ?_)
  refine V.aload_n dX8_init_36 rfl ?_
  refine V.bipush (v := 6) dX8_init_37 (by decide) ?_
  refine V.newIG (m1 := 6) g rfl dX8_init_39 (by decide) (len := 6) (by decide) (by decide) (Nat.le_of_ble_eq_true rfl) (Nat.le_of_ble_eq_true rfl) (fun T9 I9 J9 P9 g => ?_)
  refine V.putrG g 5 (by omega) (by decide) rfl fl_X8_24 dX8_init_41 (by decide) (fun _ => ⟨rfl, _, rfl⟩) rfl rfl rfl (Nat.le_of_ble_eq_true rfl) (fun P10 g => ?_)
  refine V.aload_n dX8_init_44 rfl ?_
  refine V.bipush (v := 6) dX8_init_45 (by decide) ?_
  refine V.newIG (m1 := 7) g rfl dX8_init_47 (by decide) (len := 6) (by decide) (by decide) (Nat.le_of_ble_eq_true rfl) (Nat.le_of_ble_eq_true rfl) (fun T11 I11 J11 P11 g => ?_)
  refine V.putrG g 6 (by omega) (by decide) rfl fl_X8_27 dX8_init_49 (by decide) (fun _ => ⟨rfl, _, rfl⟩) rfl rfl rfl (Nat.le_of_ble_eq_true rfl) (fun P12 g => ?_)
  exact V.vret dX8_init_52 rfl (Nat.le_of_ble_eq_true rfl) (Nat.le_of_ble_eq_true rfl) ⟨rfl, g⟩
theorem dX3_init_0 : decode cX3_init 0 = .ok (.aload_n 0, 1) := by decide +kernel
theorem dX3_init_1 : decode cX3_init 1 = .ok (.invokespecial 1, 3) := by decide +kernel
theorem dX3_init_4 : decode cX3_init 4 = .ok (.aload_n 0, 1) := by decide +kernel
theorem dX3_init_5 : decode cX3_init 5 = .ok (.iconst 5, 1) := by decide +kernel
theorem dX3_init_6 : decode cX3_init 6 = .ok (.newarray .int, 2) := by decide +kernel
theorem dX3_init_8 : decode cX3_init 8 = .ok (.putfield 7, 3) := by decide +kernel
theorem dX3_init_11 : decode cX3_init 11 = .ok (.return_, 1) := by decide +kernel
def shc3 : Nat → Option (Nat × Nat) := (u1 (sh1 3) 1 (some (20, 5)))
def ivc3 : Nat → Nat → Int32 := (u1 (zz2 0) 1 (fun _ => 0))
def rfc3 : Nat → Nat → Option Int := (u2 (u1 (zz2 none) 1 (fun _ => none)) 0 0 (some (1)))
theorem k_X3 {l : Launch} {D : va_G} {E : Nat → ClassId} {B : Nat → Prop} {a : Nat} {h0 : HT} {T I J P} (g : Gb a 1 (sh1 3) (zz2 0) (zz2 none) h0 (a + 1, T, I, J, P)) : Ct l D E B yX3_init cX3_init 1 none 1 1 5 [.ref a] (a + 1, T, I, J, P) (fun v h => v = none ∧ Gb a 2 shc3 ivc3 (rfc3) h0 h) := by
  refine Ct.ofV (by decide) (Nat.le_of_ble_eq_true rfl) ?_
  refine V.aload_n dX3_init_0 rfl ?_
  refine V.obj0 koi_X3 dX3_init_1 (by decide) (by decide) ?_
  refine V.aload_n dX3_init_4 rfl ?_
  refine V.iconst (v := 5) dX3_init_5 (by decide) ?_
  refine V.newIG (m1 := 2) g rfl dX3_init_6 (by decide) (len := 5) (by decide) (by decide) (Nat.le_of_ble_eq_true rfl) (Nat.le_of_ble_eq_true rfl) (fun T1 I1 J1 P1 g => ?_)
  refine V.putrG g 1 (by omega) (by decide) rfl fl_X3_7 dX3_init_8 (by decide) (fun _ => ⟨rfl, _, rfl⟩) rfl rfl rfl (Nat.le_of_ble_eq_true rfl) (fun P2 g => ?_)
  exact V.vret dX3_init_11 rfl (Nat.le_of_ble_eq_true rfl) (Nat.le_of_ble_eq_true rfl) ⟨rfl, g⟩
theorem dX9_init_0 : decode cX9_init 0 = .ok (.aload_n 0, 1) := by decide +kernel
theorem dX9_init_1 : decode cX9_init 1 = .ok (.invokespecial 3, 3) := by decide +kernel
theorem dX9_init_4 : decode cX9_init 4 = .ok (.aload_n 0, 1) := by decide +kernel
theorem dX9_init_5 : decode cX9_init 5 = .ok (.bipush 40, 2) := by decide +kernel
theorem dX9_init_7 : decode cX9_init 7 = .ok (.newarray .long, 2) := by decide +kernel
theorem dX9_init_9 : decode cX9_init 9 = .ok (.putfield 9, 3) := by decide +kernel
theorem dX9_init_12 : decode cX9_init 12 = .ok (.aload_n 0, 1) := by decide +kernel
theorem dX9_init_13 : decode cX9_init 13 = .ok (.iconst (-1), 1) := by decide +kernel
theorem dX9_init_14 : decode cX9_init 14 = .ok (.putfield 15, 3) := by decide +kernel
theorem dX9_init_17 : decode cX9_init 17 = .ok (.return_, 1) := by decide +kernel
def shc9 : Nat → Option (Nat × Nat) := (u1 (sh1 9) 1 (some (22, 40)))
def ivc9 : Nat → Nat → Int32 := (u2 (u1 (zz2 0) 1 (fun _ => 0)) 0 2 (-1))
def rfc9 : Nat → Nat → Option Int := (u2 (u1 (zz2 none) 1 (fun _ => none)) 0 0 (some (1)))
theorem k_X9 {l : Launch} {D : va_G} {E : Nat → ClassId} {B : Nat → Prop} {a : Nat} {h0 : HT} {T I J P} (g : Gb a 1 (sh1 9) (zz2 0) (zz2 none) h0 (a + 1, T, I, J, P)) : Ct l D E B yX9_init cX9_init 1 none 1 1 40 [.ref a] (a + 1, T, I, J, P) (fun v h => v = none ∧ Gb a 2 shc9 ivc9 (rfc9) h0 h) := by
  refine Ct.ofV (by decide) (Nat.le_of_ble_eq_true rfl) ?_
  refine V.aload_n dX9_init_0 rfl ?_
  refine V.obj0 koi_X9 dX9_init_1 (by decide) (by decide) ?_
  refine V.aload_n dX9_init_4 rfl ?_
  refine V.bipush (v := 40) dX9_init_5 (by decide) ?_
  refine V.newJG (m1 := 2) g rfl dX9_init_7 (by decide) (len := 40) (by decide) (by decide) (Nat.le_of_ble_eq_true rfl) (Nat.le_of_ble_eq_true rfl) (fun T1 I1 J1 P1 g => ?_)
  refine V.putrG g 1 (by omega) (by decide) rfl fl_X9_9 dX9_init_9 (by decide) (fun _ => ⟨rfl, _, rfl⟩) rfl rfl rfl (Nat.le_of_ble_eq_true rfl) (fun P2 g => ?_)
  refine V.aload_n dX9_init_12 rfl ?_
  refine V.iconst (v := -1) dX9_init_13 (by decide) ?_
  refine V.putiG g (by decide) rfl fl_X9_15 dX9_init_14 (by decide) (fun _ => ⟨rfl, _, rfl⟩) rfl rfl rfl (Nat.le_of_ble_eq_true rfl) (fun I3 g => ?_)
  exact V.vret dX9_init_17 rfl (Nat.le_of_ble_eq_true rfl) (Nat.le_of_ble_eq_true rfl) ⟨rfl, g⟩
theorem dX1_init_0 : decode cX1_init 0 = .ok (.aload_n 0, 1) := by decide +kernel
theorem dX1_init_1 : decode cX1_init 1 = .ok (.invokespecial 3, 3) := by decide +kernel
theorem dX1_init_4 : decode cX1_init 4 = .ok (.aload_n 0, 1) := by decide +kernel
theorem dX1_init_5 : decode cX1_init 5 = .ok (.bipush 6, 2) := by decide +kernel
theorem dX1_init_7 : decode cX1_init 7 = .ok (.newarray .int, 2) := by decide +kernel
theorem dX1_init_9 : decode cX1_init 9 = .ok (.putfield 9, 3) := by decide +kernel
theorem dX1_init_12 : decode cX1_init 12 = .ok (.aload_n 0, 1) := by decide +kernel
theorem dX1_init_13 : decode cX1_init 13 = .ok (.bipush 6, 2) := by decide +kernel
theorem dX1_init_15 : decode cX1_init 15 = .ok (.newarray .int, 2) := by decide +kernel
theorem dX1_init_17 : decode cX1_init 17 = .ok (.putfield 15, 3) := by decide +kernel
theorem dX1_init_20 : decode cX1_init 20 = .ok (.aload_n 0, 1) := by decide +kernel
theorem dX1_init_21 : decode cX1_init 21 = .ok (.iconst 4, 1) := by decide +kernel
theorem dX1_init_22 : decode cX1_init 22 = .ok (.newarray .int, 2) := by decide +kernel
theorem dX1_init_24 : decode cX1_init 24 = .ok (.putfield 18, 3) := by decide +kernel
theorem dX1_init_27 : decode cX1_init 27 = .ok (.aload_n 0, 1) := by decide +kernel
theorem dX1_init_28 : decode cX1_init 28 = .ok (.bipush 6, 2) := by decide +kernel
theorem dX1_init_30 : decode cX1_init 30 = .ok (.newarray .int, 2) := by decide +kernel
theorem dX1_init_32 : decode cX1_init 32 = .ok (.putfield 21, 3) := by decide +kernel
theorem dX1_init_35 : decode cX1_init 35 = .ok (.aload_n 0, 1) := by decide +kernel
theorem dX1_init_36 : decode cX1_init 36 = .ok (.bipush 7, 2) := by decide +kernel
theorem dX1_init_38 : decode cX1_init 38 = .ok (.newarray .int, 2) := by decide +kernel
theorem dX1_init_40 : decode cX1_init 40 = .ok (.putfield 24, 3) := by decide +kernel
theorem dX1_init_43 : decode cX1_init 43 = .ok (.aload_n 0, 1) := by decide +kernel
theorem dX1_init_44 : decode cX1_init 44 = .ok (.bipush 64, 2) := by decide +kernel
theorem dX1_init_46 : decode cX1_init 46 = .ok (.newarray .int, 2) := by decide +kernel
theorem dX1_init_48 : decode cX1_init 48 = .ok (.putfield 29, 3) := by decide +kernel
theorem dX1_init_51 : decode cX1_init 51 = .ok (.aload_n 0, 1) := by decide +kernel
theorem dX1_init_52 : decode cX1_init 52 = .ok (.bipush 6, 2) := by decide +kernel
theorem dX1_init_54 : decode cX1_init 54 = .ok (.newarray .int, 2) := by decide +kernel
theorem dX1_init_56 : decode cX1_init 56 = .ok (.putfield 32, 3) := by decide +kernel
theorem dX1_init_59 : decode cX1_init 59 = .ok (.return_, 1) := by decide +kernel
def shc1 : Nat → Option (Nat × Nat) := (u1 (u1 (u1 (u1 (u1 (u1 (u1 (sh1 1) 1 (some (20, 6))) 2 (some (20, 6))) 3 (some (20, 4))) 4 (some (20, 6))) 5 (some (20, 7))) 6 (some (20, 64))) 7 (some (20, 6)))
def ivc1 : Nat → Nat → Int32 := (u1 (u1 (u1 (u1 (u1 (u1 (u1 (zz2 0) 1 (fun _ => 0)) 2 (fun _ => 0)) 3 (fun _ => 0)) 4 (fun _ => 0)) 5 (fun _ => 0)) 6 (fun _ => 0)) 7 (fun _ => 0))
def rfc1 : Nat → Nat → Option Int := (u2 (u1 (u2 (u1 (u2 (u1 (u2 (u1 (u2 (u1 (u2 (u1 (u2 (u1 (zz2 none) 1 (fun _ => none)) 0 4 (some (1))) 2 (fun _ => none)) 0 5 (some (2))) 3 (fun _ => none)) 0 6 (some (3))) 4 (fun _ => none)) 0 7 (some (4))) 5 (fun _ => none)) 0 10 (some (5))) 6 (fun _ => none)) 0 11 (some (6))) 7 (fun _ => none)) 0 12 (some (7)))
theorem k_X1 {l : Launch} {D : va_G} {E : Nat → ClassId} {B : Nat → Prop} {a : Nat} {h0 : HT} {T I J P} (g : Gb a 1 (sh1 1) (zz2 0) (zz2 none) h0 (a + 1, T, I, J, P)) : Ct l D E B yX1_init cX1_init 1 none 1 7 99 [.ref a] (a + 1, T, I, J, P) (fun v h => v = none ∧ Gb a 8 shc1 ivc1 (rfc1) h0 h) := by
  refine Ct.ofV (by decide) (Nat.le_of_ble_eq_true rfl) ?_
  refine V.aload_n dX1_init_0 rfl ?_
  refine V.obj0 koi_X1 dX1_init_1 (by decide) (by decide) ?_
  refine V.aload_n dX1_init_4 rfl ?_
  refine V.bipush (v := 6) dX1_init_5 (by decide) ?_
  refine V.newIG (m1 := 2) g rfl dX1_init_7 (by decide) (len := 6) (by decide) (by decide) (Nat.le_of_ble_eq_true rfl) (Nat.le_of_ble_eq_true rfl) (fun T1 I1 J1 P1 g => ?_)
  refine V.putrG g 1 (by omega) (by decide) rfl fl_X1_9 dX1_init_9 (by decide) (fun _ => ⟨rfl, _, rfl⟩) rfl rfl rfl (Nat.le_of_ble_eq_true rfl) (fun P2 g => ?_)
  refine V.aload_n dX1_init_12 rfl ?_
  refine V.bipush (v := 6) dX1_init_13 (by decide) ?_
  refine V.newIG (m1 := 3) g rfl dX1_init_15 (by decide) (len := 6) (by decide) (by decide) (Nat.le_of_ble_eq_true rfl) (Nat.le_of_ble_eq_true rfl) (fun T3 I3 J3 P3 g => ?_)
  refine V.putrG g 2 (by omega) (by decide) rfl fl_X1_15 dX1_init_17 (by decide) (fun _ => ⟨rfl, _, rfl⟩) rfl rfl rfl (Nat.le_of_ble_eq_true rfl) (fun P4 g => ?_)
  refine V.aload_n dX1_init_20 rfl ?_
  refine V.iconst (v := 4) dX1_init_21 (by decide) ?_
  refine V.newIG (m1 := 4) g rfl dX1_init_22 (by decide) (len := 4) (by decide) (by decide) (Nat.le_of_ble_eq_true rfl) (Nat.le_of_ble_eq_true rfl) (fun T5 I5 J5 P5 g => ?_)
  refine V.putrG g 3 (by omega) (by decide) rfl fl_X1_18 dX1_init_24 (by decide) (fun _ => ⟨rfl, _, rfl⟩) rfl rfl rfl (Nat.le_of_ble_eq_true rfl) (fun P6 g => ?_)
  refine V.aload_n dX1_init_27 rfl ?_
  refine V.bipush (v := 6) dX1_init_28 (by decide) ?_
  refine V.newIG (m1 := 5) g rfl dX1_init_30 (by decide) (len := 6) (by decide) (by decide) (Nat.le_of_ble_eq_true rfl) (Nat.le_of_ble_eq_true rfl) (fun T7 I7 J7 P7 g => ?_)
  refine V.putrG g 4 (by omega) (by decide) rfl fl_X1_21 dX1_init_32 (by decide) (fun _ => ⟨rfl, _, rfl⟩) rfl rfl rfl (Nat.le_of_ble_eq_true rfl) (fun P8 g => ?_)
  refine V.aload_n dX1_init_35 rfl ?_
  refine V.bipush (v := 7) dX1_init_36 (by decide) ?_
  refine V.newIG (m1 := 6) g rfl dX1_init_38 (by decide) (len := 7) (by decide) (by decide) (Nat.le_of_ble_eq_true rfl) (Nat.le_of_ble_eq_true rfl) (fun T9 I9 J9 P9 g => ?_)
  refine V.putrG g 5 (by omega) (by decide) rfl fl_X1_24 dX1_init_40 (by decide) (fun _ => ⟨rfl, _, rfl⟩) rfl rfl rfl (Nat.le_of_ble_eq_true rfl) (fun P10 g => ?_)
  refine V.aload_n dX1_init_43 rfl ?_
  refine V.bipush (v := 64) dX1_init_44 (by decide) ?_
  refine V.newIG (m1 := 7) g rfl dX1_init_46 (by decide) (len := 64) (by decide) (by decide) (Nat.le_of_ble_eq_true rfl) (Nat.le_of_ble_eq_true rfl) (fun T11 I11 J11 P11 g => ?_)
  refine V.putrG g 6 (by omega) (by decide) rfl fl_X1_29 dX1_init_48 (by decide) (fun _ => ⟨rfl, _, rfl⟩) rfl rfl rfl (Nat.le_of_ble_eq_true rfl) (fun P12 g => ?_)
  refine V.aload_n dX1_init_51 rfl ?_
  refine V.bipush (v := 6) dX1_init_52 (by decide) ?_
  refine V.newIG (m1 := 8) g rfl dX1_init_54 (by decide) (len := 6) (by decide) (by decide) (Nat.le_of_ble_eq_true rfl) (Nat.le_of_ble_eq_true rfl) (fun T13 I13 J13 P13 g => ?_)
  refine V.putrG g 7 (by omega) (by decide) rfl fl_X1_32 dX1_init_56 (by decide) (fun _ => ⟨rfl, _, rfl⟩) rfl rfl rfl (Nat.le_of_ble_eq_true rfl) (fun P14 g => ?_)
  exact V.vret dX1_init_59 rfl (Nat.le_of_ble_eq_true rfl) (Nat.le_of_ble_eq_true rfl) ⟨rfl, g⟩
theorem dX7_init_0 : decode cX7_init 0 = .ok (.aload_n 0, 1) := by decide +kernel
theorem dX7_init_1 : decode cX7_init 1 = .ok (.invokespecial 3, 3) := by decide +kernel
theorem dX7_init_4 : decode cX7_init 4 = .ok (.aload_n 0, 1) := by decide +kernel
theorem dX7_init_5 : decode cX7_init 5 = .ok (.iconst (-1), 1) := by decide +kernel
theorem dX7_init_6 : decode cX7_init 6 = .ok (.putfield 9, 3) := by decide +kernel
theorem dX7_init_9 : decode cX7_init 9 = .ok (.aload_n 0, 1) := by decide +kernel
theorem dX7_init_10 : decode cX7_init 10 = .ok (.sipush 900, 3) := by decide +kernel
theorem dX7_init_13 : decode cX7_init 13 = .ok (.newarray .int, 2) := by decide +kernel
theorem dX7_init_15 : decode cX7_init 15 = .ok (.putfield 15, 3) := by decide +kernel
theorem dX7_init_18 : decode cX7_init 18 = .ok (.return_, 1) := by decide +kernel
def shc7 : Nat → Option (Nat × Nat) := (u1 (sh1 7) 1 (some (20, 900)))
def ivc7 : Nat → Nat → Int32 := (u1 (u2 (zz2 0) 0 1 (-1)) 1 (fun _ => 0))
def rfc7 : Nat → Nat → Option Int := (u2 (u1 (zz2 none) 1 (fun _ => none)) 0 9 (some (1)))
theorem k_X7 {l : Launch} {D : va_G} {E : Nat → ClassId} {B : Nat → Prop} {a : Nat} {h0 : HT} {T I J P} (g : Gb a 1 (sh1 7) (zz2 0) (zz2 none) h0 (a + 1, T, I, J, P)) : Ct l D E B yX7_init cX7_init 1 none 1 1 900 [.ref a] (a + 1, T, I, J, P) (fun v h => v = none ∧ Gb a 2 shc7 ivc7 (rfc7) h0 h) := by
  refine Ct.ofV (by decide) (Nat.le_of_ble_eq_true rfl) ?_
  refine V.aload_n dX7_init_0 rfl ?_
  refine V.obj0 koi_X7 dX7_init_1 (by decide) (by decide) ?_
  refine V.aload_n dX7_init_4 rfl ?_
  refine V.iconst (v := -1) dX7_init_5 (by decide) ?_
  refine V.putiG g (by decide) rfl fl_X7_9 dX7_init_6 (by decide) (fun _ => ⟨rfl, _, rfl⟩) rfl rfl rfl (Nat.le_of_ble_eq_true rfl) (fun I1 g => ?_)
  refine V.aload_n dX7_init_9 rfl ?_
  refine V.sipush (v := 900) dX7_init_10 (by decide) ?_
  refine V.newIG (m1 := 2) g rfl dX7_init_13 (by decide) (len := 900) (by decide) (by decide) (Nat.le_of_ble_eq_true rfl) (Nat.le_of_ble_eq_true rfl) (fun T2 I2 J2 P2 g => ?_)
  refine V.putrG g 1 (by omega) (by decide) rfl fl_X7_15 dX7_init_15 (by decide) (fun _ => ⟨rfl, _, rfl⟩) rfl rfl rfl (Nat.le_of_ble_eq_true rfl) (fun P3 g => ?_)
  exact V.vret dX7_init_18 rfl (Nat.le_of_ble_eq_true rfl) (Nat.le_of_ble_eq_true rfl) ⟨rfl, g⟩
theorem dX6_init_0 : decode cX6_init 0 = .ok (.aload_n 0, 1) := by decide +kernel
theorem dX6_init_1 : decode cX6_init 1 = .ok (.invokespecial 3, 3) := by decide +kernel
theorem dX6_init_4 : decode cX6_init 4 = .ok (.aload_n 0, 1) := by decide +kernel
theorem dX6_init_5 : decode cX6_init 5 = .ok (.bipush 10, 2) := by decide +kernel
theorem dX6_init_7 : decode cX6_init 7 = .ok (.anewarray 9, 3) := by decide +kernel
theorem dX6_init_10 : decode cX6_init 10 = .ok (.putfield 11, 3) := by decide +kernel
theorem dX6_init_13 : decode cX6_init 13 = .ok (.iconst 0, 1) := by decide +kernel
theorem dX6_init_14 : decode cX6_init 14 = .ok (.istore_n 1, 1) := by decide +kernel
theorem dX6_init_15 : decode cX6_init 15 = .ok (.iload_n 1, 1) := by decide +kernel
theorem dX6_init_16 : decode cX6_init 16 = .ok (.bipush 10, 2) := by decide +kernel
theorem dX6_init_18 : decode cX6_init 18 = .ok (.if_icmp .ge 22, 3) := by decide +kernel
theorem dX6_init_21 : decode cX6_init 21 = .ok (.aload_n 0, 1) := by decide +kernel
theorem dX6_init_22 : decode cX6_init 22 = .ok (.getfield 11, 3) := by decide +kernel
theorem dX6_init_25 : decode cX6_init 25 = .ok (.iload_n 1, 1) := by decide +kernel
theorem dX6_init_26 : decode cX6_init 26 = .ok (.new 9, 3) := by decide +kernel
theorem dX6_init_29 : decode cX6_init 29 = .ok (.dup, 1) := by decide +kernel
theorem dX6_init_30 : decode cX6_init 30 = .ok (.invokespecial 17, 3) := by decide +kernel
theorem dX6_init_33 : decode cX6_init 33 = .ok (.aastore, 1) := by decide +kernel
theorem dX6_init_34 : decode cX6_init 34 = .ok (.iinc 1 1, 3) := by decide +kernel
theorem dX6_init_37 : decode cX6_init 37 = .ok (.goto (-22), 3) := by decide +kernel
theorem dX6_init_40 : decode cX6_init 40 = .ok (.return_, 1) := by decide +kernel
def shc6 : Nat → Option (Nat × Nat) := (jn (jn (jn (jn (jn (jn (jn (jn (jn (jn (u1 (sh1 6) 1 (some (25, 10))) 2 shc8) 9 shc8) 16 shc8) 23 shc8) 30 shc8) 37 shc8) 44 shc8) 51 shc8) 58 shc8) 65 shc8)
def ivc6 : Nat → Nat → Int32 := (jn (jn (jn (jn (jn (jn (jn (jn (jn (jn (u1 (zz2 0) 1 (fun _ => 0)) 2 ivc8) 9 ivc8) 16 ivc8) 23 ivc8) 30 ivc8) 37 ivc8) 44 ivc8) 51 ivc8) 58 ivc8) 65 ivc8)
def rfc6 : Nat → Nat → Option Int := (u2 (jr (u2 (jr (u2 (jr (u2 (jr (u2 (jr (u2 (jr (u2 (jr (u2 (jr (u2 (jr (u2 (jr (u2 (u1 (zz2 none) 1 (fun _ => none)) 0 0 (some (1))) 2 (rfc8)) 1 0 (some (2))) 9 (rfc8)) 1 1 (some (9))) 16 (rfc8)) 1 2 (some (16))) 23 (rfc8)) 1 3 (some (23))) 30 (rfc8)) 1 4 (some (30))) 37 (rfc8)) 1 5 (some (37))) 44 (rfc8)) 1 6 (some (44))) 51 (rfc8)) 1 7 (some (51))) 58 (rfc8)) 1 8 (some (58))) 65 (rfc8)) 1 9 (some (65)))
theorem k_X6 {l : Launch} {D : va_G} {E : Nat → ClassId} {B : Nat → Prop} {a : Nat} {h0 : HT} {T I J P} (g : Gb a 1 (sh1 6) (zz2 0) (zz2 none) h0 (a + 1, T, I, J, P)) : Ct l D E B yX6_init cX6_init 2 none 2 71 470 [.ref a] (a + 1, T, I, J, P) (fun v h => v = none ∧ Gb a 72 shc6 ivc6 (rfc6) h0 h) := by
  refine Ct.ofV (by decide) (Nat.le_of_ble_eq_true rfl) ?_
  refine V.aload_n dX6_init_0 rfl ?_
  refine V.obj0 koi_X6 dX6_init_1 (by decide) (by decide) ?_
  refine V.aload_n dX6_init_4 rfl ?_
  refine V.bipush (v := 10) dX6_init_5 (by decide) ?_
  refine V.newRG (C := RX8) (t := 25) (t0 := 5) (m1 := 2) (by decide) g rfl dX6_init_7 kcl_X6_9 (by decide) (len := 10) (by decide) (by decide) (Nat.le_of_ble_eq_true rfl) (Nat.le_of_ble_eq_true rfl) (fun T1 I1 J1 P1 g => ?_)
  refine V.putrG g 1 (by omega) (by decide) rfl fl_X6_11 dX6_init_10 (by decide) (fun _ => ⟨rfl, _, rfl⟩) rfl rfl rfl (Nat.le_of_ble_eq_true rfl) (fun P2 g => ?_)
  refine V.iconst (v := 0) dX6_init_13 (by decide) ?_
  refine V.istore_n dX6_init_14 rfl (by decide) (by first | exact rfl | exact trivial) ?_
  refine V.iload_n dX6_init_15 rfl ?_
  refine V.bipush (v := 10) dX6_init_16 (by decide) ?_
  refine V.icmp_ge 40 dX6_init_18 (by decide) (fun h => absurd h (by decide)) (fun _ => ?_)
  refine V.aload_n dX6_init_21 rfl ?_
  refine V.getr fl_X6_11 dX6_init_22 (g.T 0 (by decide) rfl) (g.r 0 0 (z := 1) (by decide) rfl) (by decide) rfl ?_
  refine V.iload_n dX6_init_25 rfl ?_
  refine V.newG nl_X6_9 dX6_init_26 (by decide) (Nat.le_of_ble_eq_true rfl) (Nat.le_of_ble_eq_true rfl) (fun T3 I3 J3 P3 gi => ?_)
  refine V.dup dX6_init_29 rfl ?_
  refine V.ini cn_X6_17 (k_X8 gi) dX6_init_30 rfl rfl (Nat.le_of_ble_eq_true rfl) (by decide) (by decide) (Nat.le_of_ble_eq_true rfl) (Nat.le_of_ble_eq_true rfl) (fun _ h4 hq => ?_)
  obtain ⟨n4, T4, I4, J4, P4⟩ := h4
  obtain ⟨rfl, g4⟩ := hq
  have g := g.join g4 (m2 := 9) rfl
  obtain rfl : n4 = a + 9 := g.1
  clear g4 gi
  refine V.aastG (k := 1) (j := 2) g (by decide) rfl (by decide) rfl dX6_init_33 (by decide) (vp_lit (by decide)) 0 (by decide) (fun P5 g => ?_)
  refine V.iinc (v := 1) dX6_init_34 rfl (by decide) (by first | exact rfl | exact trivial) ?_
  refine V.goto 15 dX6_init_37 (by decide) ?_
  refine V.iload_n dX6_init_15 rfl ?_
  refine V.bipush (v := 10) dX6_init_16 (by decide) ?_
  refine V.icmp_ge 40 dX6_init_18 (by decide) (fun h => absurd h (by decide)) (fun _ => ?_)
  refine V.aload_n dX6_init_21 rfl ?_
  refine V.getr fl_X6_11 dX6_init_22 (g.T 0 (by decide) rfl) (g.r 0 0 (z := 1) (by decide) rfl) (by decide) rfl ?_
  refine V.iload_n dX6_init_25 rfl ?_
  refine V.newG nl_X6_9 dX6_init_26 (by decide) (Nat.le_of_ble_eq_true rfl) (Nat.le_of_ble_eq_true rfl) (fun T6 I6 J6 P6 gi => ?_)
  refine V.dup dX6_init_29 rfl ?_
  refine V.ini cn_X6_17 (k_X8 gi) dX6_init_30 rfl rfl (Nat.le_of_ble_eq_true rfl) (by decide) (by decide) (Nat.le_of_ble_eq_true rfl) (Nat.le_of_ble_eq_true rfl) (fun _ h7 hq => ?_)
  obtain ⟨n7, T7, I7, J7, P7⟩ := h7
  obtain ⟨rfl, g7⟩ := hq
  have g := g.join g7 (m2 := 16) rfl
  obtain rfl : n7 = a + 16 := g.1
  clear g7 gi
  refine V.aastG (k := 1) (j := 9) g (by decide) rfl (by decide) rfl dX6_init_33 (by decide) (vp_lit (by decide)) 1 (by decide) (fun P8 g => ?_)
  refine V.iinc (v := 2) dX6_init_34 rfl (by decide) (by first | exact rfl | exact trivial) ?_
  refine V.goto 15 dX6_init_37 (by decide) ?_
  refine V.iload_n dX6_init_15 rfl ?_
  refine V.bipush (v := 10) dX6_init_16 (by decide) ?_
  refine V.icmp_ge 40 dX6_init_18 (by decide) (fun h => absurd h (by decide)) (fun _ => ?_)
  refine V.aload_n dX6_init_21 rfl ?_
  refine V.getr fl_X6_11 dX6_init_22 (g.T 0 (by decide) rfl) (g.r 0 0 (z := 1) (by decide) rfl) (by decide) rfl ?_
  refine V.iload_n dX6_init_25 rfl ?_
  refine V.newG nl_X6_9 dX6_init_26 (by decide) (Nat.le_of_ble_eq_true rfl) (Nat.le_of_ble_eq_true rfl) (fun T9 I9 J9 P9 gi => ?_)
  refine V.dup dX6_init_29 rfl ?_
  refine V.ini cn_X6_17 (k_X8 gi) dX6_init_30 rfl rfl (Nat.le_of_ble_eq_true rfl) (by decide) (by decide) (Nat.le_of_ble_eq_true rfl) (Nat.le_of_ble_eq_true rfl) (fun _ h10 hq => ?_)
  obtain ⟨n10, T10, I10, J10, P10⟩ := h10
  obtain ⟨rfl, g10⟩ := hq
  have g := g.join g10 (m2 := 23) rfl
  obtain rfl : n10 = a + 23 := g.1
  clear g10 gi
  refine V.aastG (k := 1) (j := 16) g (by decide) rfl (by decide) rfl dX6_init_33 (by decide) (vp_lit (by decide)) 2 (by decide) (fun P11 g => ?_)
  refine V.iinc (v := 3) dX6_init_34 rfl (by decide) (by first | exact rfl | exact trivial) ?_
  refine V.goto 15 dX6_init_37 (by decide) ?_
  refine V.iload_n dX6_init_15 rfl ?_
  refine V.bipush (v := 10) dX6_init_16 (by decide) ?_
  refine V.icmp_ge 40 dX6_init_18 (by decide) (fun h => absurd h (by decide)) (fun _ => ?_)
  refine V.aload_n dX6_init_21 rfl ?_
  refine V.getr fl_X6_11 dX6_init_22 (g.T 0 (by decide) rfl) (g.r 0 0 (z := 1) (by decide) rfl) (by decide) rfl ?_
  refine V.iload_n dX6_init_25 rfl ?_
  refine V.newG nl_X6_9 dX6_init_26 (by decide) (Nat.le_of_ble_eq_true rfl) (Nat.le_of_ble_eq_true rfl) (fun T12 I12 J12 P12 gi => ?_)
  refine V.dup dX6_init_29 rfl ?_
  refine V.ini cn_X6_17 (k_X8 gi) dX6_init_30 rfl rfl (Nat.le_of_ble_eq_true rfl) (by decide) (by decide) (Nat.le_of_ble_eq_true rfl) (Nat.le_of_ble_eq_true rfl) (fun _ h13 hq => ?_)
  obtain ⟨n13, T13, I13, J13, P13⟩ := h13
  obtain ⟨rfl, g13⟩ := hq
  have g := g.join g13 (m2 := 30) rfl
  obtain rfl : n13 = a + 30 := g.1
  clear g13 gi
  refine V.aastG (k := 1) (j := 23) g (by decide) rfl (by decide) rfl dX6_init_33 (by decide) (vp_lit (by decide)) 3 (by decide) (fun P14 g => ?_)
  refine V.iinc (v := 4) dX6_init_34 rfl (by decide) (by first | exact rfl | exact trivial) ?_
  refine V.goto 15 dX6_init_37 (by decide) ?_
  refine V.iload_n dX6_init_15 rfl ?_
  refine V.bipush (v := 10) dX6_init_16 (by decide) ?_
  refine V.icmp_ge 40 dX6_init_18 (by decide) (fun h => absurd h (by decide)) (fun _ => ?_)
  refine V.aload_n dX6_init_21 rfl ?_
  refine V.getr fl_X6_11 dX6_init_22 (g.T 0 (by decide) rfl) (g.r 0 0 (z := 1) (by decide) rfl) (by decide) rfl ?_
  refine V.iload_n dX6_init_25 rfl ?_
  refine V.newG nl_X6_9 dX6_init_26 (by decide) (Nat.le_of_ble_eq_true rfl) (Nat.le_of_ble_eq_true rfl) (fun T15 I15 J15 P15 gi => ?_)
  refine V.dup dX6_init_29 rfl ?_
  refine V.ini cn_X6_17 (k_X8 gi) dX6_init_30 rfl rfl (Nat.le_of_ble_eq_true rfl) (by decide) (by decide) (Nat.le_of_ble_eq_true rfl) (Nat.le_of_ble_eq_true rfl) (fun _ h16 hq => ?_)
  obtain ⟨n16, T16, I16, J16, P16⟩ := h16
  obtain ⟨rfl, g16⟩ := hq
  have g := g.join g16 (m2 := 37) rfl
  obtain rfl : n16 = a + 37 := g.1
  clear g16 gi
  refine V.aastG (k := 1) (j := 30) g (by decide) rfl (by decide) rfl dX6_init_33 (by decide) (vp_lit (by decide)) 4 (by decide) (fun P17 g => ?_)
  refine V.iinc (v := 5) dX6_init_34 rfl (by decide) (by first | exact rfl | exact trivial) ?_
  refine V.goto 15 dX6_init_37 (by decide) ?_
  refine V.iload_n dX6_init_15 rfl ?_
  refine V.bipush (v := 10) dX6_init_16 (by decide) ?_
  refine V.icmp_ge 40 dX6_init_18 (by decide) (fun h => absurd h (by decide)) (fun _ => ?_)
  refine V.aload_n dX6_init_21 rfl ?_
  refine V.getr fl_X6_11 dX6_init_22 (g.T 0 (by decide) rfl) (g.r 0 0 (z := 1) (by decide) rfl) (by decide) rfl ?_
  refine V.iload_n dX6_init_25 rfl ?_
  refine V.newG nl_X6_9 dX6_init_26 (by decide) (Nat.le_of_ble_eq_true rfl) (Nat.le_of_ble_eq_true rfl) (fun T18 I18 J18 P18 gi => ?_)
  refine V.dup dX6_init_29 rfl ?_
  refine V.ini cn_X6_17 (k_X8 gi) dX6_init_30 rfl rfl (Nat.le_of_ble_eq_true rfl) (by decide) (by decide) (Nat.le_of_ble_eq_true rfl) (Nat.le_of_ble_eq_true rfl) (fun _ h19 hq => ?_)
  obtain ⟨n19, T19, I19, J19, P19⟩ := h19
  obtain ⟨rfl, g19⟩ := hq
  have g := g.join g19 (m2 := 44) rfl
  obtain rfl : n19 = a + 44 := g.1
  clear g19 gi
  refine V.aastG (k := 1) (j := 37) g (by decide) rfl (by decide) rfl dX6_init_33 (by decide) (vp_lit (by decide)) 5 (by decide) (fun P20 g => ?_)
  refine V.iinc (v := 6) dX6_init_34 rfl (by decide) (by first | exact rfl | exact trivial) ?_
  refine V.goto 15 dX6_init_37 (by decide) ?_
  refine V.iload_n dX6_init_15 rfl ?_
  refine V.bipush (v := 10) dX6_init_16 (by decide) ?_
  refine V.icmp_ge 40 dX6_init_18 (by decide) (fun h => absurd h (by decide)) (fun _ => ?_)
  refine V.aload_n dX6_init_21 rfl ?_
  refine V.getr fl_X6_11 dX6_init_22 (g.T 0 (by decide) rfl) (g.r 0 0 (z := 1) (by decide) rfl) (by decide) rfl ?_
  refine V.iload_n dX6_init_25 rfl ?_
  refine V.newG nl_X6_9 dX6_init_26 (by decide) (Nat.le_of_ble_eq_true rfl) (Nat.le_of_ble_eq_true rfl) (fun T21 I21 J21 P21 gi => ?_)
  refine V.dup dX6_init_29 rfl ?_
  refine V.ini cn_X6_17 (k_X8 gi) dX6_init_30 rfl rfl (Nat.le_of_ble_eq_true rfl) (by decide) (by decide) (Nat.le_of_ble_eq_true rfl) (Nat.le_of_ble_eq_true rfl) (fun _ h22 hq => ?_)
  obtain ⟨n22, T22, I22, J22, P22⟩ := h22
  obtain ⟨rfl, g22⟩ := hq
  have g := g.join g22 (m2 := 51) rfl
  obtain rfl : n22 = a + 51 := g.1
  clear g22 gi
  refine V.aastG (k := 1) (j := 44) g (by decide) rfl (by decide) rfl dX6_init_33 (by decide) (vp_lit (by decide)) 6 (by decide) (fun P23 g => ?_)
  refine V.iinc (v := 7) dX6_init_34 rfl (by decide) (by first | exact rfl | exact trivial) ?_
  refine V.goto 15 dX6_init_37 (by decide) ?_
  refine V.iload_n dX6_init_15 rfl ?_
  refine V.bipush (v := 10) dX6_init_16 (by decide) ?_
  refine V.icmp_ge 40 dX6_init_18 (by decide) (fun h => absurd h (by decide)) (fun _ => ?_)
  refine V.aload_n dX6_init_21 rfl ?_
  refine V.getr fl_X6_11 dX6_init_22 (g.T 0 (by decide) rfl) (g.r 0 0 (z := 1) (by decide) rfl) (by decide) rfl ?_
  refine V.iload_n dX6_init_25 rfl ?_
  refine V.newG nl_X6_9 dX6_init_26 (by decide) (Nat.le_of_ble_eq_true rfl) (Nat.le_of_ble_eq_true rfl) (fun T24 I24 J24 P24 gi => ?_)
  refine V.dup dX6_init_29 rfl ?_
  refine V.ini cn_X6_17 (k_X8 gi) dX6_init_30 rfl rfl (Nat.le_of_ble_eq_true rfl) (by decide) (by decide) (Nat.le_of_ble_eq_true rfl) (Nat.le_of_ble_eq_true rfl) (fun _ h25 hq => ?_)
  obtain ⟨n25, T25, I25, J25, P25⟩ := h25
  obtain ⟨rfl, g25⟩ := hq
  have g := g.join g25 (m2 := 58) rfl
  obtain rfl : n25 = a + 58 := g.1
  clear g25 gi
  refine V.aastG (k := 1) (j := 51) g (by decide) rfl (by decide) rfl dX6_init_33 (by decide) (vp_lit (by decide)) 7 (by decide) (fun P26 g => ?_)
  refine V.iinc (v := 8) dX6_init_34 rfl (by decide) (by first | exact rfl | exact trivial) ?_
  refine V.goto 15 dX6_init_37 (by decide) ?_
  refine V.iload_n dX6_init_15 rfl ?_
  refine V.bipush (v := 10) dX6_init_16 (by decide) ?_
  refine V.icmp_ge 40 dX6_init_18 (by decide) (fun h => absurd h (by decide)) (fun _ => ?_)
  refine V.aload_n dX6_init_21 rfl ?_
  refine V.getr fl_X6_11 dX6_init_22 (g.T 0 (by decide) rfl) (g.r 0 0 (z := 1) (by decide) rfl) (by decide) rfl ?_
  refine V.iload_n dX6_init_25 rfl ?_
  refine V.newG nl_X6_9 dX6_init_26 (by decide) (Nat.le_of_ble_eq_true rfl) (Nat.le_of_ble_eq_true rfl) (fun T27 I27 J27 P27 gi => ?_)
  refine V.dup dX6_init_29 rfl ?_
  refine V.ini cn_X6_17 (k_X8 gi) dX6_init_30 rfl rfl (Nat.le_of_ble_eq_true rfl) (by decide) (by decide) (Nat.le_of_ble_eq_true rfl) (Nat.le_of_ble_eq_true rfl) (fun _ h28 hq => ?_)
  obtain ⟨n28, T28, I28, J28, P28⟩ := h28
  obtain ⟨rfl, g28⟩ := hq
  have g := g.join g28 (m2 := 65) rfl
  obtain rfl : n28 = a + 65 := g.1
  clear g28 gi
  refine V.aastG (k := 1) (j := 58) g (by decide) rfl (by decide) rfl dX6_init_33 (by decide) (vp_lit (by decide)) 8 (by decide) (fun P29 g => ?_)
  refine V.iinc (v := 9) dX6_init_34 rfl (by decide) (by first | exact rfl | exact trivial) ?_
  refine V.goto 15 dX6_init_37 (by decide) ?_
  refine V.iload_n dX6_init_15 rfl ?_
  refine V.bipush (v := 10) dX6_init_16 (by decide) ?_
  refine V.icmp_ge 40 dX6_init_18 (by decide) (fun h => absurd h (by decide)) (fun _ => ?_)
  refine V.aload_n dX6_init_21 rfl ?_
  refine V.getr fl_X6_11 dX6_init_22 (g.T 0 (by decide) rfl) (g.r 0 0 (z := 1) (by decide) rfl) (by decide) rfl ?_
  refine V.iload_n dX6_init_25 rfl ?_
  refine V.newG nl_X6_9 dX6_init_26 (by decide) (Nat.le_of_ble_eq_true rfl) (Nat.le_of_ble_eq_true rfl) (fun T30 I30 J30 P30 gi => ?_)
  refine V.dup dX6_init_29 rfl ?_
  refine V.ini cn_X6_17 (k_X8 gi) dX6_init_30 rfl rfl (Nat.le_of_ble_eq_true rfl) (by decide) (by decide) (Nat.le_of_ble_eq_true rfl) (Nat.le_of_ble_eq_true rfl) (fun _ h31 hq => ?_)
  obtain ⟨n31, T31, I31, J31, P31⟩ := h31
  obtain ⟨rfl, g31⟩ := hq
  have g := g.join g31 (m2 := 72) rfl
  obtain rfl : n31 = a + 72 := g.1
  clear g31 gi
  refine V.aastG (k := 1) (j := 65) g (by decide) rfl (by decide) rfl dX6_init_33 (by decide) (vp_lit (by decide)) 9 (by decide) (fun P32 g => ?_)
  refine V.iinc (v := 10) dX6_init_34 rfl (by decide) (by first | exact rfl | exact trivial) ?_
  refine V.goto 15 dX6_init_37 (by decide) ?_
  refine V.iload_n dX6_init_15 rfl ?_
  refine V.bipush (v := 10) dX6_init_16 (by decide) ?_
  refine V.icmp_ge 40 dX6_init_18 (by decide) (fun _ => ?_) (fun h => absurd (show (10 : Int32) ≤ 10 from by decide) h)
  exact V.vret dX6_init_40 rfl (Nat.le_of_ble_eq_true rfl) (Nat.le_of_ble_eq_true rfl) ⟨rfl, g⟩
theorem dX5_init_0 : decode cX5_init 0 = .ok (.aload_n 0, 1) := by decide +kernel
theorem dX5_init_1 : decode cX5_init 1 = .ok (.invokespecial 3, 3) := by decide +kernel
theorem dX5_init_4 : decode cX5_init 4 = .ok (.aload_n 0, 1) := by decide +kernel
theorem dX5_init_5 : decode cX5_init 5 = .ok (.bipush 30, 2) := by decide +kernel
theorem dX5_init_7 : decode cX5_init 7 = .ok (.newarray .int, 2) := by decide +kernel
theorem dX5_init_9 : decode cX5_init 9 = .ok (.putfield 9, 3) := by decide +kernel
theorem dX5_init_12 : decode cX5_init 12 = .ok (.aload_n 0, 1) := by decide +kernel
theorem dX5_init_13 : decode cX5_init 13 = .ok (.new 15, 3) := by decide +kernel
theorem dX5_init_16 : decode cX5_init 16 = .ok (.dup, 1) := by decide +kernel
theorem dX5_init_17 : decode cX5_init 17 = .ok (.invokespecial 17, 3) := by decide +kernel
theorem dX5_init_20 : decode cX5_init 20 = .ok (.putfield 18, 3) := by decide +kernel
theorem dX5_init_23 : decode cX5_init 23 = .ok (.aload_n 0, 1) := by decide +kernel
theorem dX5_init_24 : decode cX5_init 24 = .ok (.bipush 6, 2) := by decide +kernel
theorem dX5_init_26 : decode cX5_init 26 = .ok (.newarray .int, 2) := by decide +kernel
theorem dX5_init_28 : decode cX5_init 28 = .ok (.putfield 22, 3) := by decide +kernel
theorem dX5_init_31 : decode cX5_init 31 = .ok (.aload_n 0, 1) := by decide +kernel
theorem dX5_init_32 : decode cX5_init 32 = .ok (.bipush 6, 2) := by decide +kernel
theorem dX5_init_34 : decode cX5_init 34 = .ok (.newarray .int, 2) := by decide +kernel
theorem dX5_init_36 : decode cX5_init 36 = .ok (.putfield 25, 3) := by decide +kernel
theorem dX5_init_39 : decode cX5_init 39 = .ok (.return_, 1) := by decide +kernel
def shc5 : Nat → Option (Nat × Nat) := (u1 (u1 (jn (u1 (sh1 5) 1 (some (20, 30))) 2 shc3) 4 (some (20, 6))) 5 (some (20, 6)))
def ivc5 : Nat → Nat → Int32 := (u1 (u1 (jn (u1 (zz2 0) 1 (fun _ => 0)) 2 ivc3) 4 (fun _ => 0)) 5 (fun _ => 0))
def rfc5 : Nat → Nat → Option Int := (u2 (u1 (u2 (u1 (u2 (jr (u2 (u1 (zz2 none) 1 (fun _ => none)) 0 0 (some (1))) 2 (rfc3)) 0 2 (some (2))) 4 (fun _ => none)) 0 3 (some (4))) 5 (fun _ => none)) 0 5 (some (5)))
theorem k_X5 {l : Launch} {D : va_G} {E : Nat → ClassId} {B : Nat → Prop} {a : Nat} {h0 : HT} {T I J P} (g : Gb a 1 (sh1 5) (zz2 0) (zz2 none) h0 (a + 1, T, I, J, P)) : Ct l D E B yX5_init cX5_init 1 none 2 5 48 [.ref a] (a + 1, T, I, J, P) (fun v h => v = none ∧ Gb a 6 shc5 ivc5 (rfc5) h0 h) := by
  refine Ct.ofV (by decide) (Nat.le_of_ble_eq_true rfl) ?_
  refine V.aload_n dX5_init_0 rfl ?_
  refine V.obj0 koi_X5 dX5_init_1 (by decide) (by decide) ?_
  refine V.aload_n dX5_init_4 rfl ?_
  refine V.bipush (v := 30) dX5_init_5 (by decide) ?_
  refine V.newIG (m1 := 2) g rfl dX5_init_7 (by decide) (len := 30) (by decide) (by decide) (Nat.le_of_ble_eq_true rfl) (Nat.le_of_ble_eq_true rfl) (fun T1 I1 J1 P1 g => ?_)
  refine V.putrG g 1 (by omega) (by decide) rfl fl_X5_9 dX5_init_9 (by decide) (fun _ => ⟨rfl, _, rfl⟩) rfl rfl rfl (Nat.le_of_ble_eq_true rfl) (fun P2 g => ?_)
  refine V.aload_n dX5_init_12 rfl ?_
  refine V.newG nl_X5_15 dX5_init_13 (by decide) (Nat.le_of_ble_eq_true rfl) (Nat.le_of_ble_eq_true rfl) (fun T3 I3 J3 P3 gi => ?_)
  refine V.dup dX5_init_16 rfl ?_
  refine V.ini cn_X5_17 (k_X3 gi) dX5_init_17 rfl rfl (Nat.le_of_ble_eq_true rfl) (by decide) (by decide) (Nat.le_of_ble_eq_true rfl) (Nat.le_of_ble_eq_true rfl) (fun _ h4 hq => ?_)
  obtain ⟨n4, T4, I4, J4, P4⟩ := h4
  obtain ⟨rfl, g4⟩ := hq
  have g := g.join g4 (m2 := 4) rfl
  obtain rfl : n4 = a + 4 := g.1
  clear g4 gi
  refine V.putrG g 2 (by omega) (by decide) rfl fl_X5_18 dX5_init_20 (by decide) (fun _ => ⟨rfl, _, rfl⟩) rfl rfl rfl (Nat.le_of_ble_eq_true rfl) (fun P5 g => ?_)
  refine V.aload_n dX5_init_23 rfl ?_
  refine V.bipush (v := 6) dX5_init_24 (by decide) ?_
  refine V.newIG (m1 := 5) g rfl dX5_init_26 (by decide) (len := 6) (by decide) (by decide) (Nat.le_of_ble_eq_true rfl) (Nat.le_of_ble_eq_true rfl) (fun T6 I6 J6 P6 g => ?_)
  refine V.putrG g 4 (by omega) (by decide) rfl fl_X5_22 dX5_init_28 (by decide) (fun _ => ⟨rfl, _, rfl⟩) rfl rfl rfl (Nat.le_of_ble_eq_true rfl) (fun P7 g => ?_)
  refine V.aload_n dX5_init_31 rfl ?_
  refine V.bipush (v := 6) dX5_init_32 (by decide) ?_
  refine V.newIG (m1 := 6) g rfl dX5_init_34 (by decide) (len := 6) (by decide) (by decide) (Nat.le_of_ble_eq_true rfl) (Nat.le_of_ble_eq_true rfl) (fun T8 I8 J8 P8 g => ?_)
  refine V.putrG g 5 (by omega) (by decide) rfl fl_X5_25 dX5_init_36 (by decide) (fun _ => ⟨rfl, _, rfl⟩) rfl rfl rfl (Nat.le_of_ble_eq_true rfl) (fun P9 g => ?_)
  exact V.vret dX5_init_39 rfl (Nat.le_of_ble_eq_true rfl) (Nat.le_of_ble_eq_true rfl) ⟨rfl, g⟩
theorem dX10_init_0 : decode cX10_init 0 = .ok (.aload_n 0, 1) := by decide +kernel
theorem dX10_init_1 : decode cX10_init 1 = .ok (.invokespecial 3, 3) := by decide +kernel
theorem dX10_init_4 : decode cX10_init 4 = .ok (.aload_n 0, 1) := by decide +kernel
theorem dX10_init_5 : decode cX10_init 5 = .ok (.new 9, 3) := by decide +kernel
theorem dX10_init_8 : decode cX10_init 8 = .ok (.dup, 1) := by decide +kernel
theorem dX10_init_9 : decode cX10_init 9 = .ok (.invokespecial 11, 3) := by decide +kernel
theorem dX10_init_12 : decode cX10_init 12 = .ok (.putfield 12, 3) := by decide +kernel
theorem dX10_init_15 : decode cX10_init 15 = .ok (.aload_n 0, 1) := by decide +kernel
theorem dX10_init_16 : decode cX10_init 16 = .ok (.sipush 441, 3) := by decide +kernel
theorem dX10_init_19 : decode cX10_init 19 = .ok (.newarray .int, 2) := by decide +kernel
theorem dX10_init_21 : decode cX10_init 21 = .ok (.putfield 18, 3) := by decide +kernel
theorem dX10_init_24 : decode cX10_init 24 = .ok (.aload_n 0, 1) := by decide +kernel
theorem dX10_init_25 : decode cX10_init 25 = .ok (.sipush 441, 3) := by decide +kernel
theorem dX10_init_28 : decode cX10_init 28 = .ok (.newarray .int, 2) := by decide +kernel
theorem dX10_init_30 : decode cX10_init 30 = .ok (.putfield 22, 3) := by decide +kernel
theorem dX10_init_33 : decode cX10_init 33 = .ok (.aload_n 0, 1) := by decide +kernel
theorem dX10_init_34 : decode cX10_init 34 = .ok (.sipush 441, 3) := by decide +kernel
theorem dX10_init_37 : decode cX10_init 37 = .ok (.newarray .int, 2) := by decide +kernel
theorem dX10_init_39 : decode cX10_init 39 = .ok (.putfield 25, 3) := by decide +kernel
theorem dX10_init_42 : decode cX10_init 42 = .ok (.aload_n 0, 1) := by decide +kernel
theorem dX10_init_43 : decode cX10_init 43 = .ok (.new 28, 3) := by decide +kernel
theorem dX10_init_46 : decode cX10_init 46 = .ok (.dup, 1) := by decide +kernel
theorem dX10_init_47 : decode cX10_init 47 = .ok (.invokespecial 30, 3) := by decide +kernel
theorem dX10_init_50 : decode cX10_init 50 = .ok (.putfield 31, 3) := by decide +kernel
theorem dX10_init_53 : decode cX10_init 53 = .ok (.aload_n 0, 1) := by decide +kernel
theorem dX10_init_54 : decode cX10_init 54 = .ok (.new 28, 3) := by decide +kernel
theorem dX10_init_57 : decode cX10_init 57 = .ok (.dup, 1) := by decide +kernel
theorem dX10_init_58 : decode cX10_init 58 = .ok (.invokespecial 30, 3) := by decide +kernel
theorem dX10_init_61 : decode cX10_init 61 = .ok (.putfield 35, 3) := by decide +kernel
theorem dX10_init_64 : decode cX10_init 64 = .ok (.return_, 1) := by decide +kernel
def shc10 : Nat → Option (Nat × Nat) := (jn (jn (u1 (u1 (u1 (jn (sh1 10) 1 shc3) 3 (some (20, 441))) 4 (some (20, 441))) 5 (some (20, 441))) 6 shc8) 13 shc8)
def ivc10 : Nat → Nat → Int32 := (jn (jn (u1 (u1 (u1 (jn (zz2 0) 1 ivc3) 3 (fun _ => 0)) 4 (fun _ => 0)) 5 (fun _ => 0)) 6 ivc8) 13 ivc8)
def rfc10 : Nat → Nat → Option Int := (u2 (jr (u2 (jr (u2 (u1 (u2 (u1 (u2 (u1 (u2 (jr (zz2 none) 1 (rfc3)) 0 0 (some (1))) 3 (fun _ => none)) 0 1 (some (3))) 4 (fun _ => none)) 0 3 (some (4))) 5 (fun _ => none)) 0 4 (some (5))) 6 (rfc8)) 0 5 (some (6))) 13 (rfc8)) 0 6 (some (13)))
theorem k_X10 {l : Launch} {D : va_G} {E : Nat → ClassId} {B : Nat → Prop} {a : Nat} {h0 : HT} {T I J P} (g : Gb a 1 (sh1 10) (zz2 0) (zz2 none) h0 (a + 1, T, I, J, P)) : Ct l D E B yX10_init cX10_init 1 none 2 19 1421 [.ref a] (a + 1, T, I, J, P) (fun v h => v = none ∧ Gb a 20 shc10 ivc10 (rfc10) h0 h) := by
  refine Ct.ofV (by decide) (Nat.le_of_ble_eq_true rfl) ?_
  refine V.aload_n dX10_init_0 rfl ?_
  refine V.obj0 koi_X10 dX10_init_1 (by decide) (by decide) ?_
  refine V.aload_n dX10_init_4 rfl ?_
  refine V.newG nl_X10_9 dX10_init_5 (by decide) (Nat.le_of_ble_eq_true rfl) (Nat.le_of_ble_eq_true rfl) (fun T1 I1 J1 P1 gi => ?_)
  refine V.dup dX10_init_8 rfl ?_
  refine V.ini cn_X10_11 (k_X3 gi) dX10_init_9 rfl rfl (Nat.le_of_ble_eq_true rfl) (by decide) (by decide) (Nat.le_of_ble_eq_true rfl) (Nat.le_of_ble_eq_true rfl) (fun _ h2 hq => ?_)
  obtain ⟨n2, T2, I2, J2, P2⟩ := h2
  obtain ⟨rfl, g2⟩ := hq
  have g := g.join g2 (m2 := 3) rfl
  obtain rfl : n2 = a + 3 := g.1
  clear g2 gi
  refine V.putrG g 1 (by omega) (by decide) rfl fl_X10_12 dX10_init_12 (by decide) (fun _ => ⟨rfl, _, rfl⟩) rfl rfl rfl (Nat.le_of_ble_eq_true rfl) (fun P3 g => ?_)
  refine V.aload_n dX10_init_15 rfl ?_
  refine V.sipush (v := 441) dX10_init_16 (by decide) ?_
  refine V.newIG (m1 := 4) g rfl dX10_init_19 (by decide) (len := 441) (by decide) (by decide) (Nat.le_of_ble_eq_true rfl) (Nat.le_of_ble_eq_true rfl) (fun T4 I4 J4 P4 g => ?_)
  refine V.putrG g 3 (by omega) (by decide) rfl fl_X10_18 dX10_init_21 (by decide) (fun _ => ⟨rfl, _, rfl⟩) rfl rfl rfl (Nat.le_of_ble_eq_true rfl) (fun P5 g => ?_)
  refine V.aload_n dX10_init_24 rfl ?_
  refine V.sipush (v := 441) dX10_init_25 (by decide) ?_
  refine V.newIG (m1 := 5) g rfl dX10_init_28 (by decide) (len := 441) (by decide) (by decide) (Nat.le_of_ble_eq_true rfl) (Nat.le_of_ble_eq_true rfl) (fun T6 I6 J6 P6 g => ?_)
  refine V.putrG g 4 (by omega) (by decide) rfl fl_X10_22 dX10_init_30 (by decide) (fun _ => ⟨rfl, _, rfl⟩) rfl rfl rfl (Nat.le_of_ble_eq_true rfl) (fun P7 g => ?_)
  refine V.aload_n dX10_init_33 rfl ?_
  refine V.sipush (v := 441) dX10_init_34 (by decide) ?_
  refine V.newIG (m1 := 6) g rfl dX10_init_37 (by decide) (len := 441) (by decide) (by decide) (Nat.le_of_ble_eq_true rfl) (Nat.le_of_ble_eq_true rfl) (fun T8 I8 J8 P8 g => ?_)
  refine V.putrG g 5 (by omega) (by decide) rfl fl_X10_25 dX10_init_39 (by decide) (fun _ => ⟨rfl, _, rfl⟩) rfl rfl rfl (Nat.le_of_ble_eq_true rfl) (fun P9 g => ?_)
  refine V.aload_n dX10_init_42 rfl ?_
  refine V.newG nl_X10_28 dX10_init_43 (by decide) (Nat.le_of_ble_eq_true rfl) (Nat.le_of_ble_eq_true rfl) (fun T10 I10 J10 P10 gi => ?_)
  refine V.dup dX10_init_46 rfl ?_
  refine V.ini cn_X10_30 (k_X8 gi) dX10_init_47 rfl rfl (Nat.le_of_ble_eq_true rfl) (by decide) (by decide) (Nat.le_of_ble_eq_true rfl) (Nat.le_of_ble_eq_true rfl) (fun _ h11 hq => ?_)
  obtain ⟨n11, T11, I11, J11, P11⟩ := h11
  obtain ⟨rfl, g11⟩ := hq
  have g := g.join g11 (m2 := 13) rfl
  obtain rfl : n11 = a + 13 := g.1
  clear g11 gi
  refine V.putrG g 6 (by omega) (by decide) rfl fl_X10_31 dX10_init_50 (by decide) (fun _ => ⟨rfl, _, rfl⟩) rfl rfl rfl (Nat.le_of_ble_eq_true rfl) (fun P12 g => ?_)
  refine V.aload_n dX10_init_53 rfl ?_
  refine V.newG nl_X10_28 dX10_init_54 (by decide) (Nat.le_of_ble_eq_true rfl) (Nat.le_of_ble_eq_true rfl) (fun T13 I13 J13 P13 gi => ?_)
  refine V.dup dX10_init_57 rfl ?_
  refine V.ini cn_X10_30 (k_X8 gi) dX10_init_58 rfl rfl (Nat.le_of_ble_eq_true rfl) (by decide) (by decide) (Nat.le_of_ble_eq_true rfl) (Nat.le_of_ble_eq_true rfl) (fun _ h14 hq => ?_)
  obtain ⟨n14, T14, I14, J14, P14⟩ := h14
  obtain ⟨rfl, g14⟩ := hq
  have g := g.join g14 (m2 := 20) rfl
  obtain rfl : n14 = a + 20 := g.1
  clear g14 gi
  refine V.putrG g 13 (by omega) (by decide) rfl fl_X10_35 dX10_init_61 (by decide) (fun _ => ⟨rfl, _, rfl⟩) rfl rfl rfl (Nat.le_of_ble_eq_true rfl) (fun P15 g => ?_)
  exact V.vret dX10_init_64 rfl (Nat.le_of_ble_eq_true rfl) (Nat.le_of_ble_eq_true rfl) ⟨rfl, g⟩
theorem dX4_init_0 : decode cX4_init 0 = .ok (.aload_n 0, 1) := by decide +kernel
theorem dX4_init_1 : decode cX4_init 1 = .ok (.invokespecial 3, 3) := by decide +kernel
theorem dX4_init_4 : decode cX4_init 4 = .ok (.aload_n 0, 1) := by decide +kernel
theorem dX4_init_5 : decode cX4_init 5 = .ok (.new 9, 3) := by decide +kernel
theorem dX4_init_8 : decode cX4_init 8 = .ok (.dup, 1) := by decide +kernel
theorem dX4_init_9 : decode cX4_init 9 = .ok (.invokespecial 11, 3) := by decide +kernel
theorem dX4_init_12 : decode cX4_init 12 = .ok (.putfield 12, 3) := by decide +kernel
theorem dX4_init_15 : decode cX4_init 15 = .ok (.aload_n 0, 1) := by decide +kernel
theorem dX4_init_16 : decode cX4_init 16 = .ok (.bipush 7, 2) := by decide +kernel
theorem dX4_init_18 : decode cX4_init 18 = .ok (.newarray .int, 2) := by decide +kernel
theorem dX4_init_20 : decode cX4_init 20 = .ok (.putfield 18, 3) := by decide +kernel
theorem dX4_init_23 : decode cX4_init 23 = .ok (.aload_n 0, 1) := by decide +kernel
theorem dX4_init_24 : decode cX4_init 24 = .ok (.bipush 6, 2) := by decide +kernel
theorem dX4_init_26 : decode cX4_init 26 = .ok (.newarray .int, 2) := by decide +kernel
theorem dX4_init_28 : decode cX4_init 28 = .ok (.putfield 22, 3) := by decide +kernel
theorem dX4_init_31 : decode cX4_init 31 = .ok (.aload_n 0, 1) := by decide +kernel
theorem dX4_init_32 : decode cX4_init 32 = .ok (.aload_n 1, 1) := by decide +kernel
theorem dX4_init_33 : decode cX4_init 33 = .ok (.putfield 25, 3) := by decide +kernel
theorem dX4_init_36 : decode cX4_init 36 = .ok (.return_, 1) := by decide +kernel
def shc4 : Nat → Option (Nat × Nat) := (u1 (u1 (jn (sh1 4) 1 shc3) 3 (some (20, 7))) 4 (some (20, 6)))
def ivc4 : Nat → Nat → Int32 := (u1 (u1 (jn (zz2 0) 1 ivc3) 3 (fun _ => 0)) 4 (fun _ => 0))
def rfc4 (w : Int) : Nat → Nat → Option Int := (u2 (u2 (u1 (u2 (u1 (u2 (jr (zz2 none) 1 (rfc3)) 0 0 (some (1))) 3 (fun _ => none)) 0 2 (some (3))) 4 (fun _ => none)) 0 7 (some (4))) 0 1 (some (w)))
theorem k_X4 {l : Launch} {D : va_G} {E : Nat → ClassId} {B : Nat → Prop} {a : Nat} {h0 : HT} {T I J P} {lv : Nat} {w : Int} (hw : ((a : Int) + w).toNat = lv) (g : Gb a 1 (sh1 4) (zz2 0) (zz2 none) h0 (a + 1, T, I, J, P)) : Ct l D E B yX4_init cX4_init 2 none 2 4 19 [.ref a, .ref lv] (a + 1, T, I, J, P) (fun v h => v = none ∧ Gb a 5 shc4 ivc4 (rfc4 w) h0 h) := by
  refine Ct.ofV (by decide) (Nat.le_of_ble_eq_true rfl) ?_
  refine V.aload_n dX4_init_0 rfl ?_
  refine V.obj0 koi_X4 dX4_init_1 (by decide) (by decide) ?_
  refine V.aload_n dX4_init_4 rfl ?_
  refine V.newG nl_X4_9 dX4_init_5 (by decide) (Nat.le_of_ble_eq_true rfl) (Nat.le_of_ble_eq_true rfl) (fun T1 I1 J1 P1 gi => ?_)
  refine V.dup dX4_init_8 rfl ?_
  refine V.ini cn_X4_11 (k_X3 gi) dX4_init_9 rfl rfl (Nat.le_of_ble_eq_true rfl) (by decide) (by decide) (Nat.le_of_ble_eq_true rfl) (Nat.le_of_ble_eq_true rfl) (fun _ h2 hq => ?_)
  obtain ⟨n2, T2, I2, J2, P2⟩ := h2
  obtain ⟨rfl, g2⟩ := hq
  have g := g.join g2 (m2 := 3) rfl
  obtain rfl : n2 = a + 3 := g.1
  clear g2 gi
  refine V.putrG g 1 (by omega) (by decide) rfl fl_X4_12 dX4_init_12 (by decide) (fun _ => ⟨rfl, _, rfl⟩) rfl rfl rfl (Nat.le_of_ble_eq_true rfl) (fun P3 g => ?_)
  refine V.aload_n dX4_init_15 rfl ?_
  refine V.bipush (v := 7) dX4_init_16 (by decide) ?_
  refine V.newIG (m1 := 4) g rfl dX4_init_18 (by decide) (len := 7) (by decide) (by decide) (Nat.le_of_ble_eq_true rfl) (Nat.le_of_ble_eq_true rfl) (fun T4 I4 J4 P4 g => ?_)
  refine V.putrG g 3 (by omega) (by decide) rfl fl_X4_18 dX4_init_20 (by decide) (fun _ => ⟨rfl, _, rfl⟩) rfl rfl rfl (Nat.le_of_ble_eq_true rfl) (fun P5 g => ?_)
  refine V.aload_n dX4_init_23 rfl ?_
  refine V.bipush (v := 6) dX4_init_24 (by decide) ?_
  refine V.newIG (m1 := 5) g rfl dX4_init_26 (by decide) (len := 6) (by decide) (by decide) (Nat.le_of_ble_eq_true rfl) (Nat.le_of_ble_eq_true rfl) (fun T6 I6 J6 P6 g => ?_)
  refine V.putrG g 4 (by omega) (by decide) rfl fl_X4_22 dX4_init_28 (by decide) (fun _ => ⟨rfl, _, rfl⟩) rfl rfl rfl (Nat.le_of_ble_eq_true rfl) (fun P7 g => ?_)
  refine V.aload_n dX4_init_31 rfl ?_
  refine V.aload_n dX4_init_32 rfl ?_
  refine V.putrG g w hw (by decide) rfl fl_X4_25 dX4_init_33 (by decide) (fun _ => ⟨rfl, _, rfl⟩) rfl rfl rfl (Nat.le_of_ble_eq_true rfl) (fun P8 g => ?_)
  exact V.vret dX4_init_36 rfl (Nat.le_of_ble_eq_true rfl) (Nat.le_of_ble_eq_true rfl) ⟨rfl, g⟩
theorem dX0_init_0 : decode cX0_init 0 = .ok (.aload_n 0, 1) := by decide +kernel
theorem dX0_init_1 : decode cX0_init 1 = .ok (.invokespecial 3, 3) := by decide +kernel
theorem dX0_init_4 : decode cX0_init 4 = .ok (.aload_n 0, 1) := by decide +kernel
theorem dX0_init_5 : decode cX0_init 5 = .ok (.new 9, 3) := by decide +kernel
theorem dX0_init_8 : decode cX0_init 8 = .ok (.dup, 1) := by decide +kernel
theorem dX0_init_9 : decode cX0_init 9 = .ok (.invokespecial 11, 3) := by decide +kernel
theorem dX0_init_12 : decode cX0_init 12 = .ok (.putfield 12, 3) := by decide +kernel
theorem dX0_init_15 : decode cX0_init 15 = .ok (.aload_n 0, 1) := by decide +kernel
theorem dX0_init_16 : decode cX0_init 16 = .ok (.bipush 6, 2) := by decide +kernel
theorem dX0_init_18 : decode cX0_init 18 = .ok (.newarray .long, 2) := by decide +kernel
theorem dX0_init_20 : decode cX0_init 20 = .ok (.putfield 18, 3) := by decide +kernel
theorem dX0_init_23 : decode cX0_init 23 = .ok (.aload_n 0, 1) := by decide +kernel
theorem dX0_init_24 : decode cX0_init 24 = .ok (.bipush 7, 2) := by decide +kernel
theorem dX0_init_26 : decode cX0_init 26 = .ok (.newarray .long, 2) := by decide +kernel
theorem dX0_init_28 : decode cX0_init 28 = .ok (.putfield 22, 3) := by decide +kernel
theorem dX0_init_31 : decode cX0_init 31 = .ok (.aload_n 0, 1) := by decide +kernel
theorem dX0_init_32 : decode cX0_init 32 = .ok (.aload_n 1, 1) := by decide +kernel
theorem dX0_init_33 : decode cX0_init 33 = .ok (.putfield 25, 3) := by decide +kernel
theorem dX0_init_36 : decode cX0_init 36 = .ok (.return_, 1) := by decide +kernel
def shc0 : Nat → Option (Nat × Nat) := (u1 (u1 (jn (sh1 0) 1 shc3) 3 (some (22, 6))) 4 (some (22, 7)))
def ivc0 : Nat → Nat → Int32 := (u1 (u1 (jn (zz2 0) 1 ivc3) 3 (fun _ => 0)) 4 (fun _ => 0))
def rfc0 (w : Int) : Nat → Nat → Option Int := (u2 (u2 (u1 (u2 (u1 (u2 (jr (zz2 none) 1 (rfc3)) 0 0 (some (1))) 3 (fun _ => none)) 0 1 (some (3))) 4 (fun _ => none)) 0 4 (some (4))) 0 3 (some (w)))
theorem k_X0 {l : Launch} {D : va_G} {E : Nat → ClassId} {B : Nat → Prop} {a : Nat} {h0 : HT} {T I J P} {lv : Nat} {w : Int} (hw : ((a : Int) + w).toNat = lv) (g : Gb a 1 (sh1 0) (zz2 0) (zz2 none) h0 (a + 1, T, I, J, P)) : Ct l D E B yX0_init cX0_init 2 none 2 4 19 [.ref a, .ref lv] (a + 1, T, I, J, P) (fun v h => v = none ∧ Gb a 5 shc0 ivc0 (rfc0 w) h0 h) := by
  refine Ct.ofV (by decide) (Nat.le_of_ble_eq_true rfl) ?_
  refine V.aload_n dX0_init_0 rfl ?_
  refine V.obj0 koi_X0 dX0_init_1 (by decide) (by decide) ?_
  refine V.aload_n dX0_init_4 rfl ?_
  refine V.newG nl_X0_9 dX0_init_5 (by decide) (Nat.le_of_ble_eq_true rfl) (Nat.le_of_ble_eq_true rfl) (fun T1 I1 J1 P1 gi => ?_)
  refine V.dup dX0_init_8 rfl ?_
  refine V.ini cn_X0_11 (k_X3 gi) dX0_init_9 rfl rfl (Nat.le_of_ble_eq_true rfl) (by decide) (by decide) (Nat.le_of_ble_eq_true rfl) (Nat.le_of_ble_eq_true rfl) (fun _ h2 hq => ?_)
  obtain ⟨n2, T2, I2, J2, P2⟩ := h2
  obtain ⟨rfl, g2⟩ := hq
  have g := g.join g2 (m2 := 3) rfl
  obtain rfl : n2 = a + 3 := g.1
  clear g2 gi
  refine V.putrG g 1 (by omega) (by decide) rfl fl_X0_12 dX0_init_12 (by decide) (fun _ => ⟨rfl, _, rfl⟩) rfl rfl rfl (Nat.le_of_ble_eq_true rfl) (fun P3 g => ?_)
  refine V.aload_n dX0_init_15 rfl ?_
  refine V.bipush (v := 6) dX0_init_16 (by decide) ?_
  refine V.newJG (m1 := 4) g rfl dX0_init_18 (by decide) (len := 6) (by decide) (by decide) (Nat.le_of_ble_eq_true rfl) (Nat.le_of_ble_eq_true rfl) (fun T4 I4 J4 P4 g => ?_)
  refine V.putrG g 3 (by omega) (by decide) rfl fl_X0_18 dX0_init_20 (by decide) (fun _ => ⟨rfl, _, rfl⟩) rfl rfl rfl (Nat.le_of_ble_eq_true rfl) (fun P5 g => ?_)
  refine V.aload_n dX0_init_23 rfl ?_
  refine V.bipush (v := 7) dX0_init_24 (by decide) ?_
  refine V.newJG (m1 := 5) g rfl dX0_init_26 (by decide) (len := 7) (by decide) (by decide) (Nat.le_of_ble_eq_true rfl) (Nat.le_of_ble_eq_true rfl) (fun T6 I6 J6 P6 g => ?_)
  refine V.putrG g 4 (by omega) (by decide) rfl fl_X0_22 dX0_init_28 (by decide) (fun _ => ⟨rfl, _, rfl⟩) rfl rfl rfl (Nat.le_of_ble_eq_true rfl) (fun P7 g => ?_)
  refine V.aload_n dX0_init_31 rfl ?_
  refine V.aload_n dX0_init_32 rfl ?_
  refine V.putrG g w hw (by decide) rfl fl_X0_25 dX0_init_33 (by decide) (fun _ => ⟨rfl, _, rfl⟩) rfl rfl rfl (Nat.le_of_ble_eq_true rfl) (fun P8 g => ?_)
  exact V.vret dX0_init_36 rfl (Nat.le_of_ble_eq_true rfl) (Nat.le_of_ble_eq_true rfl) ⟨rfl, g⟩
theorem dX11_init_0 : decode cX11_init 0 = .ok (.aload_n 0, 1) := by decide +kernel
theorem dX11_init_1 : decode cX11_init 1 = .ok (.invokespecial 1, 3) := by decide +kernel
theorem dX11_init_4 : decode cX11_init 4 = .ok (.aload_n 0, 1) := by decide +kernel
theorem dX11_init_5 : decode cX11_init 5 = .ok (.sipush 900, 3) := by decide +kernel
theorem dX11_init_8 : decode cX11_init 8 = .ok (.newarray .byte, 2) := by decide +kernel
theorem dX11_init_10 : decode cX11_init 10 = .ok (.putfield 9, 3) := by decide +kernel
theorem dX11_init_13 : decode cX11_init 13 = .ok (.aload_n 0, 1) := by decide +kernel
theorem dX11_init_14 : decode cX11_init 14 = .ok (.new 13, 3) := by decide +kernel
theorem dX11_init_17 : decode cX11_init 17 = .ok (.dup, 1) := by decide +kernel
theorem dX11_init_18 : decode cX11_init 18 = .ok (.invokespecial 15, 3) := by decide +kernel
theorem dX11_init_21 : decode cX11_init 21 = .ok (.putfield 16, 3) := by decide +kernel
theorem dX11_init_24 : decode cX11_init 24 = .ok (.aload_n 0, 1) := by decide +kernel
theorem dX11_init_25 : decode cX11_init 25 = .ok (.new 20, 3) := by decide +kernel
theorem dX11_init_28 : decode cX11_init 28 = .ok (.dup, 1) := by decide +kernel
theorem dX11_init_29 : decode cX11_init 29 = .ok (.invokespecial 22, 3) := by decide +kernel
theorem dX11_init_32 : decode cX11_init 32 = .ok (.putfield 23, 3) := by decide +kernel
theorem dX11_init_35 : decode cX11_init 35 = .ok (.aload_n 0, 1) := by decide +kernel
theorem dX11_init_36 : decode cX11_init 36 = .ok (.new 27, 3) := by decide +kernel
theorem dX11_init_39 : decode cX11_init 39 = .ok (.dup, 1) := by decide +kernel
theorem dX11_init_40 : decode cX11_init 40 = .ok (.invokespecial 29, 3) := by decide +kernel
theorem dX11_init_43 : decode cX11_init 43 = .ok (.putfield 30, 3) := by decide +kernel
theorem dX11_init_46 : decode cX11_init 46 = .ok (.aload_n 0, 1) := by decide +kernel
theorem dX11_init_47 : decode cX11_init 47 = .ok (.new 34, 3) := by decide +kernel
theorem dX11_init_50 : decode cX11_init 50 = .ok (.dup, 1) := by decide +kernel
theorem dX11_init_51 : decode cX11_init 51 = .ok (.invokespecial 36, 3) := by decide +kernel
theorem dX11_init_54 : decode cX11_init 54 = .ok (.putfield 37, 3) := by decide +kernel
theorem dX11_init_57 : decode cX11_init 57 = .ok (.aload_n 0, 1) := by decide +kernel
theorem dX11_init_58 : decode cX11_init 58 = .ok (.iconst 4, 1) := by decide +kernel
theorem dX11_init_59 : decode cX11_init 59 = .ok (.anewarray 41, 3) := by decide +kernel
theorem dX11_init_62 : decode cX11_init 62 = .ok (.putfield 43, 3) := by decide +kernel
theorem dX11_init_65 : decode cX11_init 65 = .ok (.aload_n 0, 1) := by decide +kernel
theorem dX11_init_66 : decode cX11_init 66 = .ok (.iconst 2, 1) := by decide +kernel
theorem dX11_init_67 : decode cX11_init 67 = .ok (.anewarray 20, 3) := by decide +kernel
theorem dX11_init_70 : decode cX11_init 70 = .ok (.putfield 47, 3) := by decide +kernel
theorem dX11_init_73 : decode cX11_init 73 = .ok (.aload_n 0, 1) := by decide +kernel
theorem dX11_init_74 : decode cX11_init 74 = .ok (.iconst 2, 1) := by decide +kernel
theorem dX11_init_75 : decode cX11_init 75 = .ok (.anewarray 27, 3) := by decide +kernel
theorem dX11_init_78 : decode cX11_init 78 = .ok (.putfield 51, 3) := by decide +kernel
theorem dX11_init_81 : decode cX11_init 81 = .ok (.aload_n 0, 1) := by decide +kernel
theorem dX11_init_82 : decode cX11_init 82 = .ok (.iconst 1, 1) := by decide +kernel
theorem dX11_init_83 : decode cX11_init 83 = .ok (.putfield 55, 3) := by decide +kernel
theorem dX11_init_86 : decode cX11_init 86 = .ok (.aload_n 0, 1) := by decide +kernel
theorem dX11_init_87 : decode cX11_init 87 = .ok (.new 27, 3) := by decide +kernel
theorem dX11_init_90 : decode cX11_init 90 = .ok (.dup, 1) := by decide +kernel
theorem dX11_init_91 : decode cX11_init 91 = .ok (.invokespecial 29, 3) := by decide +kernel
theorem dX11_init_94 : decode cX11_init 94 = .ok (.putfield 59, 3) := by decide +kernel
theorem dX11_init_97 : decode cX11_init 97 = .ok (.aload_n 0, 1) := by decide +kernel
theorem dX11_init_98 : decode cX11_init 98 = .ok (.new 27, 3) := by decide +kernel
theorem dX11_init_101 : decode cX11_init 101 = .ok (.dup, 1) := by decide +kernel
theorem dX11_init_102 : decode cX11_init 102 = .ok (.invokespecial 29, 3) := by decide +kernel
theorem dX11_init_105 : decode cX11_init 105 = .ok (.putfield 62, 3) := by decide +kernel
theorem dX11_init_108 : decode cX11_init 108 = .ok (.aload_n 0, 1) := by decide +kernel
theorem dX11_init_109 : decode cX11_init 109 = .ok (.new 65, 3) := by decide +kernel
theorem dX11_init_112 : decode cX11_init 112 = .ok (.dup, 1) := by decide +kernel
theorem dX11_init_113 : decode cX11_init 113 = .ok (.invokespecial 67, 3) := by decide +kernel
theorem dX11_init_116 : decode cX11_init 116 = .ok (.putfield 68, 3) := by decide +kernel
theorem dX11_init_119 : decode cX11_init 119 = .ok (.aload_n 0, 1) := by decide +kernel
theorem dX11_init_120 : decode cX11_init 120 = .ok (.new 72, 3) := by decide +kernel
theorem dX11_init_123 : decode cX11_init 123 = .ok (.dup, 1) := by decide +kernel
theorem dX11_init_124 : decode cX11_init 124 = .ok (.invokespecial 74, 3) := by decide +kernel
theorem dX11_init_127 : decode cX11_init 127 = .ok (.putfield 75, 3) := by decide +kernel
theorem dX11_init_130 : decode cX11_init 130 = .ok (.aload_n 0, 1) := by decide +kernel
theorem dX11_init_131 : decode cX11_init 131 = .ok (.bipush 100, 2) := by decide +kernel
theorem dX11_init_133 : decode cX11_init 133 = .ok (.newarray .boolean, 2) := by decide +kernel
theorem dX11_init_135 : decode cX11_init 135 = .ok (.putfield 79, 3) := by decide +kernel
theorem dX11_init_138 : decode cX11_init 138 = .ok (.iconst 0, 1) := by decide +kernel
theorem dX11_init_139 : decode cX11_init 139 = .ok (.istore_n 1, 1) := by decide +kernel
theorem dX11_init_140 : decode cX11_init 140 = .ok (.iload_n 1, 1) := by decide +kernel
theorem dX11_init_141 : decode cX11_init 141 = .ok (.iconst 4, 1) := by decide +kernel
theorem dX11_init_142 : decode cX11_init 142 = .ok (.if_icmp .ge 22, 3) := by decide +kernel
theorem dX11_init_145 : decode cX11_init 145 = .ok (.aload_n 0, 1) := by decide +kernel
theorem dX11_init_146 : decode cX11_init 146 = .ok (.getfield 43, 3) := by decide +kernel
theorem dX11_init_149 : decode cX11_init 149 = .ok (.iload_n 1, 1) := by decide +kernel
theorem dX11_init_150 : decode cX11_init 150 = .ok (.new 41, 3) := by decide +kernel
theorem dX11_init_153 : decode cX11_init 153 = .ok (.dup, 1) := by decide +kernel
theorem dX11_init_154 : decode cX11_init 154 = .ok (.invokespecial 83, 3) := by decide +kernel
theorem dX11_init_157 : decode cX11_init 157 = .ok (.aastore, 1) := by decide +kernel
theorem dX11_init_158 : decode cX11_init 158 = .ok (.iinc 1 1, 3) := by decide +kernel
theorem dX11_init_161 : decode cX11_init 161 = .ok (.goto (-21), 3) := by decide +kernel
theorem dX11_init_164 : decode cX11_init 164 = .ok (.iconst 0, 1) := by decide +kernel
theorem dX11_init_165 : decode cX11_init 165 = .ok (.istore_n 1, 1) := by decide +kernel
theorem dX11_init_166 : decode cX11_init 166 = .ok (.iload_n 1, 1) := by decide +kernel
theorem dX11_init_167 : decode cX11_init 167 = .ok (.iconst 2, 1) := by decide +kernel
theorem dX11_init_168 : decode cX11_init 168 = .ok (.if_icmp .ge 22, 3) := by decide +kernel
theorem dX11_init_171 : decode cX11_init 171 = .ok (.aload_n 0, 1) := by decide +kernel
theorem dX11_init_172 : decode cX11_init 172 = .ok (.getfield 51, 3) := by decide +kernel
theorem dX11_init_175 : decode cX11_init 175 = .ok (.iload_n 1, 1) := by decide +kernel
theorem dX11_init_176 : decode cX11_init 176 = .ok (.new 27, 3) := by decide +kernel
theorem dX11_init_179 : decode cX11_init 179 = .ok (.dup, 1) := by decide +kernel
theorem dX11_init_180 : decode cX11_init 180 = .ok (.invokespecial 29, 3) := by decide +kernel
theorem dX11_init_183 : decode cX11_init 183 = .ok (.aastore, 1) := by decide +kernel
theorem dX11_init_184 : decode cX11_init 184 = .ok (.iinc 1 1, 3) := by decide +kernel
theorem dX11_init_187 : decode cX11_init 187 = .ok (.goto (-21), 3) := by decide +kernel
theorem dX11_init_190 : decode cX11_init 190 = .ok (.bipush 8, 2) := by decide +kernel
theorem dX11_init_192 : decode cX11_init 192 = .ok (.anewarray 27, 3) := by decide +kernel
theorem dX11_init_195 : decode cX11_init 195 = .ok (.astore_n 1, 1) := by decide +kernel
theorem dX11_init_196 : decode cX11_init 196 = .ok (.iconst 0, 1) := by decide +kernel
theorem dX11_init_197 : decode cX11_init 197 = .ok (.istore_n 2, 1) := by decide +kernel
theorem dX11_init_198 : decode cX11_init 198 = .ok (.iload_n 2, 1) := by decide +kernel
theorem dX11_init_199 : decode cX11_init 199 = .ok (.aload_n 1, 1) := by decide +kernel
theorem dX11_init_200 : decode cX11_init 200 = .ok (.arraylength, 1) := by decide +kernel
theorem dX11_init_201 : decode cX11_init 201 = .ok (.if_icmp .ge 19, 3) := by decide +kernel
theorem dX11_init_204 : decode cX11_init 204 = .ok (.aload_n 1, 1) := by decide +kernel
theorem dX11_init_205 : decode cX11_init 205 = .ok (.iload_n 2, 1) := by decide +kernel
theorem dX11_init_206 : decode cX11_init 206 = .ok (.new 27, 3) := by decide +kernel
theorem dX11_init_209 : decode cX11_init 209 = .ok (.dup, 1) := by decide +kernel
theorem dX11_init_210 : decode cX11_init 210 = .ok (.invokespecial 29, 3) := by decide +kernel
theorem dX11_init_213 : decode cX11_init 213 = .ok (.aastore, 1) := by decide +kernel
theorem dX11_init_214 : decode cX11_init 214 = .ok (.iinc 2 1, 3) := by decide +kernel
theorem dX11_init_217 : decode cX11_init 217 = .ok (.goto (-19), 3) := by decide +kernel
theorem dX11_init_220 : decode cX11_init 220 = .ok (.aload_n 0, 1) := by decide +kernel
theorem dX11_init_221 : decode cX11_init 221 = .ok (.new 84, 3) := by decide +kernel
theorem dX11_init_224 : decode cX11_init 224 = .ok (.dup, 1) := by decide +kernel
theorem dX11_init_225 : decode cX11_init 225 = .ok (.aload_n 1, 1) := by decide +kernel
theorem dX11_init_226 : decode cX11_init 226 = .ok (.invokespecial 86, 3) := by decide +kernel
theorem dX11_init_229 : decode cX11_init 229 = .ok (.putfield 89, 3) := by decide +kernel
theorem dX11_init_232 : decode cX11_init 232 = .ok (.aload_n 0, 1) := by decide +kernel
theorem dX11_init_233 : decode cX11_init 233 = .ok (.new 93, 3) := by decide +kernel
theorem dX11_init_236 : decode cX11_init 236 = .ok (.dup, 1) := by decide +kernel
theorem dX11_init_237 : decode cX11_init 237 = .ok (.aload_n 1, 1) := by decide +kernel
theorem dX11_init_238 : decode cX11_init 238 = .ok (.invokespecial 95, 3) := by decide +kernel
theorem dX11_init_241 : decode cX11_init 241 = .ok (.putfield 96, 3) := by decide +kernel
theorem dX11_init_244 : decode cX11_init 244 = .ok (.return_, 1) := by decide +kernel
def shc11 : Nat → Option (Nat × Nat) := (jn (jn (jn (jn (jn (jn (jn (jn (jn (jn (u1 (jn (jn (jn (jn (jn (jn (u1 (jn (jn (jn (jn (u1 (u1 (u1 (jn (jn (jn (jn (u1 (sh1 11) 1 (some (21, 900))) 2 shc7) 4 shc1) 12 shc8) 19 shc6) 91 (some (26, 4))) 92 (some (24, 2))) 93 (some (25, 2))) 94 shc8) 101 shc8) 108 shc5) 114 shc10) 134 (some (23, 100))) 135 shc9) 137 shc9) 139 shc9) 141 shc9) 143 shc8) 150 shc8) 157 (some (25, 8))) 158 shc8) 165 shc8) 172 shc8) 179 shc8) 186 shc8) 193 shc8) 200 shc8) 207 shc8) 214 shc4) 219 shc0)
def ivc11 : Nat → Nat → Int32 := (jn (jn (jn (jn (jn (jn (jn (jn (jn (jn (u1 (jn (jn (jn (jn (jn (jn (u1 (jn (jn (jn (jn (u2 (u1 (u1 (u1 (jn (jn (jn (jn (u1 (zz2 0) 1 (fun _ => 0)) 2 ivc7) 4 ivc1) 12 ivc8) 19 ivc6) 91 (fun _ => 0)) 92 (fun _ => 0)) 93 (fun _ => 0)) 0 9 (1)) 94 ivc8) 101 ivc8) 108 ivc5) 114 ivc10) 134 (fun _ => 0)) 135 ivc9) 137 ivc9) 139 ivc9) 141 ivc9) 143 ivc8) 150 ivc8) 157 (fun _ => 0)) 158 ivc8) 165 ivc8) 172 ivc8) 179 ivc8) 186 ivc8) 193 ivc8) 200 ivc8) 207 ivc8) 214 ivc4) 219 ivc0)
def rfc11 : Nat → Nat → Option Int := (u2 (jr (u2 (jr (u2 (jr (u2 (jr (u2 (jr (u2 (jr (u2 (jr (u2 (jr (u2 (jr (u2 (jr (u1 (u2 (jr (u2 (jr (u2 (jr (u2 (jr (u2 (jr (u2 (jr (u2 (u1 (u2 (jr (u2 (jr (u2 (jr (u2 (jr (u2 (u1 (u2 (u1 (u2 (u1 (u2 (jr (u2 (jr (u2 (jr (u2 (jr (u2 (u1 (zz2 none) 1 (fun _ => none)) 0 0 (some (1))) 2 (rfc7)) 0 2 (some (2))) 4 (rfc1)) 0 3 (some (4))) 12 (rfc8)) 0 4 (some (12))) 19 (rfc6)) 0 5 (some (19))) 91 (fun _ => none)) 0 6 (some (91))) 92 (fun _ => none)) 0 7 (some (92))) 93 (fun _ => none)) 0 8 (some (93))) 94 (rfc8)) 0 11 (some (94))) 101 (rfc8)) 0 12 (some (101))) 108 (rfc5)) 0 13 (some (108))) 114 (rfc10)) 0 16 (some (114))) 134 (fun _ => none)) 0 17 (some (134))) 135 (rfc9)) 91 0 (some (135))) 137 (rfc9)) 91 1 (some (137))) 139 (rfc9)) 91 2 (some (139))) 141 (rfc9)) 91 3 (some (141))) 143 (rfc8)) 93 0 (some (143))) 150 (rfc8)) 93 1 (some (150))) 157 (fun _ => none)) 158 (rfc8)) 157 0 (some (158))) 165 (rfc8)) 157 1 (some (165))) 172 (rfc8)) 157 2 (some (172))) 179 (rfc8)) 157 3 (some (179))) 186 (rfc8)) 157 4 (some (186))) 193 (rfc8)) 157 5 (some (193))) 200 (rfc8)) 157 6 (some (200))) 207 (rfc8)) 157 7 (some (207))) 214 (rfc4 (-57))) 0 14 (some (214))) 219 (rfc0 (-62))) 0 15 (some (219)))
theorem k_X11 {l : Launch} {D : va_G} {E : Nat → ClassId} {B : Nat → Prop} {a : Nat} {h0 : HT} {T I J P} (g : Gb a 1 (sh1 11) (zz2 0) (zz2 none) h0 (a + 1, T, I, J, P)) : Ct l D E B yX11_init cX11_init 3 none 3 223 4818 [.ref a] (a + 1, T, I, J, P) (fun v h => v = none ∧ Gb a 224 shc11 ivc11 (rfc11) h0 h) := by
  refine Ct.ofV (by decide) (Nat.le_of_ble_eq_true rfl) ?_
  refine V.aload_n dX11_init_0 rfl ?_
  refine V.obj0 koi_X11 dX11_init_1 (by decide) (by decide) ?_
  refine V.aload_n dX11_init_4 rfl ?_
  refine V.sipush (v := 900) dX11_init_5 (by decide) ?_
  refine V.newBG (m1 := 2) g rfl dX11_init_8 (by decide) (len := 900) (by decide) (by decide) (Nat.le_of_ble_eq_true rfl) (Nat.le_of_ble_eq_true rfl) (fun T1 I1 J1 P1 g => ?_)
  refine V.putrG g 1 (by omega) (by decide) rfl fl_X11_9 dX11_init_10 (by decide) (fun _ => ⟨rfl, _, rfl⟩) rfl rfl rfl (Nat.le_of_ble_eq_true rfl) (fun P2 g => ?_)
  refine V.aload_n dX11_init_13 rfl ?_
  refine V.newG nl_X11_13 dX11_init_14 (by decide) (Nat.le_of_ble_eq_true rfl) (Nat.le_of_ble_eq_true rfl) (fun T3 I3 J3 P3 gi => ?_)
  refine V.dup dX11_init_17 rfl ?_
  refine V.ini cn_X11_15 (k_X7 gi) dX11_init_18 rfl rfl (Nat.le_of_ble_eq_true rfl) (by decide) (by decide) (Nat.le_of_ble_eq_true rfl) (Nat.le_of_ble_eq_true rfl) (fun _ h4 hq => ?_)
  obtain ⟨n4, T4, I4, J4, P4⟩ := h4
  obtain ⟨rfl, g4⟩ := hq
  have g := g.join g4 (m2 := 4) rfl
  obtain rfl : n4 = a + 4 := g.1
  clear g4 gi
  refine V.putrG g 2 (by omega) (by decide) rfl fl_X11_16 dX11_init_21 (by decide) (fun _ => ⟨rfl, _, rfl⟩) rfl rfl rfl (Nat.le_of_ble_eq_true rfl) (fun P5 g => ?_)
  refine V.aload_n dX11_init_24 rfl ?_
  refine V.newG nl_X11_20 dX11_init_25 (by decide) (Nat.le_of_ble_eq_true rfl) (Nat.le_of_ble_eq_true rfl) (fun T6 I6 J6 P6 gi => ?_)
  refine V.dup dX11_init_28 rfl ?_
  refine V.ini cn_X11_22 (k_X1 gi) dX11_init_29 rfl rfl (Nat.le_of_ble_eq_true rfl) (by decide) (by decide) (Nat.le_of_ble_eq_true rfl) (Nat.le_of_ble_eq_true rfl) (fun _ h7 hq => ?_)
  obtain ⟨n7, T7, I7, J7, P7⟩ := h7
  obtain ⟨rfl, g7⟩ := hq
  have g := g.join g7 (m2 := 12) rfl
  obtain rfl : n7 = a + 12 := g.1
  clear g7 gi
  refine V.putrG g 4 (by omega) (by decide) rfl fl_X11_23 dX11_init_32 (by decide) (fun _ => ⟨rfl, _, rfl⟩) rfl rfl rfl (Nat.le_of_ble_eq_true rfl) (fun P8 g => ?_)
  refine V.aload_n dX11_init_35 rfl ?_
  refine V.newG nl_X11_27 dX11_init_36 (by decide) (Nat.le_of_ble_eq_true rfl) (Nat.le_of_ble_eq_true rfl) (fun T9 I9 J9 P9 gi => ?_)
  refine V.dup dX11_init_39 rfl ?_
  refine V.ini cn_X11_29 (k_X8 gi) dX11_init_40 rfl rfl (Nat.le_of_ble_eq_true rfl) (by decide) (by decide) (Nat.le_of_ble_eq_true rfl) (Nat.le_of_ble_eq_true rfl) (fun _ h10 hq => ?_)
  obtain ⟨n10, T10, I10, J10, P10⟩ := h10
  obtain ⟨rfl, g10⟩ := hq
  have g := g.join g10 (m2 := 19) rfl
  obtain rfl : n10 = a + 19 := g.1
  clear g10 gi
  refine V.putrG g 12 (by omega) (by decide) rfl fl_X11_30 dX11_init_43 (by decide) (fun _ => ⟨rfl, _, rfl⟩) rfl rfl rfl (Nat.le_of_ble_eq_true rfl) (fun P11 g => ?_)
  refine V.aload_n dX11_init_46 rfl ?_
  refine V.newG nl_X11_34 dX11_init_47 (by decide) (Nat.le_of_ble_eq_true rfl) (Nat.le_of_ble_eq_true rfl) (fun T12 I12 J12 P12 gi => ?_)
  refine V.dup dX11_init_50 rfl ?_
  refine V.ini cn_X11_36 (k_X6 gi) dX11_init_51 rfl rfl (Nat.le_of_ble_eq_true rfl) (by decide) (by decide) (Nat.le_of_ble_eq_true rfl) (Nat.le_of_ble_eq_true rfl) (fun _ h13 hq => ?_)
  obtain ⟨n13, T13, I13, J13, P13⟩ := h13
  obtain ⟨rfl, g13⟩ := hq
  have g := g.join g13 (m2 := 91) rfl
  obtain rfl : n13 = a + 91 := g.1
  clear g13 gi
  refine V.putrG g 19 (by omega) (by decide) rfl fl_X11_37 dX11_init_54 (by decide) (fun _ => ⟨rfl, _, rfl⟩) rfl rfl rfl (Nat.le_of_ble_eq_true rfl) (fun P14 g => ?_)
  refine V.aload_n dX11_init_57 rfl ?_
  refine V.iconst (v := 4) dX11_init_58 (by decide) ?_
  refine V.newRG (C := RX9) (t := 26) (t0 := 6) (m1 := 92) (by decide) g rfl dX11_init_59 kcl_X11_41 (by decide) (len := 4) (by decide) (by decide) (Nat.le_of_ble_eq_true rfl) (Nat.le_of_ble_eq_true rfl) (fun T15 I15 J15 P15 g => ?_)
  refine V.putrG g 91 (by omega) (by decide) rfl fl_X11_43 dX11_init_62 (by decide) (fun _ => ⟨rfl, _, rfl⟩) rfl rfl rfl (Nat.le_of_ble_eq_true rfl) (fun P16 g => ?_)
  refine V.aload_n dX11_init_65 rfl ?_
  refine V.iconst (v := 2) dX11_init_66 (by decide) ?_
  refine V.newRG (C := RX1) (t := 24) (t0 := 4) (m1 := 93) (by decide) g rfl dX11_init_67 kcl_X11_20 (by decide) (len := 2) (by decide) (by decide) (Nat.le_of_ble_eq_true rfl) (Nat.le_of_ble_eq_true rfl) (fun T17 I17 J17 P17 g => ?_)
  refine V.putrG g 92 (by omega) (by decide) rfl fl_X11_47 dX11_init_70 (by decide) (fun _ => ⟨rfl, _, rfl⟩) rfl rfl rfl (Nat.le_of_ble_eq_true rfl) (fun P18 g => ?_)
  refine V.aload_n dX11_init_73 rfl ?_
  refine V.iconst (v := 2) dX11_init_74 (by decide) ?_
  refine V.newRG (C := RX8) (t := 25) (t0 := 5) (m1 := 94) (by decide) g rfl dX11_init_75 kcl_X11_27 (by decide) (len := 2) (by decide) (by decide) (Nat.le_of_ble_eq_true rfl) (Nat.le_of_ble_eq_true rfl) (fun T19 I19 J19 P19 g => ?_)
  refine V.putrG g 93 (by omega) (by decide) rfl fl_X11_51 dX11_init_78 (by decide) (fun _ => ⟨rfl, _, rfl⟩) rfl rfl rfl (Nat.le_of_ble_eq_true rfl) (fun P20 g => ?_)
  refine V.aload_n dX11_init_81 rfl ?_
  refine V.iconst (v := 1) dX11_init_82 (by decide) ?_
  refine V.putiG g (by decide) rfl fl_X11_55 dX11_init_83 (by decide) (fun _ => ⟨rfl, _, rfl⟩) rfl rfl rfl (Nat.le_of_ble_eq_true rfl) (fun I21 g => ?_)
  refine V.aload_n dX11_init_86 rfl ?_
  refine V.newG nl_X11_27 dX11_init_87 (by decide) (Nat.le_of_ble_eq_true rfl) (Nat.le_of_ble_eq_true rfl) (fun T22 I22 J22 P22 gi => ?_)
  refine V.dup dX11_init_90 rfl ?_
  refine V.ini cn_X11_29 (k_X8 gi) dX11_init_91 rfl rfl (Nat.le_of_ble_eq_true rfl) (by decide) (by decide) (Nat.le_of_ble_eq_true rfl) (Nat.le_of_ble_eq_true rfl) (fun _ h23 hq => ?_)
  obtain ⟨n23, T23, I23, J23, P23⟩ := h23
  obtain ⟨rfl, g23⟩ := hq
  have g := g.join g23 (m2 := 101) rfl
  obtain rfl : n23 = a + 101 := g.1
  clear g23 gi
  refine V.putrG g 94 (by omega) (by decide) rfl fl_X11_59 dX11_init_94 (by decide) (fun _ => ⟨rfl, _, rfl⟩) rfl rfl rfl (Nat.le_of_ble_eq_true rfl) (fun P24 g => ?_)
  refine V.aload_n dX11_init_97 rfl ?_
  refine V.newG nl_X11_27 dX11_init_98 (by decide) (Nat.le_of_ble_eq_true rfl) (Nat.le_of_ble_eq_true rfl) (fun T25 I25 J25 P25 gi => ?_)
  refine V.dup dX11_init_101 rfl ?_
  refine V.ini cn_X11_29 (k_X8 gi) dX11_init_102 rfl rfl (Nat.le_of_ble_eq_true rfl) (by decide) (by decide) (Nat.le_of_ble_eq_true rfl) (Nat.le_of_ble_eq_true rfl) (fun _ h26 hq => ?_)
  obtain ⟨n26, T26, I26, J26, P26⟩ := h26
  obtain ⟨rfl, g26⟩ := hq
  have g := g.join g26 (m2 := 108) rfl
  obtain rfl : n26 = a + 108 := g.1
  clear g26 gi
  refine V.putrG g 101 (by omega) (by decide) rfl fl_X11_62 dX11_init_105 (by decide) (fun _ => ⟨rfl, _, rfl⟩) rfl rfl rfl (Nat.le_of_ble_eq_true rfl) (fun P27 g => ?_)
  refine V.aload_n dX11_init_108 rfl ?_
  refine V.newG nl_X11_65 dX11_init_109 (by decide) (Nat.le_of_ble_eq_true rfl) (Nat.le_of_ble_eq_true rfl) (fun T28 I28 J28 P28 gi => ?_)
  refine V.dup dX11_init_112 rfl ?_
  refine V.ini cn_X11_67 (k_X5 gi) dX11_init_113 rfl rfl (Nat.le_of_ble_eq_true rfl) (by decide) (by decide) (Nat.le_of_ble_eq_true rfl) (Nat.le_of_ble_eq_true rfl) (fun _ h29 hq => ?_)
  obtain ⟨n29, T29, I29, J29, P29⟩ := h29
  obtain ⟨rfl, g29⟩ := hq
  have g := g.join g29 (m2 := 114) rfl
  obtain rfl : n29 = a + 114 := g.1
  clear g29 gi
  refine V.putrG g 108 (by omega) (by decide) rfl fl_X11_68 dX11_init_116 (by decide) (fun _ => ⟨rfl, _, rfl⟩) rfl rfl rfl (Nat.le_of_ble_eq_true rfl) (fun P30 g => ?_)
  refine V.aload_n dX11_init_119 rfl ?_
  refine V.newG nl_X11_72 dX11_init_120 (by decide) (Nat.le_of_ble_eq_true rfl) (Nat.le_of_ble_eq_true rfl) (fun T31 I31 J31 P31 gi => ?_)
  refine V.dup dX11_init_123 rfl ?_
  refine V.ini cn_X11_74 (k_X10 gi) dX11_init_124 rfl rfl (Nat.le_of_ble_eq_true rfl) (by decide) (by decide) (Nat.le_of_ble_eq_true rfl) (Nat.le_of_ble_eq_true rfl) (fun _ h32 hq => ?_)
  obtain ⟨n32, T32, I32, J32, P32⟩ := h32
  obtain ⟨rfl, g32⟩ := hq
  have g := g.join g32 (m2 := 134) rfl
  obtain rfl : n32 = a + 134 := g.1
  clear g32 gi
  refine V.putrG g 114 (by omega) (by decide) rfl fl_X11_75 dX11_init_127 (by decide) (fun _ => ⟨rfl, _, rfl⟩) rfl rfl rfl (Nat.le_of_ble_eq_true rfl) (fun P33 g => ?_)
  refine V.aload_n dX11_init_130 rfl ?_
  refine V.bipush (v := 100) dX11_init_131 (by decide) ?_
  refine V.newZG (m1 := 135) g rfl dX11_init_133 (by decide) (len := 100) (by decide) (by decide) (Nat.le_of_ble_eq_true rfl) (Nat.le_of_ble_eq_true rfl) (fun T34 I34 J34 P34 g => ?_)
  refine V.putrG g 134 (by omega) (by decide) rfl fl_X11_79 dX11_init_135 (by decide) (fun _ => ⟨rfl, _, rfl⟩) rfl rfl rfl (Nat.le_of_ble_eq_true rfl) (fun P35 g => ?_)
  refine V.iconst (v := 0) dX11_init_138 (by decide) ?_
  refine V.istore_n dX11_init_139 rfl (by decide) (by first | exact rfl | exact trivial) ?_
  refine V.iload_n dX11_init_140 rfl ?_
  refine V.iconst (v := 4) dX11_init_141 (by decide) ?_
  refine V.icmp_ge 164 dX11_init_142 (by decide) (fun h => absurd h (by decide)) (fun _ => ?_)
  refine V.aload_n dX11_init_145 rfl ?_
  refine V.getr fl_X11_43 dX11_init_146 (g.T 0 (by decide) rfl) (g.r 0 6 (z := 91) (by decide) rfl) (by decide) rfl ?_
  refine V.iload_n dX11_init_149 rfl ?_
  refine V.newG nl_X11_41 dX11_init_150 (by decide) (Nat.le_of_ble_eq_true rfl) (Nat.le_of_ble_eq_true rfl) (fun T36 I36 J36 P36 gi => ?_)
  refine V.dup dX11_init_153 rfl ?_
  refine V.ini cn_X11_83 (k_X9 gi) dX11_init_154 rfl rfl (Nat.le_of_ble_eq_true rfl) (by decide) (by decide) (Nat.le_of_ble_eq_true rfl) (Nat.le_of_ble_eq_true rfl) (fun _ h37 hq => ?_)
  obtain ⟨n37, T37, I37, J37, P37⟩ := h37
  obtain ⟨rfl, g37⟩ := hq
  have g := g.join g37 (m2 := 137) rfl
  obtain rfl : n37 = a + 137 := g.1
  clear g37 gi
  refine V.aastG (k := 91) (j := 135) g (by decide) rfl (by decide) rfl dX11_init_157 (by decide) (vp_lit (by decide)) 0 (by decide) (fun P38 g => ?_)
  refine V.iinc (v := 1) dX11_init_158 rfl (by decide) (by first | exact rfl | exact trivial) ?_
  refine V.goto 140 dX11_init_161 (by decide) ?_
  refine V.iload_n dX11_init_140 rfl ?_
  refine V.iconst (v := 4) dX11_init_141 (by decide) ?_
  refine V.icmp_ge 164 dX11_init_142 (by decide) (fun h => absurd h (by decide)) (fun _ => ?_)
  refine V.aload_n dX11_init_145 rfl ?_
  refine V.getr fl_X11_43 dX11_init_146 (g.T 0 (by decide) rfl) (g.r 0 6 (z := 91) (by decide) rfl) (by decide) rfl ?_
  refine V.iload_n dX11_init_149 rfl ?_
  refine V.newG nl_X11_41 dX11_init_150 (by decide) (Nat.le_of_ble_eq_true rfl) (Nat.le_of_ble_eq_true rfl) (fun T39 I39 J39 P39 gi => ?_)
  refine V.dup dX11_init_153 rfl ?_
  refine V.ini cn_X11_83 (k_X9 gi) dX11_init_154 rfl rfl (Nat.le_of_ble_eq_true rfl) (by decide) (by decide) (Nat.le_of_ble_eq_true rfl) (Nat.le_of_ble_eq_true rfl) (fun _ h40 hq => ?_)
  obtain ⟨n40, T40, I40, J40, P40⟩ := h40
  obtain ⟨rfl, g40⟩ := hq
  have g := g.join g40 (m2 := 139) rfl
  obtain rfl : n40 = a + 139 := g.1
  clear g40 gi
  refine V.aastG (k := 91) (j := 137) g (by decide) rfl (by decide) rfl dX11_init_157 (by decide) (vp_lit (by decide)) 1 (by decide) (fun P41 g => ?_)
  refine V.iinc (v := 2) dX11_init_158 rfl (by decide) (by first | exact rfl | exact trivial) ?_
  refine V.goto 140 dX11_init_161 (by decide) ?_
  refine V.iload_n dX11_init_140 rfl ?_
  refine V.iconst (v := 4) dX11_init_141 (by decide) ?_
  refine V.icmp_ge 164 dX11_init_142 (by decide) (fun h => absurd h (by decide)) (fun _ => ?_)
  refine V.aload_n dX11_init_145 rfl ?_
  refine V.getr fl_X11_43 dX11_init_146 (g.T 0 (by decide) rfl) (g.r 0 6 (z := 91) (by decide) rfl) (by decide) rfl ?_
  refine V.iload_n dX11_init_149 rfl ?_
  refine V.newG nl_X11_41 dX11_init_150 (by decide) (Nat.le_of_ble_eq_true rfl) (Nat.le_of_ble_eq_true rfl) (fun T42 I42 J42 P42 gi => ?_)
  refine V.dup dX11_init_153 rfl ?_
  refine V.ini cn_X11_83 (k_X9 gi) dX11_init_154 rfl rfl (Nat.le_of_ble_eq_true rfl) (by decide) (by decide) (Nat.le_of_ble_eq_true rfl) (Nat.le_of_ble_eq_true rfl) (fun _ h43 hq => ?_)
  obtain ⟨n43, T43, I43, J43, P43⟩ := h43
  obtain ⟨rfl, g43⟩ := hq
  have g := g.join g43 (m2 := 141) rfl
  obtain rfl : n43 = a + 141 := g.1
  clear g43 gi
  refine V.aastG (k := 91) (j := 139) g (by decide) rfl (by decide) rfl dX11_init_157 (by decide) (vp_lit (by decide)) 2 (by decide) (fun P44 g => ?_)
  refine V.iinc (v := 3) dX11_init_158 rfl (by decide) (by first | exact rfl | exact trivial) ?_
  refine V.goto 140 dX11_init_161 (by decide) ?_
  refine V.iload_n dX11_init_140 rfl ?_
  refine V.iconst (v := 4) dX11_init_141 (by decide) ?_
  refine V.icmp_ge 164 dX11_init_142 (by decide) (fun h => absurd h (by decide)) (fun _ => ?_)
  refine V.aload_n dX11_init_145 rfl ?_
  refine V.getr fl_X11_43 dX11_init_146 (g.T 0 (by decide) rfl) (g.r 0 6 (z := 91) (by decide) rfl) (by decide) rfl ?_
  refine V.iload_n dX11_init_149 rfl ?_
  refine V.newG nl_X11_41 dX11_init_150 (by decide) (Nat.le_of_ble_eq_true rfl) (Nat.le_of_ble_eq_true rfl) (fun T45 I45 J45 P45 gi => ?_)
  refine V.dup dX11_init_153 rfl ?_
  refine V.ini cn_X11_83 (k_X9 gi) dX11_init_154 rfl rfl (Nat.le_of_ble_eq_true rfl) (by decide) (by decide) (Nat.le_of_ble_eq_true rfl) (Nat.le_of_ble_eq_true rfl) (fun _ h46 hq => ?_)
  obtain ⟨n46, T46, I46, J46, P46⟩ := h46
  obtain ⟨rfl, g46⟩ := hq
  have g := g.join g46 (m2 := 143) rfl
  obtain rfl : n46 = a + 143 := g.1
  clear g46 gi
  refine V.aastG (k := 91) (j := 141) g (by decide) rfl (by decide) rfl dX11_init_157 (by decide) (vp_lit (by decide)) 3 (by decide) (fun P47 g => ?_)
  refine V.iinc (v := 4) dX11_init_158 rfl (by decide) (by first | exact rfl | exact trivial) ?_
  refine V.goto 140 dX11_init_161 (by decide) ?_
  refine V.iload_n dX11_init_140 rfl ?_
  refine V.iconst (v := 4) dX11_init_141 (by decide) ?_
  refine V.icmp_ge 164 dX11_init_142 (by decide) (fun _ => ?_) (fun h => absurd (show (4 : Int32) ≤ 4 from by decide) h)
  refine V.iconst (v := 0) dX11_init_164 (by decide) ?_
  refine V.istore_n dX11_init_165 rfl (by decide) (by first | exact rfl | exact trivial) ?_
  refine V.iload_n dX11_init_166 rfl ?_
  refine V.iconst (v := 2) dX11_init_167 (by decide) ?_
  refine V.icmp_ge 190 dX11_init_168 (by decide) (fun h => absurd h (by decide)) (fun _ => ?_)
  refine V.aload_n dX11_init_171 rfl ?_
  refine V.getr fl_X11_51 dX11_init_172 (g.T 0 (by decide) rfl) (g.r 0 8 (z := 93) (by decide) rfl) (by decide) rfl ?_
  refine V.iload_n dX11_init_175 rfl ?_
  refine V.newG nl_X11_27 dX11_init_176 (by decide) (Nat.le_of_ble_eq_true rfl) (Nat.le_of_ble_eq_true rfl) (fun T48 I48 J48 P48 gi => ?_)
  refine V.dup dX11_init_179 rfl ?_
  refine V.ini cn_X11_29 (k_X8 gi) dX11_init_180 rfl rfl (Nat.le_of_ble_eq_true rfl) (by decide) (by decide) (Nat.le_of_ble_eq_true rfl) (Nat.le_of_ble_eq_true rfl) (fun _ h49 hq => ?_)
  obtain ⟨n49, T49, I49, J49, P49⟩ := h49
  obtain ⟨rfl, g49⟩ := hq
  have g := g.join g49 (m2 := 150) rfl
  obtain rfl : n49 = a + 150 := g.1
  clear g49 gi
  refine V.aastG (k := 93) (j := 143) g (by decide) rfl (by decide) rfl dX11_init_183 (by decide) (vp_lit (by decide)) 0 (by decide) (fun P50 g => ?_)
  refine V.iinc (v := 1) dX11_init_184 rfl (by decide) (by first | exact rfl | exact trivial) ?_
  refine V.goto 166 dX11_init_187 (by decide) ?_
  refine V.iload_n dX11_init_166 rfl ?_
  refine V.iconst (v := 2) dX11_init_167 (by decide) ?_
  refine V.icmp_ge 190 dX11_init_168 (by decide) (fun h => absurd h (by decide)) (fun _ => ?_)
  refine V.aload_n dX11_init_171 rfl ?_
  refine V.getr fl_X11_51 dX11_init_172 (g.T 0 (by decide) rfl) (g.r 0 8 (z := 93) (by decide) rfl) (by decide) rfl ?_
  refine V.iload_n dX11_init_175 rfl ?_
  refine V.newG nl_X11_27 dX11_init_176 (by decide) (Nat.le_of_ble_eq_true rfl) (Nat.le_of_ble_eq_true rfl) (fun T51 I51 J51 P51 gi => ?_)
  refine V.dup dX11_init_179 rfl ?_
  refine V.ini cn_X11_29 (k_X8 gi) dX11_init_180 rfl rfl (Nat.le_of_ble_eq_true rfl) (by decide) (by decide) (Nat.le_of_ble_eq_true rfl) (Nat.le_of_ble_eq_true rfl) (fun _ h52 hq => ?_)
  obtain ⟨n52, T52, I52, J52, P52⟩ := h52
  obtain ⟨rfl, g52⟩ := hq
  have g := g.join g52 (m2 := 157) rfl
  obtain rfl : n52 = a + 157 := g.1
  clear g52 gi
  refine V.aastG (k := 93) (j := 150) g (by decide) rfl (by decide) rfl dX11_init_183 (by decide) (vp_lit (by decide)) 1 (by decide) (fun P53 g => ?_)
  refine V.iinc (v := 2) dX11_init_184 rfl (by decide) (by first | exact rfl | exact trivial) ?_
  refine V.goto 166 dX11_init_187 (by decide) ?_
  refine V.iload_n dX11_init_166 rfl ?_
  refine V.iconst (v := 2) dX11_init_167 (by decide) ?_
  refine V.icmp_ge 190 dX11_init_168 (by decide) (fun _ => ?_) (fun h => absurd (show (2 : Int32) ≤ 2 from by decide) h)
  refine V.bipush (v := 8) dX11_init_190 (by decide) ?_
  refine V.newRG (C := RX8) (t := 25) (t0 := 5) (m1 := 158) (by decide) g rfl dX11_init_192 kcl_X11_27 (by decide) (len := 8) (by decide) (by decide) (Nat.le_of_ble_eq_true rfl) (Nat.le_of_ble_eq_true rfl) (fun T54 I54 J54 P54 g => ?_)
  refine V.astore_n dX11_init_195 rfl (by decide) (by first | exact rfl | exact trivial) ?_
  refine V.iconst (v := 0) dX11_init_196 (by decide) ?_
  refine V.istore_n dX11_init_197 rfl (by decide) (by first | exact rfl | exact trivial) ?_
  refine V.iload_n dX11_init_198 rfl ?_
  refine V.aload_n dX11_init_199 rfl ?_
  refine V.alen dX11_init_200 (g.T 157 (by decide) rfl) (by decide) ?_
  refine V.icmp_ge 220 dX11_init_201 (by decide) (fun h => absurd h (by decide)) (fun _ => ?_)
  refine V.aload_n dX11_init_204 rfl ?_
  refine V.iload_n dX11_init_205 rfl ?_
  refine V.newG nl_X11_27 dX11_init_206 (by decide) (Nat.le_of_ble_eq_true rfl) (Nat.le_of_ble_eq_true rfl) (fun T55 I55 J55 P55 gi => ?_)
  refine V.dup dX11_init_209 rfl ?_
  refine V.ini cn_X11_29 (k_X8 gi) dX11_init_210 rfl rfl (Nat.le_of_ble_eq_true rfl) (by decide) (by decide) (Nat.le_of_ble_eq_true rfl) (Nat.le_of_ble_eq_true rfl) (fun _ h56 hq => ?_)
  obtain ⟨n56, T56, I56, J56, P56⟩ := h56
  obtain ⟨rfl, g56⟩ := hq
  have g := g.join g56 (m2 := 165) rfl
  obtain rfl : n56 = a + 165 := g.1
  clear g56 gi
  refine V.aastG (k := 157) (j := 158) g (by decide) rfl (by decide) rfl dX11_init_213 (by decide) (vp_lit (by decide)) 0 (by decide) (fun P57 g => ?_)
  refine V.iinc (v := 1) dX11_init_214 rfl (by decide) (by first | exact rfl | exact trivial) ?_
  refine V.goto 198 dX11_init_217 (by decide) ?_
  refine V.iload_n dX11_init_198 rfl ?_
  refine V.aload_n dX11_init_199 rfl ?_
  refine V.alen dX11_init_200 (g.T 157 (by decide) rfl) (by decide) ?_
  refine V.icmp_ge 220 dX11_init_201 (by decide) (fun h => absurd h (by decide)) (fun _ => ?_)
  refine V.aload_n dX11_init_204 rfl ?_
  refine V.iload_n dX11_init_205 rfl ?_
  refine V.newG nl_X11_27 dX11_init_206 (by decide) (Nat.le_of_ble_eq_true rfl) (Nat.le_of_ble_eq_true rfl) (fun T58 I58 J58 P58 gi => ?_)
  refine V.dup dX11_init_209 rfl ?_
  refine V.ini cn_X11_29 (k_X8 gi) dX11_init_210 rfl rfl (Nat.le_of_ble_eq_true rfl) (by decide) (by decide) (Nat.le_of_ble_eq_true rfl) (Nat.le_of_ble_eq_true rfl) (fun _ h59 hq => ?_)
  obtain ⟨n59, T59, I59, J59, P59⟩ := h59
  obtain ⟨rfl, g59⟩ := hq
  have g := g.join g59 (m2 := 172) rfl
  obtain rfl : n59 = a + 172 := g.1
  clear g59 gi
  refine V.aastG (k := 157) (j := 165) g (by decide) rfl (by decide) rfl dX11_init_213 (by decide) (vp_lit (by decide)) 1 (by decide) (fun P60 g => ?_)
  refine V.iinc (v := 2) dX11_init_214 rfl (by decide) (by first | exact rfl | exact trivial) ?_
  refine V.goto 198 dX11_init_217 (by decide) ?_
  refine V.iload_n dX11_init_198 rfl ?_
  refine V.aload_n dX11_init_199 rfl ?_
  refine V.alen dX11_init_200 (g.T 157 (by decide) rfl) (by decide) ?_
  refine V.icmp_ge 220 dX11_init_201 (by decide) (fun h => absurd h (by decide)) (fun _ => ?_)
  refine V.aload_n dX11_init_204 rfl ?_
  refine V.iload_n dX11_init_205 rfl ?_
  refine V.newG nl_X11_27 dX11_init_206 (by decide) (Nat.le_of_ble_eq_true rfl) (Nat.le_of_ble_eq_true rfl) (fun T61 I61 J61 P61 gi => ?_)
  refine V.dup dX11_init_209 rfl ?_
  refine V.ini cn_X11_29 (k_X8 gi) dX11_init_210 rfl rfl (Nat.le_of_ble_eq_true rfl) (by decide) (by decide) (Nat.le_of_ble_eq_true rfl) (Nat.le_of_ble_eq_true rfl) (fun _ h62 hq => ?_)
  obtain ⟨n62, T62, I62, J62, P62⟩ := h62
  obtain ⟨rfl, g62⟩ := hq
  have g := g.join g62 (m2 := 179) rfl
  obtain rfl : n62 = a + 179 := g.1
  clear g62 gi
  refine V.aastG (k := 157) (j := 172) g (by decide) rfl (by decide) rfl dX11_init_213 (by decide) (vp_lit (by decide)) 2 (by decide) (fun P63 g => ?_)
  refine V.iinc (v := 3) dX11_init_214 rfl (by decide) (by first | exact rfl | exact trivial) ?_
  refine V.goto 198 dX11_init_217 (by decide) ?_
  refine V.iload_n dX11_init_198 rfl ?_
  refine V.aload_n dX11_init_199 rfl ?_
  refine V.alen dX11_init_200 (g.T 157 (by decide) rfl) (by decide) ?_
  refine V.icmp_ge 220 dX11_init_201 (by decide) (fun h => absurd h (by decide)) (fun _ => ?_)
  refine V.aload_n dX11_init_204 rfl ?_
  refine V.iload_n dX11_init_205 rfl ?_
  refine V.newG nl_X11_27 dX11_init_206 (by decide) (Nat.le_of_ble_eq_true rfl) (Nat.le_of_ble_eq_true rfl) (fun T64 I64 J64 P64 gi => ?_)
  refine V.dup dX11_init_209 rfl ?_
  refine V.ini cn_X11_29 (k_X8 gi) dX11_init_210 rfl rfl (Nat.le_of_ble_eq_true rfl) (by decide) (by decide) (Nat.le_of_ble_eq_true rfl) (Nat.le_of_ble_eq_true rfl) (fun _ h65 hq => ?_)
  obtain ⟨n65, T65, I65, J65, P65⟩ := h65
  obtain ⟨rfl, g65⟩ := hq
  have g := g.join g65 (m2 := 186) rfl
  obtain rfl : n65 = a + 186 := g.1
  clear g65 gi
  refine V.aastG (k := 157) (j := 179) g (by decide) rfl (by decide) rfl dX11_init_213 (by decide) (vp_lit (by decide)) 3 (by decide) (fun P66 g => ?_)
  refine V.iinc (v := 4) dX11_init_214 rfl (by decide) (by first | exact rfl | exact trivial) ?_
  refine V.goto 198 dX11_init_217 (by decide) ?_
  refine V.iload_n dX11_init_198 rfl ?_
  refine V.aload_n dX11_init_199 rfl ?_
  refine V.alen dX11_init_200 (g.T 157 (by decide) rfl) (by decide) ?_
  refine V.icmp_ge 220 dX11_init_201 (by decide) (fun h => absurd h (by decide)) (fun _ => ?_)
  refine V.aload_n dX11_init_204 rfl ?_
  refine V.iload_n dX11_init_205 rfl ?_
  refine V.newG nl_X11_27 dX11_init_206 (by decide) (Nat.le_of_ble_eq_true rfl) (Nat.le_of_ble_eq_true rfl) (fun T67 I67 J67 P67 gi => ?_)
  refine V.dup dX11_init_209 rfl ?_
  refine V.ini cn_X11_29 (k_X8 gi) dX11_init_210 rfl rfl (Nat.le_of_ble_eq_true rfl) (by decide) (by decide) (Nat.le_of_ble_eq_true rfl) (Nat.le_of_ble_eq_true rfl) (fun _ h68 hq => ?_)
  obtain ⟨n68, T68, I68, J68, P68⟩ := h68
  obtain ⟨rfl, g68⟩ := hq
  have g := g.join g68 (m2 := 193) rfl
  obtain rfl : n68 = a + 193 := g.1
  clear g68 gi
  refine V.aastG (k := 157) (j := 186) g (by decide) rfl (by decide) rfl dX11_init_213 (by decide) (vp_lit (by decide)) 4 (by decide) (fun P69 g => ?_)
  refine V.iinc (v := 5) dX11_init_214 rfl (by decide) (by first | exact rfl | exact trivial) ?_
  refine V.goto 198 dX11_init_217 (by decide) ?_
  refine V.iload_n dX11_init_198 rfl ?_
  refine V.aload_n dX11_init_199 rfl ?_
  refine V.alen dX11_init_200 (g.T 157 (by decide) rfl) (by decide) ?_
  refine V.icmp_ge 220 dX11_init_201 (by decide) (fun h => absurd h (by decide)) (fun _ => ?_)
  refine V.aload_n dX11_init_204 rfl ?_
  refine V.iload_n dX11_init_205 rfl ?_
  refine V.newG nl_X11_27 dX11_init_206 (by decide) (Nat.le_of_ble_eq_true rfl) (Nat.le_of_ble_eq_true rfl) (fun T70 I70 J70 P70 gi => ?_)
  refine V.dup dX11_init_209 rfl ?_
  refine V.ini cn_X11_29 (k_X8 gi) dX11_init_210 rfl rfl (Nat.le_of_ble_eq_true rfl) (by decide) (by decide) (Nat.le_of_ble_eq_true rfl) (Nat.le_of_ble_eq_true rfl) (fun _ h71 hq => ?_)
  obtain ⟨n71, T71, I71, J71, P71⟩ := h71
  obtain ⟨rfl, g71⟩ := hq
  have g := g.join g71 (m2 := 200) rfl
  obtain rfl : n71 = a + 200 := g.1
  clear g71 gi
  refine V.aastG (k := 157) (j := 193) g (by decide) rfl (by decide) rfl dX11_init_213 (by decide) (vp_lit (by decide)) 5 (by decide) (fun P72 g => ?_)
  refine V.iinc (v := 6) dX11_init_214 rfl (by decide) (by first | exact rfl | exact trivial) ?_
  refine V.goto 198 dX11_init_217 (by decide) ?_
  refine V.iload_n dX11_init_198 rfl ?_
  refine V.aload_n dX11_init_199 rfl ?_
  refine V.alen dX11_init_200 (g.T 157 (by decide) rfl) (by decide) ?_
  refine V.icmp_ge 220 dX11_init_201 (by decide) (fun h => absurd h (by decide)) (fun _ => ?_)
  refine V.aload_n dX11_init_204 rfl ?_
  refine V.iload_n dX11_init_205 rfl ?_
  refine V.newG nl_X11_27 dX11_init_206 (by decide) (Nat.le_of_ble_eq_true rfl) (Nat.le_of_ble_eq_true rfl) (fun T73 I73 J73 P73 gi => ?_)
  refine V.dup dX11_init_209 rfl ?_
  refine V.ini cn_X11_29 (k_X8 gi) dX11_init_210 rfl rfl (Nat.le_of_ble_eq_true rfl) (by decide) (by decide) (Nat.le_of_ble_eq_true rfl) (Nat.le_of_ble_eq_true rfl) (fun _ h74 hq => ?_)
  obtain ⟨n74, T74, I74, J74, P74⟩ := h74
  obtain ⟨rfl, g74⟩ := hq
  have g := g.join g74 (m2 := 207) rfl
  obtain rfl : n74 = a + 207 := g.1
  clear g74 gi
  refine V.aastG (k := 157) (j := 200) g (by decide) rfl (by decide) rfl dX11_init_213 (by decide) (vp_lit (by decide)) 6 (by decide) (fun P75 g => ?_)
  refine V.iinc (v := 7) dX11_init_214 rfl (by decide) (by first | exact rfl | exact trivial) ?_
  refine V.goto 198 dX11_init_217 (by decide) ?_
  refine V.iload_n dX11_init_198 rfl ?_
  refine V.aload_n dX11_init_199 rfl ?_
  refine V.alen dX11_init_200 (g.T 157 (by decide) rfl) (by decide) ?_
  refine V.icmp_ge 220 dX11_init_201 (by decide) (fun h => absurd h (by decide)) (fun _ => ?_)
  refine V.aload_n dX11_init_204 rfl ?_
  refine V.iload_n dX11_init_205 rfl ?_
  refine V.newG nl_X11_27 dX11_init_206 (by decide) (Nat.le_of_ble_eq_true rfl) (Nat.le_of_ble_eq_true rfl) (fun T76 I76 J76 P76 gi => ?_)
  refine V.dup dX11_init_209 rfl ?_
  refine V.ini cn_X11_29 (k_X8 gi) dX11_init_210 rfl rfl (Nat.le_of_ble_eq_true rfl) (by decide) (by decide) (Nat.le_of_ble_eq_true rfl) (Nat.le_of_ble_eq_true rfl) (fun _ h77 hq => ?_)
  obtain ⟨n77, T77, I77, J77, P77⟩ := h77
  obtain ⟨rfl, g77⟩ := hq
  have g := g.join g77 (m2 := 214) rfl
  obtain rfl : n77 = a + 214 := g.1
  clear g77 gi
  refine V.aastG (k := 157) (j := 207) g (by decide) rfl (by decide) rfl dX11_init_213 (by decide) (vp_lit (by decide)) 7 (by decide) (fun P78 g => ?_)
  refine V.iinc (v := 8) dX11_init_214 rfl (by decide) (by first | exact rfl | exact trivial) ?_
  refine V.goto 198 dX11_init_217 (by decide) ?_
  refine V.iload_n dX11_init_198 rfl ?_
  refine V.aload_n dX11_init_199 rfl ?_
  refine V.alen dX11_init_200 (g.T 157 (by decide) rfl) (by decide) ?_
  refine V.icmp_ge 220 dX11_init_201 (by decide) (fun _ => ?_) (fun h => absurd (show (8 : Int32) ≤ 8 from by decide) h)
  refine V.aload_n dX11_init_220 rfl ?_
  refine V.newG nl_X11_84 dX11_init_221 (by decide) (Nat.le_of_ble_eq_true rfl) (Nat.le_of_ble_eq_true rfl) (fun T79 I79 J79 P79 gi => ?_)
  refine V.dup dX11_init_224 rfl ?_
  refine V.aload_n dX11_init_225 rfl ?_
  refine V.ini cn_X11_86 (k_X4 (w := -57) (lv := a + 157) (by omega) gi) dX11_init_226 rfl rfl (Nat.le_of_ble_eq_true rfl) (by decide) (by decide) (Nat.le_of_ble_eq_true rfl) (Nat.le_of_ble_eq_true rfl) (fun _ h80 hq => ?_)
  obtain ⟨n80, T80, I80, J80, P80⟩ := h80
  obtain ⟨rfl, g80⟩ := hq
  have g := g.join g80 (m2 := 219) rfl
  obtain rfl : n80 = a + 219 := g.1
  clear g80 gi
  refine V.putrG g 214 (by omega) (by decide) rfl fl_X11_89 dX11_init_229 (by decide) (fun _ => ⟨rfl, _, rfl⟩) rfl rfl rfl (Nat.le_of_ble_eq_true rfl) (fun P81 g => ?_)
  refine V.aload_n dX11_init_232 rfl ?_
  refine V.newG nl_X11_93 dX11_init_233 (by decide) (Nat.le_of_ble_eq_true rfl) (Nat.le_of_ble_eq_true rfl) (fun T82 I82 J82 P82 gi => ?_)
  refine V.dup dX11_init_236 rfl ?_
  refine V.aload_n dX11_init_237 rfl ?_
  refine V.ini cn_X11_95 (k_X0 (w := -62) (lv := a + 157) (by omega) gi) dX11_init_238 rfl rfl (Nat.le_of_ble_eq_true rfl) (by decide) (by decide) (Nat.le_of_ble_eq_true rfl) (Nat.le_of_ble_eq_true rfl) (fun _ h83 hq => ?_)
  obtain ⟨n83, T83, I83, J83, P83⟩ := h83
  obtain ⟨rfl, g83⟩ := hq
  have g := g.join g83 (m2 := 224) rfl
  obtain rfl : n83 = a + 224 := g.1
  clear g83 gi
  refine V.putrG g 219 (by omega) (by decide) rfl fl_X11_96 dX11_init_241 (by decide) (fun _ => ⟨rfl, _, rfl⟩) rfl rfl rfl (Nat.le_of_ble_eq_true rfl) (fun P84 g => ?_)
  exact V.vret dX11_init_244 rfl (Nat.le_of_ble_eq_true rfl) (Nat.le_of_ble_eq_true rfl) ⟨rfl, g⟩
theorem dX12_init_0 : decode cX12_init 0 = .ok (.aload_n 0, 1) := by decide +kernel
theorem dX12_init_1 : decode cX12_init 1 = .ok (.invokespecial 7, 3) := by decide +kernel
theorem dX12_init_4 : decode cX12_init 4 = .ok (.aload_n 0, 1) := by decide +kernel
theorem dX12_init_5 : decode cX12_init 5 = .ok (.sipush 3891, 3) := by decide +kernel
theorem dX12_init_8 : decode cX12_init 8 = .ok (.newarray .int, 2) := by decide +kernel
theorem dX12_init_10 : decode cX12_init 10 = .ok (.putfield 13, 3) := by decide +kernel
theorem dX12_init_13 : decode cX12_init 13 = .ok (.aload_n 0, 1) := by decide +kernel
theorem dX12_init_14 : decode cX12_init 14 = .ok (.iconst 2, 1) := by decide +kernel
theorem dX12_init_15 : decode cX12_init 15 = .ok (.newarray .boolean, 2) := by decide +kernel
theorem dX12_init_17 : decode cX12_init 17 = .ok (.putfield 17, 3) := by decide +kernel
theorem dX12_init_20 : decode cX12_init 20 = .ok (.aload_n 0, 1) := by decide +kernel
theorem dX12_init_21 : decode cX12_init 21 = .ok (.sipush 900, 3) := by decide +kernel
theorem dX12_init_24 : decode cX12_init 24 = .ok (.newarray .int, 2) := by decide +kernel
theorem dX12_init_26 : decode cX12_init 26 = .ok (.putfield 21, 3) := by decide +kernel
theorem dX12_init_29 : decode cX12_init 29 = .ok (.aload_n 0, 1) := by decide +kernel
theorem dX12_init_30 : decode cX12_init 30 = .ok (.sipush 1297, 3) := by decide +kernel
theorem dX12_init_33 : decode cX12_init 33 = .ok (.newarray .int, 2) := by decide +kernel
theorem dX12_init_35 : decode cX12_init 35 = .ok (.putfield 24, 3) := by decide +kernel
theorem dX12_init_38 : decode cX12_init 38 = .ok (.aload_n 0, 1) := by decide +kernel
theorem dX12_init_39 : decode cX12_init 39 = .ok (.iconst (-1), 1) := by decide +kernel
theorem dX12_init_40 : decode cX12_init 40 = .ok (.putfield 27, 3) := by decide +kernel
theorem dX12_init_43 : decode cX12_init 43 = .ok (.aload_n 0, 1) := by decide +kernel
theorem dX12_init_44 : decode cX12_init 44 = .ok (.sipush 900, 3) := by decide +kernel
theorem dX12_init_47 : decode cX12_init 47 = .ok (.newarray .int, 2) := by decide +kernel
theorem dX12_init_49 : decode cX12_init 49 = .ok (.putfield 30, 3) := by decide +kernel
theorem dX12_init_52 : decode cX12_init 52 = .ok (.aload_n 0, 1) := by decide +kernel
theorem dX12_init_53 : decode cX12_init 53 = .ok (.bipush 7, 2) := by decide +kernel
theorem dX12_init_55 : decode cX12_init 55 = .ok (.newarray .int, 2) := by decide +kernel
theorem dX12_init_57 : decode cX12_init 57 = .ok (.putfield 33, 3) := by decide +kernel
theorem dX12_init_60 : decode cX12_init 60 = .ok (.aload_n 0, 1) := by decide +kernel
theorem dX12_init_61 : decode cX12_init 61 = .ok (.bipush 33, 2) := by decide +kernel
theorem dX12_init_63 : decode cX12_init 63 = .ok (.newarray .int, 2) := by decide +kernel
theorem dX12_init_65 : decode cX12_init 65 = .ok (.putfield 36, 3) := by decide +kernel
theorem dX12_init_68 : decode cX12_init 68 = .ok (.aload_n 0, 1) := by decide +kernel
theorem dX12_init_69 : decode cX12_init 69 = .ok (.bipush 6, 2) := by decide +kernel
theorem dX12_init_71 : decode cX12_init 71 = .ok (.newarray .int, 2) := by decide +kernel
theorem dX12_init_73 : decode cX12_init 73 = .ok (.putfield 39, 3) := by decide +kernel
theorem dX12_init_76 : decode cX12_init 76 = .ok (.aload_n 0, 1) := by decide +kernel
theorem dX12_init_77 : decode cX12_init 77 = .ok (.bipush 6, 2) := by decide +kernel
theorem dX12_init_79 : decode cX12_init 79 = .ok (.newarray .int, 2) := by decide +kernel
theorem dX12_init_81 : decode cX12_init 81 = .ok (.putfield 42, 3) := by decide +kernel
theorem dX12_init_84 : decode cX12_init 84 = .ok (.aload_n 0, 1) := by decide +kernel
theorem dX12_init_85 : decode cX12_init 85 = .ok (.sipush 264, 3) := by decide +kernel
theorem dX12_init_88 : decode cX12_init 88 = .ok (.newarray .int, 2) := by decide +kernel
theorem dX12_init_90 : decode cX12_init 90 = .ok (.putfield 45, 3) := by decide +kernel
theorem dX12_init_93 : decode cX12_init 93 = .ok (.aload_n 0, 1) := by decide +kernel
theorem dX12_init_94 : decode cX12_init 94 = .ok (.bipush 8, 2) := by decide +kernel
theorem dX12_init_96 : decode cX12_init 96 = .ok (.newarray .int, 2) := by decide +kernel
theorem dX12_init_98 : decode cX12_init 98 = .ok (.putfield 48, 3) := by decide +kernel
theorem dX12_init_101 : decode cX12_init 101 = .ok (.aload_n 0, 1) := by decide +kernel
theorem dX12_init_102 : decode cX12_init 102 = .ok (.bipush 6, 2) := by decide +kernel
theorem dX12_init_104 : decode cX12_init 104 = .ok (.newarray .int, 2) := by decide +kernel
theorem dX12_init_106 : decode cX12_init 106 = .ok (.putfield 51, 3) := by decide +kernel
theorem dX12_init_109 : decode cX12_init 109 = .ok (.aload_n 0, 1) := by decide +kernel
theorem dX12_init_110 : decode cX12_init 110 = .ok (.bipush 6, 2) := by decide +kernel
theorem dX12_init_112 : decode cX12_init 112 = .ok (.newarray .int, 2) := by decide +kernel
theorem dX12_init_114 : decode cX12_init 114 = .ok (.putfield 54, 3) := by decide +kernel
theorem dX12_init_117 : decode cX12_init 117 = .ok (.aload_n 0, 1) := by decide +kernel
theorem dX12_init_118 : decode cX12_init 118 = .ok (.bipush 100, 2) := by decide +kernel
theorem dX12_init_120 : decode cX12_init 120 = .ok (.newarray .boolean, 2) := by decide +kernel
theorem dX12_init_122 : decode cX12_init 122 = .ok (.putfield 57, 3) := by decide +kernel
theorem dX12_init_125 : decode cX12_init 125 = .ok (.aload_n 0, 1) := by decide +kernel
theorem dX12_init_126 : decode cX12_init 126 = .ok (.sipush 441, 3) := by decide +kernel
theorem dX12_init_129 : decode cX12_init 129 = .ok (.newarray .int, 2) := by decide +kernel
theorem dX12_init_131 : decode cX12_init 131 = .ok (.putfield 60, 3) := by decide +kernel
theorem dX12_init_134 : decode cX12_init 134 = .ok (.aload_n 0, 1) := by decide +kernel
theorem dX12_init_135 : decode cX12_init 135 = .ok (.sipush 441, 3) := by decide +kernel
theorem dX12_init_138 : decode cX12_init 138 = .ok (.newarray .int, 2) := by decide +kernel
theorem dX12_init_140 : decode cX12_init 140 = .ok (.putfield 63, 3) := by decide +kernel
theorem dX12_init_143 : decode cX12_init 143 = .ok (.aload_n 0, 1) := by decide +kernel
theorem dX12_init_144 : decode cX12_init 144 = .ok (.bipush 6, 2) := by decide +kernel
theorem dX12_init_146 : decode cX12_init 146 = .ok (.newarray .long, 2) := by decide +kernel
theorem dX12_init_148 : decode cX12_init 148 = .ok (.putfield 66, 3) := by decide +kernel
theorem dX12_init_151 : decode cX12_init 151 = .ok (.aload_n 0, 1) := by decide +kernel
theorem dX12_init_152 : decode cX12_init 152 = .ok (.iconst 4, 1) := by decide +kernel
theorem dX12_init_153 : decode cX12_init 153 = .ok (.newarray .int, 2) := by decide +kernel
theorem dX12_init_155 : decode cX12_init 155 = .ok (.dup, 1) := by decide +kernel
theorem dX12_init_156 : decode cX12_init 156 = .ok (.iconst 0, 1) := by decide +kernel
theorem dX12_init_157 : decode cX12_init 157 = .ok (.iconst (-1), 1) := by decide +kernel
theorem dX12_init_158 : decode cX12_init 158 = .ok (.iastore, 1) := by decide +kernel
theorem dX12_init_159 : decode cX12_init 159 = .ok (.dup, 1) := by decide +kernel
theorem dX12_init_160 : decode cX12_init 160 = .ok (.iconst 1, 1) := by decide +kernel
theorem dX12_init_161 : decode cX12_init 161 = .ok (.iconst (-1), 1) := by decide +kernel
theorem dX12_init_162 : decode cX12_init 162 = .ok (.iastore, 1) := by decide +kernel
theorem dX12_init_163 : decode cX12_init 163 = .ok (.dup, 1) := by decide +kernel
theorem dX12_init_164 : decode cX12_init 164 = .ok (.iconst 2, 1) := by decide +kernel
theorem dX12_init_165 : decode cX12_init 165 = .ok (.iconst (-1), 1) := by decide +kernel
theorem dX12_init_166 : decode cX12_init 166 = .ok (.iastore, 1) := by decide +kernel
theorem dX12_init_167 : decode cX12_init 167 = .ok (.dup, 1) := by decide +kernel
theorem dX12_init_168 : decode cX12_init 168 = .ok (.iconst 3, 1) := by decide +kernel
theorem dX12_init_169 : decode cX12_init 169 = .ok (.iconst (-1), 1) := by decide +kernel
theorem dX12_init_170 : decode cX12_init 170 = .ok (.iastore, 1) := by decide +kernel
theorem dX12_init_171 : decode cX12_init 171 = .ok (.putfield 70, 3) := by decide +kernel
theorem dX12_init_174 : decode cX12_init 174 = .ok (.aload_n 0, 1) := by decide +kernel
theorem dX12_init_175 : decode cX12_init 175 = .ok (.iconst 4, 1) := by decide +kernel
theorem dX12_init_176 : decode cX12_init 176 = .ok (.newarray .int, 2) := by decide +kernel
theorem dX12_init_178 : decode cX12_init 178 = .ok (.putfield 73, 3) := by decide +kernel
theorem dX12_init_181 : decode cX12_init 181 = .ok (.aload_n 0, 1) := by decide +kernel
theorem dX12_init_182 : decode cX12_init 182 = .ok (.sipush 160, 3) := by decide +kernel
theorem dX12_init_185 : decode cX12_init 185 = .ok (.newarray .long, 2) := by decide +kernel
theorem dX12_init_187 : decode cX12_init 187 = .ok (.putfield 76, 3) := by decide +kernel
theorem dX12_init_190 : decode cX12_init 190 = .ok (.aload_n 0, 1) := by decide +kernel
theorem dX12_init_191 : decode cX12_init 191 = .ok (.getfield 13, 3) := by decide +kernel
theorem dX12_init_194 : decode cX12_init 194 = .ok (.invokestatic 79, 3) := by decide +kernel
theorem dX12_init_197 : decode cX12_init 197 = .ok (.return_, 1) := by decide +kernel
def shc12 : Nat → Option (Nat × Nat) := (u1 (u1 (u1 (u1 (u1 (u1 (u1 (u1 (u1 (u1 (u1 (u1 (u1 (u1 (u1 (u1 (u1 (u1 (u1 (u1 (sh1 12) 1 (some (20, 3891))) 2 (some (23, 2))) 3 (some (20, 900))) 4 (some (20, 1297))) 5 (some (20, 900))) 6 (some (20, 7))) 7 (some (20, 33))) 8 (some (20, 6))) 9 (some (20, 6))) 10 (some (20, 264))) 11 (some (20, 8))) 12 (some (20, 6))) 13 (some (20, 6))) 14 (some (23, 100))) 15 (some (20, 441))) 16 (some (20, 441))) 17 (some (22, 6))) 18 (some (20, 4))) 19 (some (20, 4))) 20 (some (22, 160)))
def ivc12 : Nat → Nat → Int32 := (u1 (u1 (u2 (u2 (u2 (u2 (u1 (u1 (u1 (u1 (u1 (u1 (u1 (u1 (u1 (u1 (u1 (u1 (u1 (u1 (u2 (u1 (u1 (u1 (u1 (zz2 0) 1 (fun _ => 0)) 2 (fun _ => 0)) 3 (fun _ => 0)) 4 (fun _ => 0)) 0 14 (-1)) 5 (fun _ => 0)) 6 (fun _ => 0)) 7 (fun _ => 0)) 8 (fun _ => 0)) 9 (fun _ => 0)) 10 (fun _ => 0)) 11 (fun _ => 0)) 12 (fun _ => 0)) 13 (fun _ => 0)) 14 (fun _ => 0)) 15 (fun _ => 0)) 16 (fun _ => 0)) 17 (fun _ => 0)) 18 (fun _ => 0)) 18 0 (-1)) 18 1 (-1)) 18 2 (-1)) 18 3 (-1)) 19 (fun _ => 0)) 20 (fun _ => 0))
def rfc12 : Nat → Nat → Option Int := (u2 (u1 (u2 (u1 (u2 (u1 (u2 (u1 (u2 (u1 (u2 (u1 (u2 (u1 (u2 (u1 (u2 (u1 (u2 (u1 (u2 (u1 (u2 (u1 (u2 (u1 (u2 (u1 (u2 (u1 (u2 (u1 (u2 (u1 (u2 (u1 (u2 (u1 (u2 (u1 (zz2 none) 1 (fun _ => none)) 0 1 (some (1))) 2 (fun _ => none)) 0 2 (some (2))) 3 (fun _ => none)) 0 3 (some (3))) 4 (fun _ => none)) 0 4 (some (4))) 5 (fun _ => none)) 0 15 (some (5))) 6 (fun _ => none)) 0 16 (some (6))) 7 (fun _ => none)) 0 17 (some (7))) 8 (fun _ => none)) 0 18 (some (8))) 9 (fun _ => none)) 0 19 (some (9))) 10 (fun _ => none)) 0 22 (some (10))) 11 (fun _ => none)) 0 23 (some (11))) 12 (fun _ => none)) 0 26 (some (12))) 13 (fun _ => none)) 0 27 (some (13))) 14 (fun _ => none)) 0 29 (some (14))) 15 (fun _ => none)) 0 30 (some (15))) 16 (fun _ => none)) 0 31 (some (16))) 17 (fun _ => none)) 0 32 (some (17))) 18 (fun _ => none)) 0 33 (some (18))) 19 (fun _ => none)) 0 34 (some (19))) 20 (fun _ => none)) 0 35 (some (20)))
theorem k_X12 {l : Launch} {D : va_G} {E : Nat → ClassId} {B : Nat → Prop} {a : Nat} {h0 : HT} {T I J P} (g : Gb a 1 (sh1 12) (zz2 0) (zz2 none) h0 (a + 1, T, I, J, P)) : Ct l D E B yX12_init cX12_init 1 none 1 20 8482 [.ref a] (a + 1, T, I, J, P) (fun v h => v = none ∧ Gb a 21 shc12 ivc12 (rfc12) h0 h) := by
  refine Ct.ofV (by decide) (Nat.le_of_ble_eq_true rfl) ?_
  refine V.aload_n dX12_init_0 rfl ?_
  refine V.obj0 koi_X12 dX12_init_1 (by decide) (by decide) ?_
  refine V.aload_n dX12_init_4 rfl ?_
  refine V.sipush (v := 3891) dX12_init_5 (by decide) ?_
  refine V.newIG (m1 := 2) g rfl dX12_init_8 (by decide) (len := 3891) (by decide) (by decide) (Nat.le_of_ble_eq_true rfl) (Nat.le_of_ble_eq_true rfl) (fun T1 I1 J1 P1 g => ?_)
  refine V.putrG g 1 (by omega) (by decide) rfl fl_X12_13 dX12_init_10 (by decide) (fun _ => ⟨rfl, _, rfl⟩) rfl rfl rfl (Nat.le_of_ble_eq_true rfl) (fun P2 g => ?_)
  refine V.aload_n dX12_init_13 rfl ?_
  refine V.iconst (v := 2) dX12_init_14 (by decide) ?_
  refine V.newZG (m1 := 3) g rfl dX12_init_15 (by decide) (len := 2) (by decide) (by decide) (Nat.le_of_ble_eq_true rfl) (Nat.le_of_ble_eq_true rfl) (fun T3 I3 J3 P3 g => ?_)
  refine V.putrG g 2 (by omega) (by decide) rfl fl_X12_17 dX12_init_17 (by decide) (fun _ => ⟨rfl, _, rfl⟩) rfl rfl rfl (Nat.le_of_ble_eq_true rfl) (fun P4 g => ?_)
  refine V.aload_n dX12_init_20 rfl ?_
  refine V.sipush (v := 900) dX12_init_21 (by decide) ?_
  refine V.newIG (m1 := 4) g rfl dX12_init_24 (by decide) (len := 900) (by decide) (by decide) (Nat.le_of_ble_eq_true rfl) (Nat.le_of_ble_eq_true rfl) (fun T5 I5 J5 P5 g => ?_)
  refine V.putrG g 3 (by omega) (by decide) rfl fl_X12_21 dX12_init_26 (by decide) (fun _ => ⟨rfl, _, rfl⟩) rfl rfl rfl (Nat.le_of_ble_eq_true rfl) (fun P6 g => ?_)
  refine V.aload_n dX12_init_29 rfl ?_
  refine V.sipush (v := 1297) dX12_init_30 (by decide) ?_
  refine V.newIG (m1 := 5) g rfl dX12_init_33 (by decide) (len := 1297) (by decide) (by decide) (Nat.le_of_ble_eq_true rfl) (Nat.le_of_ble_eq_true rfl) (fun T7 I7 J7 P7 g => ?_)
  refine V.putrG g 4 (by omega) (by decide) rfl fl_X12_24 dX12_init_35 (by decide) (fun _ => ⟨rfl, _, rfl⟩) rfl rfl rfl (Nat.le_of_ble_eq_true rfl) (fun P8 g => ?_)
  refine V.aload_n dX12_init_38 rfl ?_
  refine V.iconst (v := -1) dX12_init_39 (by decide) ?_
  refine V.putiG g (by decide) rfl fl_X12_27 dX12_init_40 (by decide) (fun _ => ⟨rfl, _, rfl⟩) rfl rfl rfl (Nat.le_of_ble_eq_true rfl) (fun I9 g => ?_)
  refine V.aload_n dX12_init_43 rfl ?_
  refine V.sipush (v := 900) dX12_init_44 (by decide) ?_
  refine V.newIG (m1 := 6) g rfl dX12_init_47 (by decide) (len := 900) (by decide) (by decide) (Nat.le_of_ble_eq_true rfl) (Nat.le_of_ble_eq_true rfl) (fun T10 I10 J10 P10 g => ?_)
  refine V.putrG g 5 (by omega) (by decide) rfl fl_X12_30 dX12_init_49 (by decide) (fun _ => ⟨rfl, _, rfl⟩) rfl rfl rfl (Nat.le_of_ble_eq_true rfl) (fun P11 g => ?_)
  refine V.aload_n dX12_init_52 rfl ?_
  refine V.bipush (v := 7) dX12_init_53 (by decide) ?_
  refine V.newIG (m1 := 7) g rfl dX12_init_55 (by decide) (len := 7) (by decide) (by decide) (Nat.le_of_ble_eq_true rfl) (Nat.le_of_ble_eq_true rfl) (fun T12 I12 J12 P12 g => ?_)
  refine V.putrG g 6 (by omega) (by decide) rfl fl_X12_33 dX12_init_57 (by decide) (fun _ => ⟨rfl, _, rfl⟩) rfl rfl rfl (Nat.le_of_ble_eq_true rfl) (fun P13 g => ?_)
  refine V.aload_n dX12_init_60 rfl ?_
  refine V.bipush (v := 33) dX12_init_61 (by decide) ?_
  refine V.newIG (m1 := 8) g rfl dX12_init_63 (by decide) (len := 33) (by decide) (by decide) (Nat.le_of_ble_eq_true rfl) (Nat.le_of_ble_eq_true rfl) (fun T14 I14 J14 P14 g => ?_)
  refine V.putrG g 7 (by omega) (by decide) rfl fl_X12_36 dX12_init_65 (by decide) (fun _ => ⟨rfl, _, rfl⟩) rfl rfl rfl (Nat.le_of_ble_eq_true rfl) (fun P15 g => ?_)
  refine V.aload_n dX12_init_68 rfl ?_
  refine V.bipush (v := 6) dX12_init_69 (by decide) ?_
  refine V.newIG (m1 := 9) g rfl dX12_init_71 (by decide) (len := 6) (by decide) (by decide) (Nat.le_of_ble_eq_true rfl) (Nat.le_of_ble_eq_true rfl) (fun T16 I16 J16 P16 g => ?_)
  refine V.putrG g 8 (by omega) (by decide) rfl fl_X12_39 dX12_init_73 (by decide) (fun _ => ⟨rfl, _, rfl⟩) rfl rfl rfl (Nat.le_of_ble_eq_true rfl) (fun P17 g => ?_)
  refine V.aload_n dX12_init_76 rfl ?_
  refine V.bipush (v := 6) dX12_init_77 (by decide) ?_
  refine V.newIG (m1 := 10) g rfl dX12_init_79 (by decide) (len := 6) (by decide) (by decide) (Nat.le_of_ble_eq_true rfl) (Nat.le_of_ble_eq_true rfl) (fun T18 I18 J18 P18 g => ?_)
  refine V.putrG g 9 (by omega) (by decide) rfl fl_X12_42 dX12_init_81 (by decide) (fun _ => ⟨rfl, _, rfl⟩) rfl rfl rfl (Nat.le_of_ble_eq_true rfl) (fun P19 g => ?_)
  refine V.aload_n dX12_init_84 rfl ?_
  refine V.sipush (v := 264) dX12_init_85 (by decide) ?_
  refine V.newIG (m1 := 11) g rfl dX12_init_88 (by decide) (len := 264) (by decide) (by decide) (Nat.le_of_ble_eq_true rfl) (Nat.le_of_ble_eq_true rfl) (fun T20 I20 J20 P20 g => ?_)
  refine V.putrG g 10 (by omega) (by decide) rfl fl_X12_45 dX12_init_90 (by decide) (fun _ => ⟨rfl, _, rfl⟩) rfl rfl rfl (Nat.le_of_ble_eq_true rfl) (fun P21 g => ?_)
  refine V.aload_n dX12_init_93 rfl ?_
  refine V.bipush (v := 8) dX12_init_94 (by decide) ?_
  refine V.newIG (m1 := 12) g rfl dX12_init_96 (by decide) (len := 8) (by decide) (by decide) (Nat.le_of_ble_eq_true rfl) (Nat.le_of_ble_eq_true rfl) (fun T22 I22 J22 P22 g => ?_)
  refine V.putrG g 11 (by omega) (by decide) rfl fl_X12_48 dX12_init_98 (by decide) (fun _ => ⟨rfl, _, rfl⟩) rfl rfl rfl (Nat.le_of_ble_eq_true rfl) (fun P23 g => ?_)
  refine V.aload_n dX12_init_101 rfl ?_
  refine V.bipush (v := 6) dX12_init_102 (by decide) ?_
  refine V.newIG (m1 := 13) g rfl dX12_init_104 (by decide) (len := 6) (by decide) (by decide) (Nat.le_of_ble_eq_true rfl) (Nat.le_of_ble_eq_true rfl) (fun T24 I24 J24 P24 g => ?_)
  refine V.putrG g 12 (by omega) (by decide) rfl fl_X12_51 dX12_init_106 (by decide) (fun _ => ⟨rfl, _, rfl⟩) rfl rfl rfl (Nat.le_of_ble_eq_true rfl) (fun P25 g => ?_)
  refine V.aload_n dX12_init_109 rfl ?_
  refine V.bipush (v := 6) dX12_init_110 (by decide) ?_
  refine V.newIG (m1 := 14) g rfl dX12_init_112 (by decide) (len := 6) (by decide) (by decide) (Nat.le_of_ble_eq_true rfl) (Nat.le_of_ble_eq_true rfl) (fun T26 I26 J26 P26 g => ?_)
  refine V.putrG g 13 (by omega) (by decide) rfl fl_X12_54 dX12_init_114 (by decide) (fun _ => ⟨rfl, _, rfl⟩) rfl rfl rfl (Nat.le_of_ble_eq_true rfl) (fun P27 g => ?_)
  refine V.aload_n dX12_init_117 rfl ?_
  refine V.bipush (v := 100) dX12_init_118 (by decide) ?_
  refine V.newZG (m1 := 15) g rfl dX12_init_120 (by decide) (len := 100) (by decide) (by decide) (Nat.le_of_ble_eq_true rfl) (Nat.le_of_ble_eq_true rfl) (fun T28 I28 J28 P28 g => ?_)
  refine V.putrG g 14 (by omega) (by decide) rfl fl_X12_57 dX12_init_122 (by decide) (fun _ => ⟨rfl, _, rfl⟩) rfl rfl rfl (Nat.le_of_ble_eq_true rfl) (fun P29 g => ?_)
  refine V.aload_n dX12_init_125 rfl ?_
  refine V.sipush (v := 441) dX12_init_126 (by decide) ?_
  refine V.newIG (m1 := 16) g rfl dX12_init_129 (by decide) (len := 441) (by decide) (by decide) (Nat.le_of_ble_eq_true rfl) (Nat.le_of_ble_eq_true rfl) (fun T30 I30 J30 P30 g => ?_)
  refine V.putrG g 15 (by omega) (by decide) rfl fl_X12_60 dX12_init_131 (by decide) (fun _ => ⟨rfl, _, rfl⟩) rfl rfl rfl (Nat.le_of_ble_eq_true rfl) (fun P31 g => ?_)
  refine V.aload_n dX12_init_134 rfl ?_
  refine V.sipush (v := 441) dX12_init_135 (by decide) ?_
  refine V.newIG (m1 := 17) g rfl dX12_init_138 (by decide) (len := 441) (by decide) (by decide) (Nat.le_of_ble_eq_true rfl) (Nat.le_of_ble_eq_true rfl) (fun T32 I32 J32 P32 g => ?_)
  refine V.putrG g 16 (by omega) (by decide) rfl fl_X12_63 dX12_init_140 (by decide) (fun _ => ⟨rfl, _, rfl⟩) rfl rfl rfl (Nat.le_of_ble_eq_true rfl) (fun P33 g => ?_)
  refine V.aload_n dX12_init_143 rfl ?_
  refine V.bipush (v := 6) dX12_init_144 (by decide) ?_
  refine V.newJG (m1 := 18) g rfl dX12_init_146 (by decide) (len := 6) (by decide) (by decide) (Nat.le_of_ble_eq_true rfl) (Nat.le_of_ble_eq_true rfl) (fun T34 I34 J34 P34 g => ?_)
  refine V.putrG g 17 (by omega) (by decide) rfl fl_X12_66 dX12_init_148 (by decide) (fun _ => ⟨rfl, _, rfl⟩) rfl rfl rfl (Nat.le_of_ble_eq_true rfl) (fun P35 g => ?_)
  refine V.aload_n dX12_init_151 rfl ?_
  refine V.iconst (v := 4) dX12_init_152 (by decide) ?_
  refine V.newIG (m1 := 19) g rfl dX12_init_153 (by decide) (len := 4) (by decide) (by decide) (Nat.le_of_ble_eq_true rfl) (Nat.le_of_ble_eq_true rfl) (fun T36 I36 J36 P36 g => ?_)
  refine V.dup dX12_init_155 rfl ?_
  refine V.iconst (v := 0) dX12_init_156 (by decide) ?_
  refine V.iconst (v := -1) dX12_init_157 (by decide) ?_
  refine V.iastG (k := 18) g (by decide) rfl dX12_init_158 (vp_lit (by decide)) 0 (by decide) (fun I37 g => ?_)
  refine V.dup dX12_init_159 rfl ?_
  refine V.iconst (v := 1) dX12_init_160 (by decide) ?_
  refine V.iconst (v := -1) dX12_init_161 (by decide) ?_
  refine V.iastG (k := 18) g (by decide) rfl dX12_init_162 (vp_lit (by decide)) 1 (by decide) (fun I38 g => ?_)
  refine V.dup dX12_init_163 rfl ?_
  refine V.iconst (v := 2) dX12_init_164 (by decide) ?_
  refine V.iconst (v := -1) dX12_init_165 (by decide) ?_
  refine V.iastG (k := 18) g (by decide) rfl dX12_init_166 (vp_lit (by decide)) 2 (by decide) (fun I39 g => ?_)
  refine V.dup dX12_init_167 rfl ?_
  refine V.iconst (v := 3) dX12_init_168 (by decide) ?_
  refine V.iconst (v := -1) dX12_init_169 (by decide) ?_
  refine V.iastG (k := 18) g (by decide) rfl dX12_init_170 (vp_lit (by decide)) 3 (by decide) (fun I40 g => ?_)
  refine V.putrG g 18 (by omega) (by decide) rfl fl_X12_70 dX12_init_171 (by decide) (fun _ => ⟨rfl, _, rfl⟩) rfl rfl rfl (Nat.le_of_ble_eq_true rfl) (fun P41 g => ?_)
  refine V.aload_n dX12_init_174 rfl ?_
  refine V.iconst (v := 4) dX12_init_175 (by decide) ?_
  refine V.newIG (m1 := 20) g rfl dX12_init_176 (by decide) (len := 4) (by decide) (by decide) (Nat.le_of_ble_eq_true rfl) (Nat.le_of_ble_eq_true rfl) (fun T42 I42 J42 P42 g => ?_)
  refine V.putrG g 19 (by omega) (by decide) rfl fl_X12_73 dX12_init_178 (by decide) (fun _ => ⟨rfl, _, rfl⟩) rfl rfl rfl (Nat.le_of_ble_eq_true rfl) (fun P43 g => ?_)
  refine V.aload_n dX12_init_181 rfl ?_
  refine V.sipush (v := 160) dX12_init_182 (by decide) ?_
  refine V.newJG (m1 := 21) g rfl dX12_init_185 (by decide) (len := 160) (by decide) (by decide) (Nat.le_of_ble_eq_true rfl) (Nat.le_of_ble_eq_true rfl) (fun T44 I44 J44 P44 g => ?_)
  refine V.putrG g 20 (by omega) (by decide) rfl fl_X12_76 dX12_init_187 (by decide) (fun _ => ⟨rfl, _, rfl⟩) rfl rfl rfl (Nat.le_of_ble_eq_true rfl) (fun P45 g => ?_)
  refine V.aload_n dX12_init_190 rfl ?_
  refine V.getr fl_X12_13 dX12_init_191 (g.T 0 (by decide) rfl) (g.r 0 1 (z := 1) (by decide) rfl) (by decide) rfl ?_
  refine V.ins cs_X12_79 (c_r_plain (F := 2000) (lenT_of (g.T 1 (by decide) rfl)) (plain_zero (lenT_is (g.T 1 (by decide) rfl)) (fun i _ => congrFun (g.2.2 1 (by decide)).2.1 i))) dX12_init_194 rfl rfl (Nat.le_of_ble_eq_true rfl) (by decide) (by decide) (Nat.le_of_ble_eq_true rfl) (Nat.le_of_ble_eq_true rfl) (fun _ _ hq => ?_)
  obtain ⟨rfl, rfl⟩ := hq
  exact V.vret dX12_init_197 rfl (Nat.le_of_ble_eq_true rfl) (Nat.le_of_ble_eq_true rfl) ⟨rfl, g⟩
