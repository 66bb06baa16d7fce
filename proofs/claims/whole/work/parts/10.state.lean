/-- the answer and the heap, told exactly -/
abbrev Ret (v : Option Value) (h : HT) : Option Value → HT → Prop := fun v' h' => v' = v ∧ h' = h
/-- a State at a: its object, its six arrays behind it -/
def isSt (T : Nat → Option (Nat × Nat)) (P : Nat → Nat → Option Nat) (a : Nat) : Prop := (T a = some (8, 0) ∧ T (a + 1) = some (20, 6) ∧ T (a + 2) = some (20, 6) ∧ T (a + 3) = some (20, 6) ∧ T (a + 4) = some (20, 6) ∧ T (a + 5) = some (20, 6) ∧ T (a + 6) = some (20, 6)) ∧ P a 4 = some (a + 1) ∧ P a 5 = some (a + 2) ∧ P a 6 = some (a + 3) ∧ P a 7 = some (a + 4) ∧ P a 8 = some (a + 5) ∧ P a 9 = some (a + 6)
/-- a bit of a set, as the class tells it -/
def bitF (x p : Int32) : Int32 := if (x >>> (p &&& 31)) &&& 1 = 0 then 0 else 1
section S1
variable {l : Launch} {D : va_G} {E : Nat → ClassId} {B : Nat} {n : Nat} {T : Nat → Option (Nat × Nat)} {I : Nat → Nat → Int32} {J : Nat → Nat → Int64} {P : Nat → Nat → Option Nat}
theorem dX8_isUp_0 : decode cX8_isUp 0 = .ok (.aload_n 0, 1) := by decide +kernel
theorem dX8_isUp_1 : decode cX8_isUp 1 = .ok (.getfield 34, 3) := by decide +kernel
theorem dX8_isUp_4 : decode cX8_isUp 4 = .ok (.iload_n 1, 1) := by decide +kernel
theorem dX8_isUp_5 : decode cX8_isUp 5 = .ok (.ishr, 1) := by decide +kernel
theorem dX8_isUp_6 : decode cX8_isUp 6 = .ok (.iconst 1, 1) := by decide +kernel
theorem dX8_isUp_7 : decode cX8_isUp 7 = .ok (.iand, 1) := by decide +kernel
theorem dX8_isUp_8 : decode cX8_isUp 8 = .ok (.ifCond .eq 7, 3) := by decide +kernel
theorem dX8_isUp_11 : decode cX8_isUp 11 = .ok (.iconst 1, 1) := by decide +kernel
theorem dX8_isUp_12 : decode cX8_isUp 12 = .ok (.goto 4, 3) := by decide +kernel
theorem dX8_isUp_15 : decode cX8_isUp 15 = .ok (.iconst 0, 1) := by decide +kernel
theorem dX8_isUp_16 : decode cX8_isUp 16 = .ok (.ireturn, 1) := by decide +kernel
theorem c_X8_isUp {a : Nat} {p : Int32} (hs : isSt T P a) (d : Nat) : Ct l D E B yX8_isUp cX8_isUp 2 (some .boolean) d 0 0 [.ref a, .int p] (n, T, I, J, P) (Ret (some (.int (bitF (I a 1) p))) (n, T, I, J, P)) := by
  obtain ⟨⟨t0, t1, t2, t3, t4, t5, t6⟩, p4, p5, p6, p7, p8, p9⟩ := hs
  refine Ct.ofV (by decide) (Nat.le_of_ble_eq_true rfl) ?_
  refine V.aload_n dX8_isUp_0 rfl ?_
  refine V.getf fl_X8_34 dX8_isUp_1 (by assumption) (by decide) rfl ?_
  refine V.iload_n dX8_isUp_4 rfl ?_
  refine V.ishr dX8_isUp_5 ?_
  refine V.iconst (v := 1) dX8_isUp_6 (by decide) ?_
  refine V.iand dX8_isUp_7 ?_
  refine V.if_eq 15 dX8_isUp_8 (by decide) (fun c_8 => ?_) (fun c_8 => ?_)
  · refine V.iconst (v := 0) dX8_isUp_15 (by decide) ?_
    refine V.zret dX8_isUp_16 rfl rfl (Nat.le_refl _) (Nat.le_refl _) ?_
    refine ⟨?_, rfl⟩
    unfold bitF
    simp [c_8]
  · refine V.iconst (v := 1) dX8_isUp_11 (by decide) ?_
    refine V.goto 16 dX8_isUp_12 (by decide) ?_
    refine V.zret dX8_isUp_16 rfl rfl (Nat.le_refl _) (Nat.le_refl _) ?_
    refine ⟨?_, rfl⟩
    unfold bitF
    simp [c_8]
end S1
