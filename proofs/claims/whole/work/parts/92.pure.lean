/-! images; new laws: what stays of the layout when cells come behind and references are written -/
def TX (T T' : Nat → Option (Nat × Nat)) : Prop := ∀ a q, T a = some q → T' a = some q
def PY (x : Nat) (T : Nat → Option (Nat × Nat)) (P P' : Nat → Nat → Option Nat) : Prop := ∀ q i s, T q = some s → ¬ (q = x ∧ i = 3) → ¬ (q = x + 2 ∧ (i = 2 ∨ i = 8)) → q ≠ x + 92 → ¬ (s.1 = 1 ∧ (i = 8 ∨ i = 9)) → P' q i = P q i
theorem TX.rf {T : Nat → Option (Nat × Nat)} : TX T T := fun _ _ h => h
theorem TX.tr {T T1 T2 : Nat → Option (Nat × Nat)} (h : TX T T1) (h2 : TX T1 T2) : TX T T2 := fun a q e => h2 a q (h a q e)
theorem PY.rf {x : Nat} {T : Nat → Option (Nat × Nat)} {P : Nat → Nat → Option Nat} : PY x T P P := fun _ _ _ _ _ _ _ _ => rfl
theorem PY.tr {x : Nat} {T T1 : Nat → Option (Nat × Nat)} {P P1 P2 : Nat → Nat → Option Nat} (h : PY x T P P1) (hT : TX T T1) (h2 : PY x T1 P1 P2) : PY x T P P2 := fun q i s e a b c d => (h2 q i s (hT q s e) a b c d).trans (h q i s e a b c d)
theorem isOb.py {sh : Nat → Option (Nat × Nat)} {rf : Nat → Nat → Option Nat} {T T' : Nat → Option (Nat × Nat)} {P P' : Nat → Nat → Option Nat} {a x : Nat} (h : isOb sh rf T P a) (hx : isSR T P x) (hs : ∀ k i r, rf k i = some r → ∃ s, sh k = some s ∧ s ≠ (11, 0) ∧ s ≠ (7, 0) ∧ s ≠ (24, 2) ∧ ¬ (s.1 = 1 ∧ (i = 8 ∨ i = 9))) (hT : TX T T') (hP : PY x T P P') : isOb sh rf T' P' a := ⟨fun k q e => hT _ _ (h.1 k q e), fun k i r hr => by
  obtain ⟨s, e1, e2, e3, e4, e5⟩ := hs k i r hr
  have e0 := h.1 k s e1
  rw [hP (a + k) i s e0 (fun cc => shNe e0 (hx.1 0 (11, 0) rfl) e2 cc.1) (fun cc => shNe e0 (hx.1 2 (7, 0) rfl) e3 cc.1) (shNe e0 (hx.1 92 (24, 2) rfl) e4) e5]
  exact h.2 k i r hr⟩
theorem isSt.py {T T' : Nat → Option (Nat × Nat)} {P P' : Nat → Nat → Option Nat} {a x : Nat} (h : isSt T P a) (hx : isSR T P x) (hT : TX T T') (hP : PY x T P P') : isSt T' P' a := isOb.py h hx (fun k i r hr => by
  have hk : k = 0 := by
    unfold rfSt at hr
    split at hr
    · omega
    · cases hr
  subst hk
  exact ⟨(8, 0), rfl, by decide, by decide, by decide, fun cc => absurd cc.1 (by decide)⟩) hT hP
theorem isMm.py {T T' : Nat → Option (Nat × Nat)} {P P' : Nat → Nat → Option Nat} {a x : Nat} (h : isMm T P a) (hx : isSR T P x) (hT : TX T T') (hP : PY x T P P') : isMm T' P' a := isOb.py h hx (fun k i r hr => by
  have hk : k = 0 := by
    unfold rfMm at hr
    split at hr
    · omega
    · cases hr
  subst hk
  exact ⟨(3, 0), rfl, by decide, by decide, by decide, fun cc => absurd cc.1 (by decide)⟩) hT hP
theorem isTy.py {T T' : Nat → Option (Nat × Nat)} {P P' : Nat → Nat → Option Nat} {a x : Nat} (h : isTy T P a) (hx : isSR T P x) (hT : TX T T') (hP : PY x T P P') : isTy T' P' a := isOb.py h hx (fun k i r hr => by
  have hk : k = 0 := by
    unfold rfMm at hr
    split at hr
    · omega
    · cases hr
  subst hk
  exact ⟨(9, 0), rfl, by decide, by decide, by decide, fun cc => absurd cc.1 (by decide)⟩) hT hP
theorem isLw.py {T T' : Nat → Option (Nat × Nat)} {P P' : Nat → Nat → Option Nat} {w x : Nat} (h : isLw T P w) (hx : isSR T P x) (hT : TX T T') (hP : PY x T P P') : isLw T' P' w := by
  obtain ⟨h1, h2, h3⟩ := h
  have l2 : lenT T' (w + 1) = lenT T (w + 1) := by
    unfold lenT
    rw [hT _ _ h2, h2]
  refine ⟨hT _ _ h1, by rw [l2]; exact hT _ _ h2, ?_⟩
  rw [hP w 0 (2, 0) h1 (fun cc => by omega) (fun cc => by omega) (shNe h1 (hx.1 92 (24, 2) rfl) (by decide)) (fun cc => absurd cc.1 (by decide))]
  exact h3
theorem isCt.py {T T' : Nat → Option (Nat × Nat)} {P P' : Nat → Nat → Option Nat} {c x : Nat} (h : isCt T P c) (hx : isSR T P x) (hT : TX T T') (hP : PY x T P P') (h8 : ∀ w, P' c 8 = some w → isLw T' P' w) (h9 : ∀ w, P' c 9 = some w → isLw T' P' w) : isCt T' P' c := by
  refine ⟨isOb.py h.1 hx (fun k i r hr => ?_) hT hP, h8, h9⟩
  match k, hr with
  | 0, hr => exact ⟨(1, 0), rfl, by decide, by decide, by decide, fun cc => by rcases cc.2 with e | e <;> subst e <;> cases hr⟩
theorem isSR.py {T T' : Nat → Option (Nat × Nat)} {P P' : Nat → Nat → Option Nat} {x : Nat} (hx : isSR T P x) (hT : TX T T') (hP : PY x T P P') : isSR T' P' x := by
  refine ⟨fun k q e => hT _ _ (hx.1 k q e), fun k i r hr => ?_, fun q hq => isSt.py (hx.2.2.1 q hq) hx hT hP, fun q hq => isMm.py (hx.2.2.2.1 q hq) hx hT hP, fun q hq => isTy.py (hx.2.2.2.2 q hq) hx hT hP⟩
  have key : ∃ s, shSR k = some s ∧ s.1 ≠ 1 ∧ ¬ (k = 0 ∧ i = 3) ∧ ¬ (k = 2 ∧ (i = 2 ∨ i = 8)) ∧ k ≠ 92 := by
    match k, hr with
    | 0, hr => exact ⟨_, rfl, by decide, (fun cc => by rw [cc.2] at hr; cases hr), fun cc => by omega, by decide⟩
    | 2, hr => exact ⟨_, rfl, by decide, fun cc => by omega, (fun cc => by rcases cc.2 with e | e <;> subst e <;> cases hr), by decide⟩
    | 19, hr => exact ⟨_, rfl, by decide, fun cc => by omega, fun cc => by omega, by decide⟩
    | 108, hr => exact ⟨_, rfl, by decide, fun cc => by omega, fun cc => by omega, by decide⟩
    | 114, hr => exact ⟨_, rfl, by decide, fun cc => by omega, fun cc => by omega, by decide⟩
    | 214, hr => exact ⟨_, rfl, by decide, fun cc => by omega, fun cc => by omega, by decide⟩
    | 219, hr => exact ⟨_, rfl, by decide, fun cc => by omega, fun cc => by omega, by decide⟩
    | 20, hr => exact ⟨_, rfl, by decide, fun cc => by omega, fun cc => by omega, by decide⟩
    | 91, hr => exact ⟨_, rfl, by decide, fun cc => by omega, fun cc => by omega, by decide⟩
    | 93, hr => exact ⟨_, rfl, by decide, fun cc => by omega, fun cc => by omega, by decide⟩
    | 157, hr => exact ⟨_, rfl, by decide, fun cc => by omega, fun cc => by omega, by decide⟩
  obtain ⟨s, e1, e2, e3, e4, e5⟩ := key
  rw [hP (x + k) i s (hx.1 k s e1) (fun cc => e3 ⟨by omega, cc.2⟩) (fun cc => e4 ⟨by omega, cc.2⟩) (fun cc => e5 (by omega)) (fun cc => e2 cc.1)]
  exact hx.2.1 k i r hr
theorem PY.img {x i : Nat} {T : Nat → Option (Nat × Nat)} {P : Nat → Nat → Option Nat} {v : Option Nat} : PY x T P (uP P (x + 92) i v) := fun q j s _ _ _ h _ => by rw [uP_n _ _ _ h]
theorem PY.crt {x : Nat} {T : Nat → Option (Nat × Nat)} {P : Nat → Nat → Option Nat} {v : Option Nat} : PY x T P (uP P x 3 v) := fun q j s _ h1 _ _ _ => by
  by_cases e : q = x
  · subst e
    rw [uP_s, va_up_ne _ _ (fun cc => h1 ⟨rfl, cc⟩)]
  · rw [uP_n _ _ _ e]
theorem dX2_init_0 : decode cX2_init 0 = .ok (.aload_n 0, 1) := by decide +kernel
theorem dX2_init_1 : decode cX2_init 1 = .ok (.invokespecial 1, 3) := by decide +kernel
theorem dX2_init_4 : decode cX2_init 4 = .ok (.aload_n 0, 1) := by decide +kernel
theorem dX2_init_5 : decode cX2_init 5 = .ok (.aload_n 1, 1) := by decide +kernel
theorem dX2_init_6 : decode cX2_init 6 = .ok (.putfield 7, 3) := by decide +kernel
theorem dX2_init_9 : decode cX2_init 9 = .ok (.return_, 1) := by decide +kernel
theorem dX11_image_0 : decode cX11_image 0 = .ok (.iload_n 1, 1) := by decide +kernel
theorem dX11_image_1 : decode cX11_image 1 = .ok (.ifCond .lt 8, 3) := by decide +kernel
theorem dX11_image_4 : decode cX11_image 4 = .ok (.iload_n 1, 1) := by decide +kernel
theorem dX11_image_5 : decode cX11_image 5 = .ok (.iconst 2, 1) := by decide +kernel
theorem dX11_image_6 : decode cX11_image 6 = .ok (.if_icmp .lt 6, 3) := by decide +kernel
theorem dX11_image_9 : decode cX11_image 9 = .ok (.bipush (-2), 2) := by decide +kernel
theorem dX11_image_11 : decode cX11_image 11 = .ok (.ireturn, 1) := by decide +kernel
theorem dX11_image_12 : decode cX11_image 12 = .ok (.aload_n 0, 1) := by decide +kernel
theorem dX11_image_13 : decode cX11_image 13 = .ok (.getfield 47, 3) := by decide +kernel
theorem dX11_image_16 : decode cX11_image 16 = .ok (.iload_n 1, 1) := by decide +kernel
theorem dX11_image_17 : decode cX11_image 17 = .ok (.aload_n 0, 1) := by decide +kernel
theorem dX11_image_18 : decode cX11_image 18 = .ok (.getfield 23, 3) := by decide +kernel
theorem dX11_image_21 : decode cX11_image 21 = .ok (.aastore, 1) := by decide +kernel
theorem dX11_image_22 : decode cX11_image 22 = .ok (.aload_n 0, 1) := by decide +kernel
theorem dX11_image_23 : decode cX11_image 23 = .ok (.getfield 51, 3) := by decide +kernel
theorem dX11_image_26 : decode cX11_image 26 = .ok (.iload_n 1, 1) := by decide +kernel
theorem dX11_image_27 : decode cX11_image 27 = .ok (.aaload, 1) := by decide +kernel
theorem dX11_image_28 : decode cX11_image 28 = .ok (.aload_n 0, 1) := by decide +kernel
theorem dX11_image_29 : decode cX11_image 29 = .ok (.getfield 30, 3) := by decide +kernel
theorem dX11_image_32 : decode cX11_image 32 = .ok (.invokevirtual 174, 3) := by decide +kernel
theorem dX11_image_35 : decode cX11_image 35 = .ok (.iconst 0, 1) := by decide +kernel
theorem dX11_image_36 : decode cX11_image 36 = .ok (.ireturn, 1) := by decide +kernel
theorem dX11_restore_0 : decode cX11_restore 0 = .ok (.iload_n 1, 1) := by decide +kernel
theorem dX11_restore_1 : decode cX11_restore 1 = .ok (.ifCond .lt 8, 3) := by decide +kernel
theorem dX11_restore_4 : decode cX11_restore 4 = .ok (.iload_n 1, 1) := by decide +kernel
theorem dX11_restore_5 : decode cX11_restore 5 = .ok (.iconst 2, 1) := by decide +kernel
theorem dX11_restore_6 : decode cX11_restore 6 = .ok (.if_icmp .lt 6, 3) := by decide +kernel
theorem dX11_restore_9 : decode cX11_restore 9 = .ok (.bipush (-2), 2) := by decide +kernel
theorem dX11_restore_11 : decode cX11_restore 11 = .ok (.ireturn, 1) := by decide +kernel
theorem dX11_restore_12 : decode cX11_restore 12 = .ok (.aload_n 0, 1) := by decide +kernel
theorem dX11_restore_13 : decode cX11_restore 13 = .ok (.getfield 47, 3) := by decide +kernel
theorem dX11_restore_16 : decode cX11_restore 16 = .ok (.iload_n 1, 1) := by decide +kernel
theorem dX11_restore_17 : decode cX11_restore 17 = .ok (.aaload, 1) := by decide +kernel
theorem dX11_restore_18 : decode cX11_restore 18 = .ok (.astore_n 2, 1) := by decide +kernel
theorem dX11_restore_19 : decode cX11_restore 19 = .ok (.aload_n 2, 1) := by decide +kernel
theorem dX11_restore_20 : decode cX11_restore 20 = .ok (.ifnonnull 6, 3) := by decide +kernel
theorem dX11_restore_23 : decode cX11_restore 23 = .ok (.bipush (-5), 2) := by decide +kernel
theorem dX11_restore_25 : decode cX11_restore 25 = .ok (.ireturn, 1) := by decide +kernel
theorem dX11_restore_26 : decode cX11_restore 26 = .ok (.aload_n 0, 1) := by decide +kernel
theorem dX11_restore_27 : decode cX11_restore 27 = .ok (.aload_n 2, 1) := by decide +kernel
theorem dX11_restore_28 : decode cX11_restore 28 = .ok (.putfield 23, 3) := by decide +kernel
theorem dX11_restore_31 : decode cX11_restore 31 = .ok (.aload_n 0, 1) := by decide +kernel
theorem dX11_restore_32 : decode cX11_restore 32 = .ok (.getfield 30, 3) := by decide +kernel
theorem dX11_restore_35 : decode cX11_restore 35 = .ok (.aload_n 0, 1) := by decide +kernel
theorem dX11_restore_36 : decode cX11_restore 36 = .ok (.getfield 51, 3) := by decide +kernel
theorem dX11_restore_39 : decode cX11_restore 39 = .ok (.iload_n 1, 1) := by decide +kernel
theorem dX11_restore_40 : decode cX11_restore 40 = .ok (.aaload, 1) := by decide +kernel
theorem dX11_restore_41 : decode cX11_restore 41 = .ok (.invokevirtual 174, 3) := by decide +kernel
theorem dX11_restore_44 : decode cX11_restore 44 = .ok (.aload_n 0, 1) := by decide +kernel
theorem dX11_restore_45 : decode cX11_restore 45 = .ok (.getfield 37, 3) := by decide +kernel
theorem dX11_restore_48 : decode cX11_restore 48 = .ok (.invokevirtual 118, 3) := by decide +kernel
theorem dX11_restore_51 : decode cX11_restore 51 = .ok (.aload_n 0, 1) := by decide +kernel
theorem dX11_restore_52 : decode cX11_restore 52 = .ok (.dup, 1) := by decide +kernel
theorem dX11_restore_53 : decode cX11_restore 53 = .ok (.getfield 55, 3) := by decide +kernel
theorem dX11_restore_56 : decode cX11_restore 56 = .ok (.iconst 1, 1) := by decide +kernel
theorem dX11_restore_57 : decode cX11_restore 57 = .ok (.iadd, 1) := by decide +kernel
theorem dX11_restore_58 : decode cX11_restore 58 = .ok (.putfield 55, 3) := by decide +kernel
theorem dX11_restore_61 : decode cX11_restore 61 = .ok (.iconst 0, 1) := by decide +kernel
theorem dX11_restore_62 : decode cX11_restore 62 = .ok (.ireturn, 1) := by decide +kernel
theorem dJ7_copyOf_59c91_0 : decode cJ7_copyOf_59c91 0 = .ok (.iload_n 1, 1) := by decide +kernel
theorem dJ7_copyOf_59c91_1 : decode cJ7_copyOf_59c91 1 = .ok (.aload_n 0, 1) := by decide +kernel
theorem dJ7_copyOf_59c91_2 : decode cJ7_copyOf_59c91 2 = .ok (.arraylength, 1) := by decide +kernel
theorem dJ7_copyOf_59c91_3 : decode cJ7_copyOf_59c91 3 = .ok (.if_icmp .ne 11, 3) := by decide +kernel
theorem dJ7_copyOf_59c91_6 : decode cJ7_copyOf_59c91 6 = .ok (.aload_n 0, 1) := by decide +kernel
theorem dJ7_copyOf_59c91_14 : decode cJ7_copyOf_59c91 14 = .ok (.iload_n 1, 1) := by decide +kernel
theorem dJ7_copyOf_59c91_15 : decode cJ7_copyOf_59c91 15 = .ok (.newarray .int, 2) := by decide +kernel
theorem dJ7_copyOf_59c91_17 : decode cJ7_copyOf_59c91 17 = .ok (.astore_n 2, 1) := by decide +kernel
theorem dJ7_copyOf_59c91_18 : decode cJ7_copyOf_59c91 18 = .ok (.aload_n 0, 1) := by decide +kernel
theorem dJ7_copyOf_59c91_19 : decode cJ7_copyOf_59c91 19 = .ok (.iconst 0, 1) := by decide +kernel
theorem dJ7_copyOf_59c91_20 : decode cJ7_copyOf_59c91 20 = .ok (.aload_n 2, 1) := by decide +kernel
theorem dJ7_copyOf_59c91_21 : decode cJ7_copyOf_59c91 21 = .ok (.iconst 0, 1) := by decide +kernel
theorem dJ7_copyOf_59c91_22 : decode cJ7_copyOf_59c91 22 = .ok (.aload_n 0, 1) := by decide +kernel
theorem dJ7_copyOf_59c91_23 : decode cJ7_copyOf_59c91 23 = .ok (.arraylength, 1) := by decide +kernel
theorem dJ7_copyOf_59c91_24 : decode cJ7_copyOf_59c91 24 = .ok (.iload_n 1, 1) := by decide +kernel
theorem dJ7_copyOf_59c91_25 : decode cJ7_copyOf_59c91 25 = .ok (.invokestatic 304, 3) := by decide +kernel
theorem dJ7_copyOf_59c91_28 : decode cJ7_copyOf_59c91 28 = .ok (.invokestatic 150, 3) := by decide +kernel
theorem dJ7_copyOf_59c91_31 : decode cJ7_copyOf_59c91 31 = .ok (.aload_n 2, 1) := by decide +kernel
theorem dJ7_copyOf_59c91_32 : decode cJ7_copyOf_59c91 32 = .ok (.areturn, 1) := by decide +kernel
def x_image (I : Nat → Nat → Int32) (P : Nat → Nat → Option Nat) (x c : Nat) (v1 : Int32) : Option (Int32 × (Nat → Nat → Int32) × (Nat → Nat → Option Nat)) := if v1 < 0 then some (-2, I, P) else (if v1 < 2 then (chk v1 2 ((s_copyFrom I (x + (143 + 7 * (Int32.toNatClampNeg v1))) (x + 12)).bind (fun I6 => some (0, I6, uP P (x + 92) (Int32.toNatClampNeg v1) (some c))))) else some (-2, I, P))
theorem c_x_image {l : Launch} {D : va_G} {E : Nat → ClassId} {B : Nat → Prop} {n : Nat} {T : Nat → Option (Nat × Nat)} {I : Nat → Nat → Int32} {J : Nat → Nat → Int64} {P : Nat → Nat → Option Nat} {x c : Nat} {v1 : Int32} {r : Int32 × (Nat → Nat → Int32) × (Nat → Nat → Option Nat)} (hx : isSR T P x) (hs_c : isCt T P c) (hc : P x 3 = some c) (hf : x_image I P x c v1 = some r) : Ct l D E B yX11_image cX11_image 2 (some .int) 2 0 0 [.ref x, .int v1] (n, T, I, J, P) (Ret (some (.int r.1)) (n, T, r.2.1, J, r.2.2)) := by
  unfold x_image at hf
  refine Ct.ofV (by decide) (Nat.le_of_ble_eq_true rfl) ?_
  refine V.iload_n dX11_image_0 rfl ?_
  refine V.if_lt 9 dX11_image_1 (by decide) (fun c1 => ?_) (fun c1 => ?_)
  · rw [if_pos c1] at hf
    refine V.bipush (v := -2) dX11_image_9 (by decide) ?_
    obtain rfl := Option.some.inj hf
    exact V.iret dX11_image_11 rfl (Nat.le_refl _) (Nat.le_refl _) ⟨rfl, rfl⟩
  rw [if_neg c1] at hf
  refine V.iload_n dX11_image_4 rfl ?_
  refine V.iconst (v := 2) dX11_image_5 (by decide) ?_
  refine V.icmp_lt 12 dX11_image_6 (by decide) (fun c2 => ?_) (fun c2 => ?_)
  · rw [if_pos c2] at hf
    obtain ⟨hb, hf⟩ := chk_some hf
    obtain ⟨I6, hk, hf⟩ := bnd_some hf
    refine V.aload_n dX11_image_12 rfl ?_
    refine V.getr fl_X11_47 dX11_image_13 (hx.1 0 (11, 0) rfl) (hx.2.1 0 7 92 rfl) (by decide) rfl ?_
    refine V.iload_n dX11_image_16 rfl ?_
    refine V.aload_n dX11_image_17 rfl ?_
    refine V.getr fl_X11_23 dX11_image_18 (hx.1 0 (11, 0) rfl) hc (by decide) rfl ?_
    refine V.aast dX11_image_21 (hx.1 92 (24, 2) rfl) (hs_c.1.1 0 (1, 0) rfl) (Or.inl ⟨rfl, rfl⟩) hb ?_
    have hx2 : isSR T (uP P (x + 92) (Int32.toNatClampNeg v1) (some c)) x := hx.py TX.rf PY.img
    refine V.aload_n dX11_image_22 rfl ?_
    refine V.getr fl_X11_51 dX11_image_23 (hx2.1 0 (11, 0) rfl) (hx2.2.1 0 8 93 rfl) (by decide) rfl ?_
    refine V.iload_n dX11_image_26 rfl ?_
    refine V.aald dX11_image_27 (hx2.1 93 (25, 2) rfl) (by decide) hb (hx2.arr93 (i := v1) hb) ?_
    refine V.aload_n dX11_image_28 rfl ?_
    refine V.getr fl_X11_30 dX11_image_29 (hx2.1 0 (11, 0) rfl) (hx2.2.1 0 4 12 rfl) (by decide) rfl ?_
    refine V.inv cv_X11_174 (c_s_copyFrom (hx2.ob93 (i := v1) hb) (hx2.2.2.1 12 rfl) hk) dX11_image_32 ((hx2.ob93 (i := v1) hb).1 0 (8, 0) rfl) (by decide) rfl rfl rfl (Nat.le_of_ble_eq_true rfl) (by decide) (by decide) (Nat.le_refl _) (Nat.le_refl _) (fun _ _ hq => ?_)
    obtain ⟨rfl, rfl⟩ := hq
    refine V.iconst (v := 0) dX11_image_35 (by decide) ?_
    obtain rfl := Option.some.inj hf
    exact V.iret dX11_image_36 rfl (Nat.le_refl _) (Nat.le_refl _) ⟨rfl, rfl⟩
  · rw [if_neg c2] at hf
    refine V.bipush (v := -2) dX11_image_9 (by decide) ?_
    obtain rfl := Option.some.inj hf
    exact V.iret dX11_image_11 rfl (Nat.le_refl _) (Nat.le_refl _) ⟨rfl, rfl⟩
def x_restore (I : Nat → Nat → Int32) (P : Nat → Nat → Option Nat) (x : Nat) (v1 : Int32) : Option (Int32 × (Nat → Nat → Int32) × (Nat → Nat → Option Nat)) := if v1 < 0 then some (-2, I, P) else (if v1 < 2 then (chk v1 2 (match P (x + 92) (Int32.toNatClampNeg v1) with | none => some (-5, I, P) | some k => (s_copyFrom I (x + 12) (x + (143 + 7 * (Int32.toNatClampNeg v1)))).bind (fun I6 => (pa_forget I6 x).bind (fun I7 => some (0, uI I7 x 9 (I7 x 9 + 1), uP P x 3 (some k)))))) else some (-2, I, P))
theorem c_x_restore {l : Launch} {D : va_G} {E : Nat → ClassId} {B : Nat → Prop} {n : Nat} {T : Nat → Option (Nat × Nat)} {I : Nat → Nat → Int32} {J : Nat → Nat → Int64} {P : Nat → Nat → Option Nat} {x : Nat} {v1 : Int32} {r : Int32 × (Nat → Nat → Int32) × (Nat → Nat → Option Nat)} (hx : isSR T P x) (hf : x_restore I P x v1 = some r) : Ct l D E B yX11_restore cX11_restore 3 (some .int) 2 0 0 [.ref x, .int v1] (n, T, I, J, P) (Ret (some (.int r.1)) (n, T, r.2.1, J, r.2.2)) := by
  unfold x_restore at hf
  refine Ct.ofV (by decide) (Nat.le_of_ble_eq_true rfl) ?_
  refine V.iload_n dX11_restore_0 rfl ?_
  refine V.if_lt 9 dX11_restore_1 (by decide) (fun c1 => ?_) (fun c1 => ?_)
  · rw [if_pos c1] at hf
    refine V.bipush (v := -2) dX11_restore_9 (by decide) ?_
    obtain rfl := Option.some.inj hf
    exact V.iret dX11_restore_11 rfl (Nat.le_refl _) (Nat.le_refl _) ⟨rfl, rfl⟩
  rw [if_neg c1] at hf
  refine V.iload_n dX11_restore_4 rfl ?_
  refine V.iconst (v := 2) dX11_restore_5 (by decide) ?_
  refine V.icmp_lt 12 dX11_restore_6 (by decide) (fun c2 => ?_) (fun c2 => ?_)
  · rw [if_pos c2] at hf
    obtain ⟨hb, hf⟩ := chk_some hf
    refine V.aload_n dX11_restore_12 rfl ?_
    refine V.getr fl_X11_47 dX11_restore_13 (hx.1 0 (11, 0) rfl) (hx.2.1 0 7 92 rfl) (by decide) rfl ?_
    refine V.iload_n dX11_restore_16 rfl ?_
    cases hk0 : P (x + 92) (Int32.toNatClampNeg v1) with
    | none =>
      rw [hk0] at hf
      refine V.aaldN dX11_restore_17 (hx.1 92 (24, 2) rfl) (by decide) hb hk0 ?_
      refine V.astore_nN dX11_restore_18 rfl (by decide) (by first | exact rfl | exact trivial) ?_
      refine V.aload_nN dX11_restore_19 rfl ?_
      refine V.ifnonnullN dX11_restore_20 ?_
      refine V.bipush (v := -5) dX11_restore_23 (by decide) ?_
      obtain rfl := Option.some.inj hf
      exact V.iret dX11_restore_25 rfl (Nat.le_refl _) (Nat.le_refl _) ⟨rfl, rfl⟩
    | some k =>
      rw [hk0] at hf
      obtain ⟨I6, hk, hf⟩ := bnd_some hf
      obtain ⟨I7, hk7, hf⟩ := bnd_some hf
      refine V.aald dX11_restore_17 (hx.1 92 (24, 2) rfl) (by decide) hb hk0 ?_
      refine V.astore_n dX11_restore_18 rfl (by decide) (by first | exact rfl | exact trivial) ?_
      refine V.aload_n dX11_restore_19 rfl ?_
      refine V.ifnonnull 26 dX11_restore_20 (by decide) ?_
      refine V.aload_n dX11_restore_26 rfl ?_
      refine V.aload_n dX11_restore_27 rfl ?_
      refine V.putr fl_X11_23 dX11_restore_28 (hx.1 0 (11, 0) rfl) (by decide) (fun h => by cases h) rfl rfl rfl (Nat.le_of_ble_eq_true rfl) ?_
      have hx2 : isSR T (uP P x 3 (some k)) x := hx.py TX.rf PY.crt
      refine V.aload_n dX11_restore_31 rfl ?_
      refine V.getr fl_X11_30 dX11_restore_32 (hx2.1 0 (11, 0) rfl) (hx2.2.1 0 4 12 rfl) (by decide) rfl ?_
      refine V.aload_n dX11_restore_35 rfl ?_
      refine V.getr fl_X11_51 dX11_restore_36 (hx2.1 0 (11, 0) rfl) (hx2.2.1 0 8 93 rfl) (by decide) rfl ?_
      refine V.iload_n dX11_restore_39 rfl ?_
      refine V.aald dX11_restore_40 (hx2.1 93 (25, 2) rfl) (by decide) hb (hx2.arr93 (i := v1) hb) ?_
      refine V.inv cv_X11_174 (c_s_copyFrom (hx2.2.2.1 12 rfl) (hx2.ob93 (i := v1) hb) hk) dX11_restore_41 ((hx2.2.2.1 12 rfl).1 0 (8, 0) rfl) (by decide) rfl rfl rfl (Nat.le_of_ble_eq_true rfl) (by decide) (by decide) (Nat.le_refl _) (Nat.le_refl _) (fun _ _ hq => ?_)
      obtain ⟨rfl, rfl⟩ := hq
      refine V.aload_n dX11_restore_44 rfl ?_
      refine V.getr fl_X11_37 dX11_restore_45 (hx2.1 0 (11, 0) rfl) (hx2.2.1 0 5 19 rfl) (by decide) rfl ?_
      refine V.inv cv_X11_118 (c_pa_forget hx2 hk7) dX11_restore_48 (hx2.1 19 (6, 0) rfl) (by decide) rfl rfl rfl (Nat.le_of_ble_eq_true rfl) (by decide) (by decide) (Nat.le_refl _) (Nat.le_refl _) (fun _ _ hq => ?_)
      obtain ⟨rfl, rfl⟩ := hq
      refine V.aload_n dX11_restore_51 rfl ?_
      refine V.dup dX11_restore_52 rfl ?_
      refine V.getf fl_X11_55 dX11_restore_53 (hx2.1 0 (11, 0) rfl) (by decide) rfl ?_
      refine V.iconst (v := 1) dX11_restore_56 (by decide) ?_
      refine V.iadd dX11_restore_57 ?_
      refine V.puti fl_X11_55 dX11_restore_58 (hx2.1 0 (11, 0) rfl) (by decide) (fun h => by cases h) rfl rfl rfl (Nat.le_of_ble_eq_true rfl) ?_
      refine V.iconst (v := 0) dX11_restore_61 (by decide) ?_
      obtain rfl := Option.some.inj hf
      exact V.iret dX11_restore_62 rfl (Nat.le_refl _) (Nat.le_refl _) ⟨rfl, rfl⟩
  · rw [if_neg c2] at hf
    refine V.bipush (v := -2) dX11_restore_9 (by decide) ?_
    obtain rfl := Option.some.inj hf
    exact V.iret dX11_restore_11 rfl (Nat.le_refl _) (Nat.le_refl _) ⟨rfl, rfl⟩
/-- a law takes its row of steps -/
theorem c_w_init {l : Launch} {D : va_G} {E : Nat → ClassId} {B : Nat → Prop} {n : Nat} {T : Nat → Option (Nat × Nat)} {I : Nat → Nat → Int32} {J : Nat → Nat → Int64} {P : Nat → Nat → Option Nat} {w q z : Nat} (hw : T w = some (2, z)) : Ct l D E B yX2_init cX2_init 2 none 1 0 0 [.ref w, .ref q] (n, T, I, J, P) (Ret none (n, T, I, J, uP P w 0 (some q))) := by
  refine Ct.ofV (by decide) (Nat.le_of_ble_eq_true rfl) ?_
  refine V.aload_n dX2_init_0 rfl ?_
  refine V.obj0 koi_X2 dX2_init_1 (by decide) (by decide) ?_
  refine V.aload_n dX2_init_4 rfl ?_
  refine V.aload_n dX2_init_5 rfl ?_
  refine V.putr fl_X2_7 dX2_init_6 hw (by decide) (fun _ => ⟨rfl, _, rfl⟩) rfl rfl rfl (Nat.le_of_ble_eq_true rfl) ?_
  exact V.vret dX2_init_9 rfl (Nat.le_refl _) (Nat.le_refl _) ⟨rfl, rfl⟩
/-- the first m steps as a row of their own -/
theorem c_copyOf {l : Launch} {D : va_G} {E : Nat → ClassId} {B : Nat → Prop} {n : Nat} {T : Nat → Option (Nat × Nat)} {I : Nat → Nat → Int32} {J : Nat → Nat → Int64} {P : Nat → Nat → Option Nat} {q m : Nat} (hq : T q = some (20, 900)) (hqn : q < n) (hm : m < 900) : Ct l D E B yJ7_copyOf_59c91 cJ7_copyOf_59c91 3 (some (.array .int)) 2 1 m [.ref q, .int (nI m)] (n, T, I, J, P) (Ret (some (.ref n)) (n + 1, va_up T n (some (20, m)), cpI (zI I n) q n 0 0 m, zJ J n, zP P n)) := by
  refine Ct.ofVF (by decide +kernel) (Nat.le_of_ble_eq_true rfl) ?_
  refine V.iload_n dJ7_copyOf_59c91_0 rfl ?_
  refine V.aload_n dJ7_copyOf_59c91_1 rfl ?_
  refine V.alen dJ7_copyOf_59c91_2 hq (by decide) ?_
  refine V.icmp_ne 14 dJ7_copyOf_59c91_3 (by decide) (fun c1 => ?_) (fun c1 => absurd ((nI_eq (by omega) (by decide)).mp c1) (by omega))
  refine V.iload_n dJ7_copyOf_59c91_14 rfl ?_
  refine V.newI dJ7_copyOf_59c91_15 ka_int (nI_pos (by omega)) (nI_cl (by omega)) (by omega) (Nat.le_refl _) (by omega) ?_
  have hq2 : va_up T n (some (20, m)) q = some (20, 900) := by rw [va_up_ne _ _ (by omega)]; exact hq
  refine V.astore_n dJ7_copyOf_59c91_17 rfl (by decide) (by first | exact rfl | exact trivial) ?_
  refine V.aload_n dJ7_copyOf_59c91_18 rfl ?_
  refine V.iconst (v := 0) dJ7_copyOf_59c91_19 (by decide) ?_
  refine V.aload_n dJ7_copyOf_59c91_20 rfl ?_
  refine V.iconst (v := 0) dJ7_copyOf_59c91_21 (by decide) ?_
  refine V.aload_n dJ7_copyOf_59c91_22 rfl ?_
  refine V.alen dJ7_copyOf_59c91_23 hq2 (by decide) ?_
  refine V.iload_n dJ7_copyOf_59c91_24 rfl ?_
  refine V.ins cs_J7_304 c_imin dJ7_copyOf_59c91_25 rfl rfl (Nat.le_of_ble_eq_true rfl) (by decide) (by decide) (Nat.le_refl _) (by omega) (fun _ _ hq => ?_)
  obtain ⟨rfl, rfl⟩ := hq
  have em : imin (nI 900) (nI m) = nI m := by
    rw [imin_eq, if_pos (nI_lt hm (by decide))]
  rw [em]
  refine V.acopy dJ7_copyOf_59c91_28 ca_J7_150 hq2 (va_up_self _ _ _) (by decide) (by decide) (nI_pos (by omega)) (by rw [nI_cl (by omega)]; show 0 + m ≤ 900; omega) (by rw [nI_cl (by omega)]; show 0 + m ≤ m; omega) (by decide) (Nat.le_of_ble_eq_true rfl) (fun I1 e1 => ?_)
  rw [nI_cl (by omega)] at e1
  refine V.aload_n dJ7_copyOf_59c91_31 rfl ?_
  exact V.aret dJ7_copyOf_59c91_32 rfl (Or.inr ⟨_, rfl⟩) (Or.inr ⟨_, rfl⟩) (Nat.le_refl _) (by omega) ⟨rfl, by rw [e1]; rfl⟩
