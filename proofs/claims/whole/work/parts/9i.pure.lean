/-! a new court; the call court -/
theorem dX11_court_0 : decode cX11_court 0 = .ok (.iload_n 1, 1) := by decide +kernel
theorem dX11_court_1 : decode cX11_court 1 = .ok (.ifCond .lt 11, 3) := by decide +kernel
theorem dX11_court_4 : decode cX11_court 4 = .ok (.iload_n 1, 1) := by decide +kernel
theorem dX11_court_5 : decode cX11_court 5 = .ok (.aload_n 0, 1) := by decide +kernel
theorem dX11_court_6 : decode cX11_court 6 = .ok (.getfield 100, 3) := by decide +kernel
theorem dX11_court_9 : decode cX11_court 9 = .ok (.if_icmp .le 6, 3) := by decide +kernel
theorem dX11_court_12 : decode cX11_court 12 = .ok (.bipush (-3), 2) := by decide +kernel
theorem dX11_court_14 : decode cX11_court 14 = .ok (.ireturn, 1) := by decide +kernel
theorem dX11_court_15 : decode cX11_court 15 = .ok (.aload_n 0, 1) := by decide +kernel
theorem dX11_court_16 : decode cX11_court 16 = .ok (.iconst 0, 1) := by decide +kernel
theorem dX11_court_17 : decode cX11_court 17 = .ok (.putfield 100, 3) := by decide +kernel
theorem dX11_court_20 : decode cX11_court 20 = .ok (.aload_n 0, 1) := by decide +kernel
theorem dX11_court_21 : decode cX11_court 21 = .ok (.getfield 16, 3) := by decide +kernel
theorem dX11_court_24 : decode cX11_court 24 = .ok (.aload_n 0, 1) := by decide +kernel
theorem dX11_court_25 : decode cX11_court 25 = .ok (.getfield 9, 3) := by decide +kernel
theorem dX11_court_28 : decode cX11_court 28 = .ok (.iload_n 1, 1) := by decide +kernel
theorem dX11_court_29 : decode cX11_court 29 = .ok (.invokevirtual 107, 3) := by decide +kernel
theorem dX11_court_32 : decode cX11_court 32 = .ok (.astore_n 2, 1) := by decide +kernel
theorem dX11_court_33 : decode cX11_court 33 = .ok (.aload_n 2, 1) := by decide +kernel
theorem dX11_court_34 : decode cX11_court 34 = .ok (.ifnonnull 14, 3) := by decide +kernel
theorem dX11_court_37 : decode cX11_court 37 = .ok (.bipush (-30), 2) := by decide +kernel
theorem dX11_court_39 : decode cX11_court 39 = .ok (.aload_n 0, 1) := by decide +kernel
theorem dX11_court_40 : decode cX11_court 40 = .ok (.getfield 16, 3) := by decide +kernel
theorem dX11_court_43 : decode cX11_court 43 = .ok (.getfield 111, 3) := by decide +kernel
theorem dX11_court_46 : decode cX11_court 46 = .ok (.isub, 1) := by decide +kernel
theorem dX11_court_47 : decode cX11_court 47 = .ok (.ireturn, 1) := by decide +kernel
theorem dX11_court_48 : decode cX11_court 48 = .ok (.aload_n 0, 1) := by decide +kernel
theorem dX11_court_49 : decode cX11_court 49 = .ok (.aload_n 2, 1) := by decide +kernel
theorem dX11_court_50 : decode cX11_court 50 = .ok (.putfield 23, 3) := by decide +kernel
theorem dX11_court_53 : decode cX11_court 53 = .ok (.aload_n 0, 1) := by decide +kernel
theorem dX11_court_54 : decode cX11_court 54 = .ok (.getfield 30, 3) := by decide +kernel
theorem dX11_court_57 : decode cX11_court 57 = .ok (.aload_n 0, 1) := by decide +kernel
theorem dX11_court_58 : decode cX11_court 58 = .ok (.getfield 23, 3) := by decide +kernel
theorem dX11_court_61 : decode cX11_court 61 = .ok (.invokevirtual 114, 3) := by decide +kernel
theorem dX11_court_64 : decode cX11_court 64 = .ok (.aload_n 0, 1) := by decide +kernel
theorem dX11_court_65 : decode cX11_court 65 = .ok (.getfield 37, 3) := by decide +kernel
theorem dX11_court_68 : decode cX11_court 68 = .ok (.invokevirtual 118, 3) := by decide +kernel
theorem dX11_court_71 : decode cX11_court 71 = .ok (.aload_n 0, 1) := by decide +kernel
theorem dX11_court_72 : decode cX11_court 72 = .ok (.dup, 1) := by decide +kernel
theorem dX11_court_73 : decode cX11_court 73 = .ok (.getfield 55, 3) := by decide +kernel
theorem dX11_court_76 : decode cX11_court 76 = .ok (.iconst 1, 1) := by decide +kernel
theorem dX11_court_77 : decode cX11_court 77 = .ok (.iadd, 1) := by decide +kernel
theorem dX11_court_78 : decode cX11_court 78 = .ok (.putfield 55, 3) := by decide +kernel
theorem dX11_court_81 : decode cX11_court 81 = .ok (.aload_n 0, 1) := by decide +kernel
theorem dX11_court_82 : decode cX11_court 82 = .ok (.getfield 23, 3) := by decide +kernel
theorem dX11_court_85 : decode cX11_court 85 = .ok (.getfield 121, 3) := by decide +kernel
theorem dX11_court_88 : decode cX11_court 88 = .ok (.ireturn, 1) := by decide +kernel
def cutT (T : Nat → Option (Nat × Nat)) (m : Nat) : Nat → Option (Nat × Nat) := fun q => if q < m then T q else none
theorem cut_in {T : Nat → Option (Nat × Nat)} {m q : Nat} (h : q < m) : cutT T m q = T q := if_pos h
theorem cut_tx {T : Nat → Option (Nat × Nat)} {m : Nat} : TX (cutT T m) T := fun a q e => by
  unfold cutT at e
  split at e
  · exact e
  · cases e
theorem cut_lt {T : Nat → Option (Nat × Nat)} {m : Nat} : Tlt (cutT T m) m := fun a q e => by
  unfold cutT at e
  split at e
  · assumption
  · cases e
/-- a new court lies at n, all before it is as it was -/
def Born (n : Nat) (T : Nat → Option (Nat × Nat)) (I : Nat → Nat → Int32) (J : Nat → Nat → Int64) (P : Nat → Nat → Option Nat) (T5 : Nat → Option (Nat × Nat)) (I5 : Nat → Nat → Int32) (J5 : Nat → Nat → Int64) (P5 : Nat → Nat → Option Nat) : Prop := Gb n 8 shc1 ivc1 rfc1 (n, T, I, J, P) (n + 8, T5, I5, J5, P5) ∧ Tlt T5 (n + 8)
theorem shc_t : ∀ k, k < 8 → shc1 k = shCt k := by decide
theorem rfc_t : ∀ k, k < 8 → ∀ i, i < 13 → rfc1 k i = (rfCt k i).map (fun r => (r : Int)) := by decide
theorem shC_n : ∀ k, 8 ≤ k → shCt k = none := fun k h => by
  match k, h with
  | k + 8, _ => rfl
theorem rfC_n : ∀ k i r, rfCt k i = some r → k = 0 ∧ i < 13 := fun k i r e => by
  unfold rfCt at e
  split at e
  all_goals first | exact ⟨rfl, by omega⟩ | cases e
section
variable {n : Nat} {T T5 : Nat → Option (Nat × Nat)} {I I5 : Nat → Nat → Int32} {J J5 : Nat → Nat → Int64} {P P5 : Nat → Nat → Option Nat} {x : Nat}
theorem Born.low (h : Born n T I J P T5 I5 J5 P5) {q : Nat} (hq : q < n) : T5 q = T q ∧ I5 q = I q ∧ J5 q = J q ∧ P5 q = P q := h.1.2.1 q hq
theorem Born.tx (h : Born n T I J P T5 I5 J5 P5) (hT : Tlt T n) : TX T T5 := fun a q e => by rw [(h.low (hT a q e)).1]; exact e
theorem Born.py (h : Born n T I J P T5 I5 J5 P5) (hT : Tlt T n) : PY x T P P5 := fun q i s e _ _ _ _ => by rw [(h.low (hT q s e)).2.2.2]
theorem Born.ct (h : Born n T I J P T5 I5 J5 P5) : isOb shCt rfCt T5 P5 n ∧ P5 n 8 = none ∧ P5 n 9 = none := by
  refine ⟨⟨fun k q e => ?_, fun k i r e => ?_⟩, ?_, ?_⟩
  · by_cases hk : k < 8
    · exact h.1.T k hk (by rw [shc_t k hk]; exact e)
    · rw [shC_n k (by omega)] at e
      cases e
  · obtain ⟨rfl, hi⟩ := rfC_n k i r e
    exact h.1.r 0 i (by omega) (by rw [rfc_t 0 (by omega) i hi, e]; rfl)
  · exact congrFun (h.1.2.2 0 (by omega)).2.2.2 8
  · exact congrFun (h.1.2.2 0 (by omega)).2.2.2 9
theorem PY.u2 {v : Option Nat} : PY x T P (uP P (x + 2) 2 v) := fun q j s _ _ h2 _ _ => by
  by_cases e : q = x + 2
  · subst e
    rw [uP_s, va_up_ne _ _ (fun cc => h2 ⟨rfl, Or.inl cc⟩)]
  · rw [uP_n _ _ _ e]
theorem PY.u8 {v : Option Nat} : PY x T P (uP P (x + 2) 8 v) := fun q j s _ _ h2 _ _ => by
  by_cases e : q = x + 2
  · subst e
    rw [uP_s, va_up_ne _ _ (fun cc => h2 ⟨rfl, Or.inr cc⟩)]
  · rw [uP_n _ _ _ e]
theorem Born.hk (hx : isSR T P x) (hT : Tlt T n) (h2 : P (x + 2) 2 = some (x + 1)) (h : Born n T I J P T5 I5 J5 P5) : Hk x n (n + 8, T5, I5, J5, uP P5 (x + 2) 8 (some n)) := by
  have tx := h.tx hT
  have hxn : x + 2 < n := hT _ _ (hx.1 2 (7, 0) rfl)
  have hx5 : isSR T5 P5 x := hx.py tx (h.py hT)
  have hx6 : isSR T5 (uP P5 (x + 2) 8 (some n)) x := hx5.py TX.rf PY.u8
  obtain ⟨c1, c2, c3⟩ := h.ct
  have pn : ∀ q, q ≠ x + 2 → uP P5 (x + 2) 8 (some n) q = P5 q := fun q hq => uP_n _ _ _ hq
  refine ⟨hx6, ⟨⟨c1.1, fun k i r e => by show uP P5 (x + 2) 8 (some n) (n + k) i = some (n + r); rw [pn _ (by omega)]; exact c1.2 k i r e⟩, fun w e => ?_, fun w e => ?_⟩, ?_, ?_, h.2⟩
  · have e : uP P5 (x + 2) 8 (some n) n 8 = some w := e
    rw [pn n (by omega), c2] at e
    cases e
  · have e : uP P5 (x + 2) 8 (some n) n 9 = some w := e
    rw [pn n (by omega), c3] at e
    cases e
  · show uP P5 (x + 2) 8 (some n) (x + 2) 8 = some n
    rw [uP_s, va_up_self]
  · show uP P5 (x + 2) 8 (some n) (x + 2) 2 = some (x + 1)
    rw [uP_s, va_up_ne _ _ (by decide), (h.low hxn).2.2.2]
    exact h2
end
def rcI (I : Nat → Nat → Int32) (x : Nat) (v : Int32) : Nat → Nat → Int32 := uI (uI (uI (uI I (x + 2) 3 (imin v (nI 900))) (x + 2) 5 0) (x + 2) 0 0) (x + 2) 1 (-1)
section
variable {l : Launch} {D : va_G} {E : Nat → ClassId} {B : Nat → Prop} {F n : Nat} {T : Nat → Option (Nat × Nat)} {I : Nat → Nat → Int32} {J : Nat → Nat → Int64} {P : Nat → Nat → Option Nat} {x : Nat} {Q : Option Value → HT → Prop} {mc ms : Nat} {v : Int32}
theorem V.forget {y : MethodName} {cc : ByteArray} {nL : Nat} {ret : Option FieldType} {d cells slots pc : Nat} {vs : List (Nat × Option Value)} {st : List Value} {T' : Nat → Option (Nat × Nat)} (hT : TX T' T) (k : V l D E B y cc nL ret d mc ms Q cells slots (n, T', I, J, P) pc vs st) : V l D E B y cc nL ret d mc ms Q cells slots (n, T, I, J, P) pc vs st := fun p e s m args below meth c H locs ls X hS hB hP hL => k p e s m args below meth c H locs ls X hS hB ⟨hP.1, fun a sh h => hP.2 a sh (hT a sh h)⟩ hL
theorem c_readCourt (hx : isSR T P x) (hT : Tlt T n) (hall : ∀ T5 I5 J5 P5, Born n T (rcI I x v) J (uP P (x + 2) 2 (some (x + 1))) T5 I5 J5 P5 → ∃ r, rcRest F x n (n + 8, T5, I5, J5, uP P5 (x + 2) 8 (some n)) = some r ∧ (r.1 = 0 → Q (some .null) r.2.1) ∧ (¬ r.1 = 0 → Q (some (.ref n)) r.2.1) ∧ 8 + r.2.2.1 ≤ mc ∧ 112 + r.2.2.2 ≤ ms) (hmc : 8 ≤ mc) (hms : 112 ≤ ms) : Ct l D E B yX7_readCourt cX7_readCourt 5 (some (.object "StandRank$Court")) 93 mc ms [.ref (x + 2), .ref (x + 1), .int v] (n, T, I, J, P) Q := by
  refine Ct.ofV (by decide) (Nat.le_of_ble_eq_true rfl) ?_
  refine V.aload_n dX7_readCourt_0 rfl ?_
  refine V.aload_n dX7_readCourt_1 rfl ?_
  refine V.putr fl_X7_19 dX7_readCourt_2 (hx.1 2 (7, 0) rfl) (by decide) (fun h => by cases h) rfl rfl rfl (Nat.le_of_ble_eq_true rfl) ?_
  have hx1 : isSR T (uP P (x + 2) 2 (some (x + 1))) x := hx.py TX.rf PY.u2
  have h2 : uP P (x + 2) 2 (some (x + 1)) (x + 2) 2 = some (x + 1) := by rw [uP_s, va_up_self]
  generalize uP P (x + 2) 2 (some (x + 1)) = P1 at *
  refine V.aload_n dX7_readCourt_5 rfl ?_
  refine V.iload_n dX7_readCourt_6 rfl ?_
  refine V.aload_n dX7_readCourt_7 rfl ?_
  refine V.alen dX7_readCourt_8 (hx1.1 1 (21, 900) rfl) (by decide) ?_
  refine V.ins cs_X7_23 c_imin dX7_readCourt_9 rfl rfl (Nat.le_of_ble_eq_true rfl) (by decide) (by decide) (by omega) (by omega) (fun _ _ hq => ?_)
  obtain ⟨rfl, rfl⟩ := hq
  try dsimp only
  refine V.puti fl_X7_29 dX7_readCourt_12 (hx1.1 2 (7, 0) rfl) (by decide) (fun h => by cases h) rfl rfl rfl (Nat.le_of_ble_eq_true rfl) ?_
  refine V.aload_n dX7_readCourt_15 rfl ?_
  refine V.iconst (v := 0) dX7_readCourt_16 (by decide) ?_
  refine V.puti fl_X7_32 dX7_readCourt_17 (hx1.1 2 (7, 0) rfl) (by decide) (fun h => by cases h) rfl rfl rfl (Nat.le_of_ble_eq_true rfl) ?_
  refine V.aload_n dX7_readCourt_20 rfl ?_
  refine V.iconst (v := 0) dX7_readCourt_21 (by decide) ?_
  refine V.puti fl_X7_35 dX7_readCourt_22 (hx1.1 2 (7, 0) rfl) (by decide) (fun h => by cases h) rfl rfl rfl (Nat.le_of_ble_eq_true rfl) ?_
  refine V.aload_n dX7_readCourt_25 rfl ?_
  refine V.iconst (v := -1) dX7_readCourt_26 (by decide) ?_
  refine V.puti fl_X7_9 dX7_readCourt_27 (hx1.1 2 (7, 0) rfl) (by decide) (fun h => by cases h) rfl rfl rfl (Nat.le_of_ble_eq_true rfl) ?_
  refine V.aload_n dX7_readCourt_30 rfl ?_
  refine V.new nl_X7_38 dX7_readCourt_31 (by decide) (by omega) (by omega) ?_
  refine V.dup dX7_readCourt_34 rfl ?_
  refine V.ini cn_X7_40 (k_X1 (Gb.born 1 0 rfl)) dX7_readCourt_35 rfl rfl (Nat.le_of_ble_eq_true rfl) (by decide) (by decide) (by omega) (by omega) (fun _ h5 hq => ?_)
  obtain ⟨rfl, g⟩ := hq
  obtain ⟨n5, T5, I5, J5, P5⟩ := h5
  obtain rfl : n5 = n + 8 := g.1
  refine V.forget (T' := cutT T5 (n + 8)) cut_tx ?_
  have hb : Born n T (rcI I x v) J P1 (cutT T5 (n + 8)) I5 J5 P5 := by
    refine ⟨⟨rfl, fun q hq => ?_, fun k hk => ?_⟩, cut_lt⟩
    · have := g.2.1 q hq
      refine ⟨?_, this.2⟩
      show cutT T5 (n + 8) q = T q
      rw [cut_in (by omega)]
      exact this.1
    · have := g.2.2 k hk
      refine ⟨?_, this.2⟩
      show cutT T5 (n + 8) (n + k) = shc1 k
      rw [cut_in (by omega)]
      exact this.1
  generalize cutT T5 (n + 8) = T6 at *
  have hk : Hk x n (n + 8, T6, I5, J5, uP P5 (x + 2) 8 (some n)) := hb.hk hx1 hT h2
  refine V.putr fl_X7_41 dX7_readCourt_38 (hk.1.1 2 (7, 0) rfl) (by decide) (fun h => by cases h) rfl rfl rfl (Nat.le_of_ble_eq_true rfl) ?_
  obtain ⟨r, hf, q0, q1, hc, hs⟩ := hall T6 I5 J5 P5 hb
  generalize uP P5 (x + 2) 8 (some n) = P6 at *
  obtain ⟨hx6, hc6, hdr, ht, hT6⟩ := id hk
  have hx6 : isSR T6 P6 x := hx6
  have hc6 : isCt T6 P6 n := hc6
  have hdr : P6 (x + 2) 8 = some n := hdr
  have ht : P6 (x + 2) 2 = some (x + 1) := ht
  unfold rcRest at hf
  refine V.aload_n dX7_readCourt_41 rfl ?_
  obtain ⟨I7, e7, hf⟩ := bnd_some hf
  refine V.inv cv_X7_45 (c_rd_takeToken hx6 ht e7) dX7_readCourt_42 (hx6.1 2 (7, 0) rfl) (by decide) rfl rfl rfl (Nat.le_of_ble_eq_true rfl) (by decide) (by decide) (by omega) (by omega) (fun _ _ hq => ?_)
  obtain ⟨rfl, rfl⟩ := hq
  refine V.aload_n dX7_readCourt_45 rfl ?_
  refine V.sipush (v := 207) dX7_readCourt_46 (by decide) ?_
  obtain ⟨q, e8, hf⟩ := bnd_some hf
  try dsimp only at hf
  refine V.inv cv_X7_48 (c_rd_expect hx6 ht e8) dX7_readCourt_49 (hx6.1 2 (7, 0) rfl) (by decide) rfl rfl rfl (Nat.le_of_ble_eq_true rfl) (by decide) (by decide) (by omega) (by omega) (fun _ _ hq => ?_)
  obtain ⟨rfl, rfl⟩ := hq
  try dsimp only
  refine V.if_eq 66 dX7_readCourt_52 (by decide) (fun c5 => ?_) (fun c5 => ?_)
  · rw [if_pos c5] at hf
    refine V.iconst (v := 0) dX7_readCourt_66 (by decide) ?_
    refine V.istore_n dX7_readCourt_67 rfl (by decide) (by first | exact rfl | exact trivial) ?_
    refine V.iconst (v := 0) dX7_readCourt_68 (by decide) ?_
    refine V.istore dX7_readCourt_69 (by decide) (by first | exact rfl | exact trivial) ?_
    exact V.lo [(0, some (.ref (x + 2))), (1, some (.ref (x + 1))), (2, some (.int v)), (3, some (.int 0)), (4, some (.int 0))] (by simp only [Subs]; repeat' first | exact trivial | constructor | rfl) (l_rcLoop r q0 q1 F 0 0 (n + 8) T6 q.2 J5 P6 r _ _ hk hf rfl rfl (by omega) (by omega))
  · rw [if_neg c5] at hf
    obtain ⟨e, e9, hf⟩ := bnd_some hf
    try dsimp only at hf
    refine V.aload_n dX7_readCourt_55 rfl ?_
    refine V.inv cv_X7_52 (c_rd_endOfLine hx6 hc6 hdr ht e9) dX7_readCourt_56 (hx6.1 2 (7, 0) rfl) (by decide) rfl rfl rfl (Nat.le_of_ble_eq_true rfl) (by decide) (by decide) (by omega) (by omega) (fun _ _ hq => ?_)
    obtain ⟨rfl, rfl⟩ := hq
    try dsimp only
    refine V.if_eq 66 dX7_readCourt_59 (by decide) (fun c6 => ?_) (fun c6 => ?_)
    · rw [if_pos c6] at hf
      refine V.iconst (v := 0) dX7_readCourt_66 (by decide) ?_
      refine V.istore_n dX7_readCourt_67 rfl (by decide) (by first | exact rfl | exact trivial) ?_
      refine V.iconst (v := 0) dX7_readCourt_68 (by decide) ?_
      refine V.istore dX7_readCourt_69 (by decide) (by first | exact rfl | exact trivial) ?_
      exact V.lo [(0, some (.ref (x + 2))), (1, some (.ref (x + 1))), (2, some (.int v)), (3, some (.int 0)), (4, some (.int 0))] (by simp only [Subs]; repeat' first | exact trivial | constructor | rfl) (l_rcLoop r q0 q1 F 0 0 (n + 8) T6 e.2 J5 P6 r _ _ hk hf rfl rfl (by omega) (by omega))
    · rw [if_neg c6] at hf
      refine V.iconst (v := 1) dX7_readCourt_62 (by decide) ?_
      refine V.goto 67 dX7_readCourt_63 (by decide) ?_
      refine V.istore_n dX7_readCourt_67 rfl (by decide) (by first | exact rfl | exact trivial) ?_
      refine V.iconst (v := 0) dX7_readCourt_68 (by decide) ?_
      refine V.istore dX7_readCourt_69 (by decide) (by first | exact rfl | exact trivial) ?_
      exact V.lo [(0, some (.ref (x + 2))), (1, some (.ref (x + 1))), (2, some (.int v)), (3, some (.int 1)), (4, some (.int 0))] (by simp only [Subs]; repeat' first | exact trivial | constructor | rfl) (l_rcLoop r q0 q1 F 1 0 (n + 8) T6 e.2 J5 P6 r _ _ hk hf rfl rfl (by omega) (by omega))
theorem c_x_court (hx : isSR T P x) (hT : Tlt T n) (hbad : (v < 0 ∨ ¬ v ≤ I x 1) → Q (some (.int (-3))) (n, T, I, J, P)) (hall : ¬ v < 0 → v ≤ I x 1 → ∀ T5 I5 J5 P5, Born n T (rcI (uI I x 1 0) x v) J (uP P (x + 2) 2 (some (x + 1))) T5 I5 J5 P5 → ∃ r, rcRest F x n (n + 8, T5, I5, J5, uP P5 (x + 2) 8 (some n)) = some r ∧ (8 + r.2.2.1 ≤ mc ∧ 112 + r.2.2.2 ≤ ms) ∧ ((r.1 = 0 ∧ Q (some (.int (-30 - r.2.1.2.2.1 (x + 2) 0))) r.2.1) ∨ (¬ r.1 = 0 ∧ ∃ I2 I3, s_standInOrder F r.2.1.2.2.1 (x + 12) n = some I2 ∧ pa_forget I2 x = some I3 ∧ Q (some (.int (uI I3 x 9 (I3 x 9 + 1) n 3))) (r.2.1.1, r.2.1.2.1, uI I3 x 9 (I3 x 9 + 1), r.2.1.2.2.2.1, uP r.2.1.2.2.2.2 x 3 (some n))))) (hmc : 8 ≤ mc) (hms : 112 ≤ ms) : Ct l D E B yX11_court cX11_court 3 (some .int) 94 mc ms [.ref x, .int v] (n, T, I, J, P) Q := by
  refine Ct.ofV (by decide) (Nat.le_of_ble_eq_true rfl) ?_
  have bad : (v < 0 ∨ ¬ v ≤ I x 1) → V l D E B yX11_court cX11_court 3 (some .int) 94 mc ms Q 0 0 (n, T, I, J, P) 12 [(0, some (.ref x)), (1, some (.int v))] [] := fun h => by
    refine V.bipush (v := -3) dX11_court_12 (by decide) ?_
    exact V.iret dX11_court_14 rfl (Nat.zero_le _) (Nat.zero_le _) (hbad h)
  refine V.iload_n dX11_court_0 rfl ?_
  refine V.if_lt 12 dX11_court_1 (by decide) (fun c1 => bad (Or.inl c1)) (fun c1 => ?_)
  refine V.iload_n dX11_court_4 rfl ?_
  refine V.aload_n dX11_court_5 rfl ?_
  refine V.getf fl_X11_100 dX11_court_6 (hx.1 0 (11, 0) rfl) (by decide) rfl ?_
  refine V.icmp_le 15 dX11_court_9 (by decide) (fun c2 => ?_) (fun c2 => bad (Or.inr c2))
  refine V.aload_n dX11_court_15 rfl ?_
  refine V.iconst (v := 0) dX11_court_16 (by decide) ?_
  refine V.puti fl_X11_100 dX11_court_17 (hx.1 0 (11, 0) rfl) (by decide) (fun h => by cases h) rfl rfl rfl (Nat.le_of_ble_eq_true rfl) ?_
  refine V.aload_n dX11_court_20 rfl ?_
  refine V.getr fl_X11_16 dX11_court_21 (hx.1 0 (11, 0) rfl) (hx.2.1 0 2 2 rfl) (by decide) rfl ?_
  refine V.aload_n dX11_court_24 rfl ?_
  refine V.getr fl_X11_9 dX11_court_25 (hx.1 0 (11, 0) rfl) (hx.2.1 0 0 1 rfl) (by decide) rfl ?_
  refine V.iload_n dX11_court_28 rfl ?_
  have hx1 : isSR T (uP P (x + 2) 2 (some (x + 1))) x := hx.py TX.rf PY.u2
  have h2 : uP P (x + 2) 2 (some (x + 1)) (x + 2) 2 = some (x + 1) := by rw [uP_s, va_up_self]
  have hall := hall c1 c2
  have hcr : Ct l D E B yX7_readCourt cX7_readCourt 5 (some (.object "StandRank$Court")) 93 mc ms [.ref (x + 2), .ref (x + 1), .int v] (n, T, uI I x 1 0, J, P) (fun o h => (o = some .null ∧ isSR h.2.1 h.2.2.2.2 x ∧ Q (some (.int (-30 - h.2.2.1 (x + 2) 0))) h) ∨ (o = some (.ref n) ∧ Hk x n h ∧ ∃ I2 I3, s_standInOrder F h.2.2.1 (x + 12) n = some I2 ∧ pa_forget I2 x = some I3 ∧ Q (some (.int (uI I3 x 9 (I3 x 9 + 1) n 3))) (h.1, h.2.1, uI I3 x 9 (I3 x 9 + 1), h.2.2.2.1, uP h.2.2.2.2 x 3 (some n)))) := by
    refine c_readCourt (F := F) hx hT (fun T5 I5 J5 P5 hb => ?_) hmc hms
    obtain ⟨r, e1, e2, e3⟩ := hall T5 I5 J5 P5 hb
    have hk := rest_keeps (hb.hk hx1 hT h2) e1
    refine ⟨r, e1, fun c => ?_, fun c => ?_, e2.1, e2.2⟩
    · rcases e3 with e3 | e3
      · exact Or.inl ⟨rfl, hk.1, e3.2⟩
      · exact absurd c e3.1
    · rcases e3 with e3 | e3
      · exact absurd e3.1 c
      · exact Or.inr ⟨rfl, hk, e3.2⟩
  refine V.inv cv_X11_107 hcr dX11_court_29 (hx.1 2 (7, 0) rfl) (by decide) rfl rfl rfl (Nat.le_of_ble_eq_true rfl) (by decide) (by decide) (by omega) (by omega) (fun o h5 hq => ?_)
  obtain ⟨n5, T5, I5, J5, P5⟩ := h5
  rcases hq with ⟨rfl, hx5, hq⟩ | ⟨rfl, hk, I2, I3, e1, e2, hq⟩
  · have hx5 : isSR T5 P5 x := hx5
    refine V.astore_nN dX11_court_32 rfl (by decide) (by first | exact rfl | exact trivial) ?_
    refine V.aload_nN dX11_court_33 rfl ?_
    refine V.ifnonnullN dX11_court_34 ?_
    refine V.bipush (v := -30) dX11_court_37 (by decide) ?_
    refine V.aload_n dX11_court_39 rfl ?_
    refine V.getr fl_X11_16 dX11_court_40 (hx5.1 0 (11, 0) rfl) (hx5.2.1 0 2 2 rfl) (by decide) rfl ?_
    refine V.getf fl_X11_111 dX11_court_43 (hx5.1 2 (7, 0) rfl) (by decide) rfl ?_
    refine V.isub dX11_court_46 ?_
    exact V.iret dX11_court_47 rfl (by omega) (by omega) hq
  · obtain ⟨hx5, hc5, hdr5, ht5, hT5⟩ := hk
    have hx5 : isSR T5 P5 x := hx5
    have hc5 : isCt T5 P5 n := hc5
    have hxn : x ≠ n := shNe (hx5.1 0 (11, 0) rfl) (hc5.1.1 0 (1, 0) rfl) (by decide)
    have hx6 : isSR T5 (uP P5 x 3 (some n)) x := hx5.py TX.rf PY.crt
    have hc6 : isCt T5 (uP P5 x 3 (some n)) n := hc5.py hx5 TX.rf PY.crt (fun w e => by rw [uP_n _ _ _ hxn.symm] at e; exact (hc5.2.1 w e).py hx5 TX.rf PY.crt) (fun w e => by rw [uP_n _ _ _ hxn.symm] at e; exact (hc5.2.2 w e).py hx5 TX.rf PY.crt)
    have h3 : uP P5 x 3 (some n) x 3 = some n := by rw [uP_s, va_up_self]
    refine V.astore_n dX11_court_32 rfl (by decide) (by first | exact rfl | exact trivial) ?_
    refine V.aload_n dX11_court_33 rfl ?_
    refine V.ifnonnull 48 dX11_court_34 (by decide) ?_
    refine V.aload_n dX11_court_48 rfl ?_
    refine V.aload_n dX11_court_49 rfl ?_
    refine V.putr fl_X11_23 dX11_court_50 (hx5.1 0 (11, 0) rfl) (by decide) (fun h => by cases h) rfl rfl rfl (Nat.le_of_ble_eq_true rfl) ?_
    refine V.aload_n dX11_court_53 rfl ?_
    refine V.getr fl_X11_30 dX11_court_54 (hx6.1 0 (11, 0) rfl) (hx6.2.1 0 4 12 rfl) (by decide) rfl ?_
    refine V.aload_n dX11_court_57 rfl ?_
    refine V.getr fl_X11_23 dX11_court_58 (hx6.1 0 (11, 0) rfl) h3 (by decide) rfl ?_
    refine V.inv cv_X11_114 (c_s_standInOrder (hx6.2.2.1 12 rfl) hc6 e1) dX11_court_61 ((hx6.2.2.1 12 rfl).1 0 (8, 0) rfl) (by decide) rfl rfl rfl (Nat.le_of_ble_eq_true rfl) (by decide) (by decide) (by omega) (by omega) (fun _ _ hq => ?_)
    obtain ⟨rfl, rfl⟩ := hq
    refine V.aload_n dX11_court_64 rfl ?_
    refine V.getr fl_X11_37 dX11_court_65 (hx6.1 0 (11, 0) rfl) (hx6.2.1 0 5 19 rfl) (by decide) rfl ?_
    refine V.inv cv_X11_118 (c_pa_forget hx6 e2) dX11_court_68 (hx6.1 19 (6, 0) rfl) (by decide) rfl rfl rfl (Nat.le_of_ble_eq_true rfl) (by decide) (by decide) (by omega) (by omega) (fun _ _ hq => ?_)
    obtain ⟨rfl, rfl⟩ := hq
    refine V.aload_n dX11_court_71 rfl ?_
    refine V.dup dX11_court_72 rfl ?_
    refine V.getf fl_X11_55 dX11_court_73 (hx6.1 0 (11, 0) rfl) (by decide) rfl ?_
    refine V.iconst (v := 1) dX11_court_76 (by decide) ?_
    refine V.iadd dX11_court_77 ?_
    refine V.puti fl_X11_55 dX11_court_78 (hx6.1 0 (11, 0) rfl) (by decide) (fun h => by cases h) rfl rfl rfl (Nat.le_of_ble_eq_true rfl) ?_
    refine V.aload_n dX11_court_81 rfl ?_
    refine V.getr fl_X11_23 dX11_court_82 (hx6.1 0 (11, 0) rfl) h3 (by decide) rfl ?_
    refine V.getf fl_X11_121 dX11_court_85 (hc6.1.1 0 (1, 0) rfl) (by decide) rfl ?_
    exact V.iret dX11_court_88 rfl (by omega) (by omega) hq
end
