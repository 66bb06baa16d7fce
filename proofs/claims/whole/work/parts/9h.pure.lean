/-! the whole text's bytecode -/
theorem dX7_readCourt_0 : decode cX7_readCourt 0 = .ok (.aload_n 0, 1) := by decide +kernel
theorem dX7_readCourt_1 : decode cX7_readCourt 1 = .ok (.aload_n 1, 1) := by decide +kernel
theorem dX7_readCourt_2 : decode cX7_readCourt 2 = .ok (.putfield 19, 3) := by decide +kernel
theorem dX7_readCourt_5 : decode cX7_readCourt 5 = .ok (.aload_n 0, 1) := by decide +kernel
theorem dX7_readCourt_6 : decode cX7_readCourt 6 = .ok (.iload_n 2, 1) := by decide +kernel
theorem dX7_readCourt_7 : decode cX7_readCourt 7 = .ok (.aload_n 1, 1) := by decide +kernel
theorem dX7_readCourt_8 : decode cX7_readCourt 8 = .ok (.arraylength, 1) := by decide +kernel
theorem dX7_readCourt_9 : decode cX7_readCourt 9 = .ok (.invokestatic 23, 3) := by decide +kernel
theorem dX7_readCourt_12 : decode cX7_readCourt 12 = .ok (.putfield 29, 3) := by decide +kernel
theorem dX7_readCourt_15 : decode cX7_readCourt 15 = .ok (.aload_n 0, 1) := by decide +kernel
theorem dX7_readCourt_16 : decode cX7_readCourt 16 = .ok (.iconst 0, 1) := by decide +kernel
theorem dX7_readCourt_17 : decode cX7_readCourt 17 = .ok (.putfield 32, 3) := by decide +kernel
theorem dX7_readCourt_20 : decode cX7_readCourt 20 = .ok (.aload_n 0, 1) := by decide +kernel
theorem dX7_readCourt_21 : decode cX7_readCourt 21 = .ok (.iconst 0, 1) := by decide +kernel
theorem dX7_readCourt_22 : decode cX7_readCourt 22 = .ok (.putfield 35, 3) := by decide +kernel
theorem dX7_readCourt_25 : decode cX7_readCourt 25 = .ok (.aload_n 0, 1) := by decide +kernel
theorem dX7_readCourt_26 : decode cX7_readCourt 26 = .ok (.iconst (-1), 1) := by decide +kernel
theorem dX7_readCourt_27 : decode cX7_readCourt 27 = .ok (.putfield 9, 3) := by decide +kernel
theorem dX7_readCourt_30 : decode cX7_readCourt 30 = .ok (.aload_n 0, 1) := by decide +kernel
theorem dX7_readCourt_31 : decode cX7_readCourt 31 = .ok (.new 38, 3) := by decide +kernel
theorem dX7_readCourt_34 : decode cX7_readCourt 34 = .ok (.dup, 1) := by decide +kernel
theorem dX7_readCourt_35 : decode cX7_readCourt 35 = .ok (.invokespecial 40, 3) := by decide +kernel
theorem dX7_readCourt_38 : decode cX7_readCourt 38 = .ok (.putfield 41, 3) := by decide +kernel
theorem dX7_readCourt_41 : decode cX7_readCourt 41 = .ok (.aload_n 0, 1) := by decide +kernel
theorem dX7_readCourt_42 : decode cX7_readCourt 42 = .ok (.invokevirtual 45, 3) := by decide +kernel
theorem dX7_readCourt_45 : decode cX7_readCourt 45 = .ok (.aload_n 0, 1) := by decide +kernel
theorem dX7_readCourt_46 : decode cX7_readCourt 46 = .ok (.sipush 207, 3) := by decide +kernel
theorem dX7_readCourt_49 : decode cX7_readCourt 49 = .ok (.invokevirtual 48, 3) := by decide +kernel
theorem dX7_readCourt_52 : decode cX7_readCourt 52 = .ok (.ifCond .eq 14, 3) := by decide +kernel
theorem dX7_readCourt_55 : decode cX7_readCourt 55 = .ok (.aload_n 0, 1) := by decide +kernel
theorem dX7_readCourt_56 : decode cX7_readCourt 56 = .ok (.invokevirtual 52, 3) := by decide +kernel
theorem dX7_readCourt_59 : decode cX7_readCourt 59 = .ok (.ifCond .eq 7, 3) := by decide +kernel
theorem dX7_readCourt_62 : decode cX7_readCourt 62 = .ok (.iconst 1, 1) := by decide +kernel
theorem dX7_readCourt_63 : decode cX7_readCourt 63 = .ok (.goto 4, 3) := by decide +kernel
theorem dX7_readCourt_66 : decode cX7_readCourt 66 = .ok (.iconst 0, 1) := by decide +kernel
theorem dX7_readCourt_67 : decode cX7_readCourt 67 = .ok (.istore_n 3, 1) := by decide +kernel
theorem dX7_readCourt_68 : decode cX7_readCourt 68 = .ok (.iconst 0, 1) := by decide +kernel
theorem dX7_readCourt_69 : decode cX7_readCourt 69 = .ok (.istore 4, 2) := by decide +kernel
theorem dX7_readCourt_71 : decode cX7_readCourt 71 = .ok (.iload 4, 2) := by decide +kernel
theorem dX7_readCourt_73 : decode cX7_readCourt 73 = .ok (.sipush 900, 3) := by decide +kernel
theorem dX7_readCourt_76 : decode cX7_readCourt 76 = .ok (.if_icmp .ge 40, 3) := by decide +kernel
theorem dX7_readCourt_79 : decode cX7_readCourt 79 = .ok (.iload_n 3, 1) := by decide +kernel
theorem dX7_readCourt_80 : decode cX7_readCourt 80 = .ok (.ifCond .eq 36, 3) := by decide +kernel
theorem dX7_readCourt_83 : decode cX7_readCourt 83 = .ok (.aload_n 0, 1) := by decide +kernel
theorem dX7_readCourt_84 : decode cX7_readCourt 84 = .ok (.getfield 56, 3) := by decide +kernel
theorem dX7_readCourt_87 : decode cX7_readCourt 87 = .ok (.ifCond .eq 29, 3) := by decide +kernel
theorem dX7_readCourt_90 : decode cX7_readCourt 90 = .ok (.aload_n 0, 1) := by decide +kernel
theorem dX7_readCourt_91 : decode cX7_readCourt 91 = .ok (.invokevirtual 59, 3) := by decide +kernel
theorem dX7_readCourt_94 : decode cX7_readCourt 94 = .ok (.ifCond .eq 14, 3) := by decide +kernel
theorem dX7_readCourt_97 : decode cX7_readCourt 97 = .ok (.aload_n 0, 1) := by decide +kernel
theorem dX7_readCourt_98 : decode cX7_readCourt 98 = .ok (.invokevirtual 52, 3) := by decide +kernel
theorem dX7_readCourt_101 : decode cX7_readCourt 101 = .ok (.ifCond .eq 7, 3) := by decide +kernel
theorem dX7_readCourt_104 : decode cX7_readCourt 104 = .ok (.iconst 1, 1) := by decide +kernel
theorem dX7_readCourt_105 : decode cX7_readCourt 105 = .ok (.goto 4, 3) := by decide +kernel
theorem dX7_readCourt_108 : decode cX7_readCourt 108 = .ok (.iconst 0, 1) := by decide +kernel
theorem dX7_readCourt_109 : decode cX7_readCourt 109 = .ok (.istore_n 3, 1) := by decide +kernel
theorem dX7_readCourt_110 : decode cX7_readCourt 110 = .ok (.iinc 4 1, 3) := by decide +kernel
theorem dX7_readCourt_113 : decode cX7_readCourt 113 = .ok (.goto (-42), 3) := by decide +kernel
theorem dX7_readCourt_116 : decode cX7_readCourt 116 = .ok (.iload_n 3, 1) := by decide +kernel
theorem dX7_readCourt_117 : decode cX7_readCourt 117 = .ok (.ifCond .eq 10, 3) := by decide +kernel
theorem dX7_readCourt_120 : decode cX7_readCourt 120 = .ok (.aload_n 0, 1) := by decide +kernel
theorem dX7_readCourt_121 : decode cX7_readCourt 121 = .ok (.getfield 41, 3) := by decide +kernel
theorem dX7_readCourt_124 : decode cX7_readCourt 124 = .ok (.goto 4, 3) := by decide +kernel
theorem dX7_readCourt_127 : decode cX7_readCourt 127 = .ok (.aconst_null, 1) := by decide +kernel
theorem dX7_readCourt_128 : decode cX7_readCourt 128 = .ok (.areturn, 1) := by decide +kernel
def Hk (x c : Nat) (h : HT) : Prop := isSR h.2.1 h.2.2.2.2 x ∧ isCt h.2.1 h.2.2.2.2 c ∧ h.2.2.2.2 (x + 2) 8 = some c ∧ h.2.2.2.2 (x + 2) 2 = some (x + 1) ∧ Tlt h.2.1 h.1
def rcLoop (F x c : Nat) : Nat → Int32 → Int32 → HT → Option (Int32 × HT × Nat × Nat)
  | 0, _, _, _ => none
  | k + 1, fine, i, h => if 900 ≤ i then some (fine, h, 0, 0) else (if fine = 0 then some (fine, h, 0, 0) else (if h.2.2.1 (x + 2) 6 = 0 then some (fine, h, 0, 0) else ((rd_readLine F h.1 h.2.1 h.2.2.1 h.2.2.2.1 h.2.2.2.2 x c).bind (fun q => if q.1 = 0 then (rcLoop F x c k 0 (i + 1) q.2.1).bind (fun w => some (w.1, w.2.1, q.2.2.1 + w.2.2.1, q.2.2.2 + w.2.2.2)) else ((rd_endOfLine F q.2.1.2.2.1 x c).bind (fun e => (rcLoop F x c k (if e.1 = 0 then 0 else 1) (i + 1) (q.2.1.1, q.2.1.2.1, e.2, q.2.1.2.2.2.1, q.2.1.2.2.2.2)).bind (fun w => some (w.1, w.2.1, q.2.2.1 + w.2.2.1, q.2.2.2 + w.2.2.2))))))))
def rcRest (F x c : Nat) (h : HT) : Option (Int32 × HT × Nat × Nat) := (rd_takeToken F h.2.2.1 x).bind (fun I1 => (rd_expect F I1 x 207).bind (fun q => if q.1 = 0 then rcLoop F x c F 0 0 (h.1, h.2.1, q.2, h.2.2.2.1, h.2.2.2.2) else ((rd_endOfLine F q.2 x c).bind (fun e => rcLoop F x c F (if e.1 = 0 then 0 else 1) 0 (h.1, h.2.1, e.2, h.2.2.2.1, h.2.2.2.2)))))
theorem lw_keeps {x c n m i : Nat} {T : Nat → Option (Nat × Nat)} {I : Nat → Nat → Int32} {J : Nat → Nat → Int64} {P : Nat → Nat → Option Nat} (h : Hk x c (n, T, I, J, P)) (hi : i = 8 ∨ i = 9) : Hk x c (n + 2, lwT T n m, lwI I n x m, lwJ J n, lwP P n c i) := by
  obtain ⟨hx, hc, h8, h2, hT⟩ := h
  have hx : isSR T P x := hx
  have hc : isCt T P c := hc
  have hT : Tlt T n := hT
  have h8 : P (x + 2) 8 = some c := h8
  have h2 : P (x + 2) 2 = some (x + 1) := h2
  have tc : T c = some (1, 0) := hc.1.1 0 (1, 0) rfl
  have t2 := hx.1 2 (7, 0) rfl
  have hcn : c < n := hT _ _ tc
  have h2n : x + 2 < n := hT _ _ t2
  have hxc : x + 2 ≠ c := shNe t2 tc (by decide)
  have tx : TX T (lwT T n m) := hT.tx.tr hT.up.tx
  have p0 : ∀ q, q ≠ n → q ≠ n + 1 → q ≠ c → lwP P n c i q = P q := fun q a b d => by
    unfold lwP
    rw [uP_n _ _ _ d, uP_n _ _ _ a, zP_n b, zP_n a]
  have pc : ∀ j, j ≠ i → lwP P n c i c j = P c j := fun j hj => by
    unfold lwP
    rw [uP_s, va_up_ne _ _ hj, uP_n _ _ _ (by omega), zP_n (by omega), zP_n (by omega)]
  have pci : lwP P n c i c i = some n := by
    unfold lwP
    rw [uP_s, va_up_self]
  have pn : lwP P n c i n 0 = some (n + 1) := by
    unfold lwP
    rw [uP_n _ _ _ (by omega), uP_s, va_up_self]
  have py : PY x T P (lwP P n c i) := fun q j s e _ _ _ h4 => by
    have := hT q s e
    by_cases e1 : q = c
    · rw [e1] at e ⊢
      have hs : s = (1, 0) := Option.some.inj (e.symm.trans tc)
      rw [pc j (fun e2 => h4 ⟨by rw [hs], by omega⟩)]
    · rw [p0 q (by omega) (by omega) e1]
  have lwn : isLw (lwT T n m) (lwP P n c i) n := by
    have e1 : lwT T n m (n + 1) = some (20, m) := by unfold lwT; rw [va_up_self]
    refine ⟨by unfold lwT; rw [va_up_ne _ _ (by omega), va_up_self], ?_, pn⟩
    unfold lenT
    rw [e1]
  have old : ∀ j, j ≠ i → (∀ w, P c j = some w → isLw T P w) → ∀ w, lwP P n c i c j = some w → isLw (lwT T n m) (lwP P n c i) w := fun j hj hw w e => by
    rw [pc j hj] at e
    exact (hw w e).py hx tx py
  have new : ∀ w, lwP P n c i c i = some w → isLw (lwT T n m) (lwP P n c i) w := fun w e => by
    rw [pci] at e
    injection e with e
    subst e
    exact lwn
  refine ⟨hx.py tx py, hc.py hx tx py ?_ ?_, ?_, ?_, hT.up.up⟩
  · rcases hi with rfl | rfl
    · exact new
    · exact old 8 (by decide) hc.2.1
  · rcases hi with rfl | rfl
    · exact old 9 (by decide) hc.2.2
    · exact new
  · show lwP P n c i (x + 2) 8 = some c
    rw [p0 _ (by omega) (by omega) hxc]
    exact h8
  · show lwP P n c i (x + 2) 2 = some (x + 1)
    rw [p0 _ (by omega) (by omega) hxc]
    exact h2
theorem Hk.I {x c n : Nat} {T : Nat → Option (Nat × Nat)} {I I1 : Nat → Nat → Int32} {J : Nat → Nat → Int64} {P : Nat → Nat → Option Nat} (h : Hk x c (n, T, I, J, P)) : Hk x c (n, T, I1, J, P) := h
theorem line_keeps {F x c : Nat} {h : HT} {r : Int32 × HT × Nat × Nat} (hk : Hk x c h) (hf : rd_readLine F h.1 h.2.1 h.2.2.1 h.2.2.2.1 h.2.2.2.2 x c = some r) : Hk x c r.2.1 := by
  unfold rd_readLine at hf
  have lawc : ∀ (k : Int32 × (Nat → Nat → Int32)) (i : Nat), (i = 8 ∨ i = 9) → lawL k h.1 h.2.1 h.2.2.2.1 h.2.2.2.2 x c i = some r → Hk x c r.2.1 := fun k i hi e => by
    unfold lawL at e
    split at e
    · obtain rfl := Option.some.inj e
      exact hk
    · split at e
      · obtain rfl := Option.some.inj e
        exact lw_keeps (I := k.2) (T := h.2.1) (P := h.2.2.2.2) (J := h.2.2.2.1) hk hi
      · cases e
  split at hf
  · obtain ⟨k, _, hf⟩ := bnd_some hf
    obtain ⟨_, hf⟩ := isb_some hf
    obtain rfl := Option.some.inj hf
    exact hk
  split at hf
  · obtain ⟨k, _, hf⟩ := bnd_some hf
    obtain ⟨_, hf⟩ := isb_some hf
    obtain rfl := Option.some.inj hf
    exact hk
  split at hf
  · obtain ⟨k, _, hf⟩ := bnd_some hf
    obtain ⟨_, hf⟩ := isb_some hf
    obtain rfl := Option.some.inj hf
    exact hk
  split at hf
  · obtain ⟨k, _, hf⟩ := bnd_some hf
    exact lawc k 8 (Or.inl rfl) hf
  split at hf
  · obtain ⟨k, _, hf⟩ := bnd_some hf
    exact lawc k 9 (Or.inr rfl) hf
  · obtain ⟨k, _, hf⟩ := bnd_some hf
    obtain ⟨_, hf⟩ := isb_some hf
    obtain rfl := Option.some.inj hf
    exact hk
theorem loop_keeps {F x c : Nat} : ∀ (k : Nat) (fine i : Int32) (h : HT) (r : Int32 × HT × Nat × Nat), Hk x c h → rcLoop F x c k fine i h = some r → Hk x c r.2.1 := by
  intro k
  induction k with
  | zero => intro fine i h r _ hf; cases hf
  | succ k ih =>
    intro fine i h r hk hf
    rw [rcLoop] at hf
    split at hf
    · obtain rfl := Option.some.inj hf; exact hk
    split at hf
    · obtain rfl := Option.some.inj hf; exact hk
    split at hf
    · obtain rfl := Option.some.inj hf; exact hk
    obtain ⟨q, e1, hf⟩ := bnd_some hf
    have hk1 := line_keeps hk e1
    try dsimp only at hf
    split at hf
    · obtain ⟨w, e2, hf⟩ := bnd_some hf
      obtain rfl := Option.some.inj hf
      exact ih _ _ _ w hk1 e2
    · obtain ⟨e, e2, hf⟩ := bnd_some hf
      obtain ⟨w, e3, hf⟩ := bnd_some hf
      obtain rfl := Option.some.inj hf
      exact ih _ _ _ w (show Hk x c (q.2.1.1, q.2.1.2.1, e.2, q.2.1.2.2.2.1, q.2.1.2.2.2.2) from hk1) e3
theorem rest_keeps {F x c : Nat} {h : HT} {r : Int32 × HT × Nat × Nat} (hk : Hk x c h) (hf : rcRest F x c h = some r) : Hk x c r.2.1 := by
  unfold rcRest at hf
  obtain ⟨I1, _, hf⟩ := bnd_some hf
  obtain ⟨q, _, hf⟩ := bnd_some hf
  try dsimp only at hf
  split at hf
  · exact loop_keeps _ _ _ _ r (show Hk x c (h.1, h.2.1, q.2, h.2.2.2.1, h.2.2.2.2) from hk) hf
  · obtain ⟨e, _, hf⟩ := bnd_some hf
    exact loop_keeps _ _ _ _ r (show Hk x c (h.1, h.2.1, e.2, h.2.2.2.1, h.2.2.2.2) from hk) hf
section
variable {l : Launch} {D : va_G} {E : Nat → ClassId} {B : Nat → Prop} {F : Nat} {x c : Nat} {Q : Option Value → HT → Prop} {mc ms : Nat} {v : Int32}
theorem l_rcLoop (r : Int32 × HT × Nat × Nat) (q0 : r.1 = 0 → Q (some .null) r.2.1) (q1 : ¬ r.1 = 0 → Q (some (.ref c)) r.2.1) : ∀ (k : Nat) (fine i : Int32) (n : Nat) (T : Nat → Option (Nat × Nat)) (I : Nat → Nat → Int32) (J : Nat → Nat → Int64) (P : Nat → Nat → Option Nat) (w : Int32 × HT × Nat × Nat) (cells slots : Nat), Hk x c (n, T, I, J, P) → rcLoop F x c k fine i (n, T, I, J, P) = some w → w.1 = r.1 → w.2.1 = r.2.1 → cells + w.2.2.1 ≤ mc → slots + w.2.2.2 ≤ ms → V l D E B yX7_readCourt cX7_readCourt 5 (some (.object "StandRank$Court")) 93 mc ms Q cells slots (n, T, I, J, P) 71 [(0, some (.ref (x + 2))), (1, some (.ref (x + 1))), (2, some (.int v)), (3, some (.int fine)), (4, some (.int i))] [] := by
  intro k
  induction k with
  | zero => intro fine i n T I J P w cells slots hk hf; cases hf
  | succ k ih =>
    intro fine i n T I J P w cells slots hk hf hw1 hw2 hcs hss
    obtain ⟨hx, hs_c, hdr, ht, hT⟩ := id hk
    have hx : isSR T P x := hx
    have hs_c : isCt T P c := hs_c
    have hdr : P (x + 2) 8 = some c := hdr
    have ht : P (x + 2) 2 = some (x + 1) := ht
    have hT : Tlt T n := hT
    have tail : w = (fine, (n, T, I, J, P), 0, 0) → V l D E B yX7_readCourt cX7_readCourt 5 (some (.object "StandRank$Court")) 93 mc ms Q cells slots (n, T, I, J, P) 116 [(0, some (.ref (x + 2))), (1, some (.ref (x + 1))), (2, some (.int v)), (3, some (.int fine)), (4, some (.int i))] [] := fun e => by
      subst e
      have hw1 : fine = r.1 := hw1
      have hw2 : (n, T, I, J, P) = r.2.1 := hw2
      refine V.iload_n dX7_readCourt_116 rfl ?_
      refine V.if_eq 127 dX7_readCourt_117 (by decide) (fun c1 => ?_) (fun c1 => ?_)
      · refine V.null dX7_readCourt_127 ?_
        exact V.aret dX7_readCourt_128 rfl (Or.inl ⟨_, rfl⟩) (Or.inl rfl) (by omega) (by omega) (by rw [hw2]; exact q0 (hw1.symm.trans c1))
      · refine V.aload_n dX7_readCourt_120 rfl ?_
        refine V.getr fl_X7_41 dX7_readCourt_121 (hx.1 2 (7, 0) rfl) hdr (by decide) rfl ?_
        refine V.goto 128 dX7_readCourt_124 (by decide) ?_
        exact V.aret dX7_readCourt_128 rfl (Or.inl ⟨_, rfl⟩) (Or.inr ⟨_, rfl⟩) (by omega) (by omega) (by rw [hw2]; exact q1 (fun cc => c1 (hw1.trans cc)))
    rw [rcLoop] at hf
    refine V.iload dX7_readCourt_71 rfl ?_
    refine V.sipush (v := 900) dX7_readCourt_73 (by decide) ?_
    refine V.icmp_ge 116 dX7_readCourt_76 (by decide) (fun c1 => ?_) (fun c1 => ?_)
    · rw [if_pos c1] at hf
      exact tail (Option.some.inj hf).symm
    rw [if_neg c1] at hf
    refine V.iload_n dX7_readCourt_79 rfl ?_
    refine V.if_eq 116 dX7_readCourt_80 (by decide) (fun c2 => ?_) (fun c2 => ?_)
    · rw [if_pos c2] at hf
      exact tail (Option.some.inj hf).symm
    rw [if_neg c2] at hf
    refine V.aload_n dX7_readCourt_83 rfl ?_
    refine V.getf fl_X7_56 dX7_readCourt_84 (hx.1 2 (7, 0) rfl) (by decide) rfl ?_
    refine V.if_eq 116 dX7_readCourt_87 (by decide) (fun c3 => ?_) (fun c3 => ?_)
    · rw [if_pos c3] at hf
      exact tail (Option.some.inj hf).symm
    rw [if_neg c3] at hf
    obtain ⟨q, e1, hf⟩ := bnd_some hf
    have hk1 := line_keeps hk e1
    try dsimp only at hf
    refine V.aload_n dX7_readCourt_90 rfl ?_
    have tot : q.2.2.1 ≤ w.2.2.1 ∧ q.2.2.2 ≤ w.2.2.2 := by
      split at hf
      · obtain ⟨w', _, hf⟩ := bnd_some hf
        obtain rfl := Option.some.inj hf
        exact ⟨Nat.le_add_right _ _, Nat.le_add_right _ _⟩
      · obtain ⟨e, _, hf⟩ := bnd_some hf
        obtain ⟨w', _, hf⟩ := bnd_some hf
        obtain rfl := Option.some.inj hf
        exact ⟨Nat.le_add_right _ _, Nat.le_add_right _ _⟩
    refine V.inv cv_X7_59 (c_rd_readLine hx hs_c hdr ht hT e1) dX7_readCourt_91 (hx.1 2 (7, 0) rfl) (by decide) rfl rfl rfl (Nat.le_of_ble_eq_true rfl) (by decide) (by decide) (by omega) (by omega) (fun _ _ hq => ?_)
    obtain ⟨rfl, rfl⟩ := hq
    try dsimp only
    obtain ⟨qr, ⟨n1, T1, I1, J1, P1⟩, qc, qs⟩ := q
    have hk1 : Hk x c (n1, T1, I1, J1, P1) := hk1
    obtain ⟨hx1, hs_c1, hdr1, ht1, hT1⟩ := id hk1
    have hx1 : isSR T1 P1 x := hx1
    have hs_c1 : isCt T1 P1 c := hs_c1
    have hdr1 : P1 (x + 2) 8 = some c := hdr1
    have ht1 : P1 (x + 2) 2 = some (x + 1) := ht1
    try dsimp only at hf tot
    refine V.if_eq 108 dX7_readCourt_94 (by decide) (fun c4 => ?_) (fun c4 => ?_)
    · have c4 : qr = 0 := c4
      rw [if_pos c4] at hf
      obtain ⟨w', e2, hf⟩ := bnd_some hf
      obtain rfl := Option.some.inj hf
      refine V.iconst (v := 0) dX7_readCourt_108 (by decide) ?_
      refine V.istore_n dX7_readCourt_109 rfl (by decide) (by first | exact rfl | exact trivial) ?_
      refine V.iinc (v := (i + 1)) dX7_readCourt_110 rfl rfl (by first | exact rfl | exact trivial) ?_
      refine V.goto 71 dX7_readCourt_113 (by decide) ?_
      have hcs : cells + (qc + w'.2.2.1) ≤ mc := hcs
      have hss : slots + (qs + w'.2.2.2) ≤ ms := hss
      exact V.lo [(0, some (.ref (x + 2))), (1, some (.ref (x + 1))), (2, some (.int v)), (3, some (.int 0)), (4, some (.int (i + 1)))] (by simp only [Subs]; repeat' first | exact trivial | constructor | rfl) (ih _ _ n1 T1 I1 J1 P1 w' (cells + qc) (slots + qs) hk1 e2 hw1 hw2 (by omega) (by omega))
    · have c4 : ¬ qr = 0 := c4
      rw [if_neg c4] at hf
      obtain ⟨e, e2, hf⟩ := bnd_some hf
      obtain ⟨w', e3, hf⟩ := bnd_some hf
      obtain rfl := Option.some.inj hf
      have hcs : cells + (qc + w'.2.2.1) ≤ mc := hcs
      have hss : slots + (qs + w'.2.2.2) ≤ ms := hss
      try dsimp only at e2 e3
      refine V.aload_n dX7_readCourt_97 rfl ?_
      refine V.inv cv_X7_52 (c_rd_endOfLine hx1 hs_c1 hdr1 ht1 e2) dX7_readCourt_98 (hx1.1 2 (7, 0) rfl) (by decide) rfl rfl rfl (Nat.le_of_ble_eq_true rfl) (by decide) (by decide) (by try dsimp only; omega) (by try dsimp only; omega) (fun _ _ hq => ?_)
      obtain ⟨rfl, rfl⟩ := hq
      try dsimp only
      refine V.if_eq 108 dX7_readCourt_101 (by decide) (fun c5 => ?_) (fun c5 => ?_)
      · rw [if_pos c5] at e3
        refine V.iconst (v := 0) dX7_readCourt_108 (by decide) ?_
        refine V.istore_n dX7_readCourt_109 rfl (by decide) (by first | exact rfl | exact trivial) ?_
        refine V.iinc (v := (i + 1)) dX7_readCourt_110 rfl rfl (by first | exact rfl | exact trivial) ?_
        refine V.goto 71 dX7_readCourt_113 (by decide) ?_
        exact V.lo [(0, some (.ref (x + 2))), (1, some (.ref (x + 1))), (2, some (.int v)), (3, some (.int 0)), (4, some (.int (i + 1)))] (by simp only [Subs]; repeat' first | exact trivial | constructor | rfl) (ih _ _ n1 T1 e.2 J1 P1 w' (cells + qc + 0) (slots + qs + 0) hk1 e3 hw1 hw2 (by omega) (by omega))
      · rw [if_neg c5] at e3
        refine V.iconst (v := 1) dX7_readCourt_104 (by decide) ?_
        refine V.goto 109 dX7_readCourt_105 (by decide) ?_
        refine V.istore_n dX7_readCourt_109 rfl (by decide) (by first | exact rfl | exact trivial) ?_
        refine V.iinc (v := (i + 1)) dX7_readCourt_110 rfl rfl (by first | exact rfl | exact trivial) ?_
        refine V.goto 71 dX7_readCourt_113 (by decide) ?_
        exact V.lo [(0, some (.ref (x + 2))), (1, some (.ref (x + 1))), (2, some (.int v)), (3, some (.int 1)), (4, some (.int (i + 1)))] (by simp only [Subs]; repeat' first | exact trivial | constructor | rfl) (ih _ _ n1 T1 e.2 J1 P1 w' (cells + qc + 0) (slots + qs + 0) hk1 e3 hw1 hw2 (by omega) (by omega))
end
