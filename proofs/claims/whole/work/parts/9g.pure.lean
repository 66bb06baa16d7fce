/-! a line's bytecode; a new law lies behind all -/
theorem dX7_readLine_0 : decode cX7_readLine 0 = .ok (.aload_n 0, 1) := by decide +kernel
theorem dX7_readLine_1 : decode cX7_readLine 1 = .ok (.getfield 56, 3) := by decide +kernel
theorem dX7_readLine_4 : decode cX7_readLine 4 = .ok (.tableswitch 143 203 212 #[61, 143, 143, 143, 143, 56, 143, 66, 71, 107], 56) := by decide +kernel
theorem dX7_readLine_60 : decode cX7_readLine 60 = .ok (.aload_n 0, 1) := by decide +kernel
theorem dX7_readLine_61 : decode cX7_readLine 61 = .ok (.invokevirtual 104, 3) := by decide +kernel
theorem dX7_readLine_64 : decode cX7_readLine 64 = .ok (.ireturn, 1) := by decide +kernel
theorem dX7_readLine_65 : decode cX7_readLine 65 = .ok (.aload_n 0, 1) := by decide +kernel
theorem dX7_readLine_66 : decode cX7_readLine 66 = .ok (.invokevirtual 107, 3) := by decide +kernel
theorem dX7_readLine_69 : decode cX7_readLine 69 = .ok (.ireturn, 1) := by decide +kernel
theorem dX7_readLine_70 : decode cX7_readLine 70 = .ok (.aload_n 0, 1) := by decide +kernel
theorem dX7_readLine_71 : decode cX7_readLine 71 = .ok (.invokevirtual 110, 3) := by decide +kernel
theorem dX7_readLine_74 : decode cX7_readLine 74 = .ok (.ireturn, 1) := by decide +kernel
theorem dX7_readLine_75 : decode cX7_readLine 75 = .ok (.aload_n 0, 1) := by decide +kernel
theorem dX7_readLine_76 : decode cX7_readLine 76 = .ok (.invokevirtual 113, 3) := by decide +kernel
theorem dX7_readLine_79 : decode cX7_readLine 79 = .ok (.ifCond .ne 5, 3) := by decide +kernel
theorem dX7_readLine_82 : decode cX7_readLine 82 = .ok (.iconst 0, 1) := by decide +kernel
theorem dX7_readLine_83 : decode cX7_readLine 83 = .ok (.ireturn, 1) := by decide +kernel
theorem dX7_readLine_84 : decode cX7_readLine 84 = .ok (.aload_n 0, 1) := by decide +kernel
theorem dX7_readLine_85 : decode cX7_readLine 85 = .ok (.getfield 41, 3) := by decide +kernel
theorem dX7_readLine_88 : decode cX7_readLine 88 = .ok (.new 116, 3) := by decide +kernel
theorem dX7_readLine_91 : decode cX7_readLine 91 = .ok (.dup, 1) := by decide +kernel
theorem dX7_readLine_92 : decode cX7_readLine 92 = .ok (.aload_n 0, 1) := by decide +kernel
theorem dX7_readLine_93 : decode cX7_readLine 93 = .ok (.getfield 15, 3) := by decide +kernel
theorem dX7_readLine_96 : decode cX7_readLine 96 = .ok (.aload_n 0, 1) := by decide +kernel
theorem dX7_readLine_97 : decode cX7_readLine 97 = .ok (.getfield 118, 3) := by decide +kernel
theorem dX7_readLine_100 : decode cX7_readLine 100 = .ok (.invokestatic 121, 3) := by decide +kernel
theorem dX7_readLine_103 : decode cX7_readLine 103 = .ok (.invokespecial 127, 3) := by decide +kernel
theorem dX7_readLine_106 : decode cX7_readLine 106 = .ok (.putfield 130, 3) := by decide +kernel
theorem dX7_readLine_109 : decode cX7_readLine 109 = .ok (.iconst 1, 1) := by decide +kernel
theorem dX7_readLine_110 : decode cX7_readLine 110 = .ok (.ireturn, 1) := by decide +kernel
theorem dX7_readLine_111 : decode cX7_readLine 111 = .ok (.aload_n 0, 1) := by decide +kernel
theorem dX7_readLine_112 : decode cX7_readLine 112 = .ok (.invokevirtual 113, 3) := by decide +kernel
theorem dX7_readLine_115 : decode cX7_readLine 115 = .ok (.ifCond .ne 5, 3) := by decide +kernel
theorem dX7_readLine_118 : decode cX7_readLine 118 = .ok (.iconst 0, 1) := by decide +kernel
theorem dX7_readLine_119 : decode cX7_readLine 119 = .ok (.ireturn, 1) := by decide +kernel
theorem dX7_readLine_120 : decode cX7_readLine 120 = .ok (.aload_n 0, 1) := by decide +kernel
theorem dX7_readLine_121 : decode cX7_readLine 121 = .ok (.getfield 41, 3) := by decide +kernel
theorem dX7_readLine_124 : decode cX7_readLine 124 = .ok (.new 116, 3) := by decide +kernel
theorem dX7_readLine_127 : decode cX7_readLine 127 = .ok (.dup, 1) := by decide +kernel
theorem dX7_readLine_128 : decode cX7_readLine 128 = .ok (.aload_n 0, 1) := by decide +kernel
theorem dX7_readLine_129 : decode cX7_readLine 129 = .ok (.getfield 15, 3) := by decide +kernel
theorem dX7_readLine_132 : decode cX7_readLine 132 = .ok (.aload_n 0, 1) := by decide +kernel
theorem dX7_readLine_133 : decode cX7_readLine 133 = .ok (.getfield 118, 3) := by decide +kernel
theorem dX7_readLine_136 : decode cX7_readLine 136 = .ok (.invokestatic 121, 3) := by decide +kernel
theorem dX7_readLine_139 : decode cX7_readLine 139 = .ok (.invokespecial 127, 3) := by decide +kernel
theorem dX7_readLine_142 : decode cX7_readLine 142 = .ok (.putfield 134, 3) := by decide +kernel
theorem dX7_readLine_145 : decode cX7_readLine 145 = .ok (.iconst 1, 1) := by decide +kernel
theorem dX7_readLine_146 : decode cX7_readLine 146 = .ok (.ireturn, 1) := by decide +kernel
theorem dX7_readLine_147 : decode cX7_readLine 147 = .ok (.aload_n 0, 1) := by decide +kernel
theorem dX7_readLine_148 : decode cX7_readLine 148 = .ok (.iconst 2, 1) := by decide +kernel
theorem dX7_readLine_149 : decode cX7_readLine 149 = .ok (.invokevirtual 68, 3) := by decide +kernel
theorem dX7_readLine_152 : decode cX7_readLine 152 = .ok (.ireturn, 1) := by decide +kernel
def Tlt (T : Nat → Option (Nat × Nat)) (n : Nat) : Prop := ∀ a q, T a = some q → a < n
def lwT (T : Nat → Option (Nat × Nat)) (n m : Nat) : Nat → Option (Nat × Nat) := va_up (va_up T n (some (2, 0))) (n + 1) (some (20, m))
def lwI (I : Nat → Nat → Int32) (n x m : Nat) : Nat → Nat → Int32 := cpI (zI (zI I n) (n + 1)) (x + 3) (n + 1) 0 0 m
def lwJ (J : Nat → Nat → Int64) (n : Nat) : Nat → Nat → Int64 := zJ (zJ J n) (n + 1)
def lwP (P : Nat → Nat → Option Nat) (n c i : Nat) : Nat → Nat → Option Nat := uP (uP (zP (zP P n) (n + 1)) n 0 (some (n + 1))) c i (some n)
theorem zP_n {P : Nat → Nat → Option Nat} {n q : Nat} (h : q ≠ n) : zP P n q = P q := va_up_ne _ _ h
theorem zI_n {I : Nat → Nat → Int32} {n q : Nat} (h : q ≠ n) : zI I n q = I q := va_up_ne _ _ h
theorem zJ_n {J : Nat → Nat → Int64} {n q : Nat} (h : q ≠ n) : zJ J n q = J q := va_up_ne _ _ h
theorem Tlt.tx {T : Nat → Option (Nat × Nat)} {n : Nat} {s : Nat × Nat} (h : Tlt T n) : TX T (va_up T n (some s)) := fun a q e => by rw [va_up_ne _ _ (by have := h a q e; omega)]; exact e
theorem Tlt.up {T : Nat → Option (Nat × Nat)} {n : Nat} {s : Nat × Nat} (h : Tlt T n) : Tlt (va_up T n (some s)) (n + 1) := fun a q e => by
  by_cases c : a = n
  · omega
  · rw [va_up_ne _ _ c] at e
    have := h a q e
    omega
theorem zP_py {x n : Nat} {T : Nat → Option (Nat × Nat)} {P : Nat → Nat → Option Nat} (h : Tlt T n) : PY x T P (zP P n) := fun q i s e _ _ _ _ => by
  have := h q s e
  rw [zP_n (by omega)]
def lawL (k : Int32 × (Nat → Nat → Int32)) (n : Nat) (T : Nat → Option (Nat × Nat)) (J : Nat → Nat → Int64) (P : Nat → Nat → Option Nat) (x c i : Nat) : Option (Int32 × HT × Nat × Nat) := if k.1 = 0 then some (0, (n, T, k.2, J, P), 0, 0) else (if (k.2 (x + 2) 10).toNatClampNeg < 900 ∧ k.2 (x + 2) 10 = nI (k.2 (x + 2) 10).toNatClampNeg then some (1, (n + 2, lwT T n (k.2 (x + 2) 10).toNatClampNeg, lwI k.2 n x (k.2 (x + 2) 10).toNatClampNeg, lwJ J n, lwP P n c i), 2, 1 + (k.2 (x + 2) 10).toNatClampNeg) else none)
def rd_readLine (F n : Nat) (T : Nat → Option (Nat × Nat)) (I : Nat → Nat → Int32) (J : Nat → Nat → Int64) (P : Nat → Nat → Option Nat) (x c : Nat) : Option (Int32 × HT × Nat × Nat) :=
  if I (x + 2) 6 = 208 then (rd_readPerson F I x c).bind (fun k => isb k.1 (some (k.1, (n, T, k.2, J, P), 0, 0)))
  else if I (x + 2) 6 = 203 then (rd_readTune F I x c).bind (fun k => isb k.1 (some (k.1, (n, T, k.2, J, P), 0, 0)))
  else if I (x + 2) 6 = 210 then (rd_readOffice F I x c).bind (fun k => isb k.1 (some (k.1, (n, T, k.2, J, P), 0, 0)))
  else if I (x + 2) 6 = 211 then (rd_readLaw F I x).bind (fun k => lawL k n T J P x c 8)
  else if I (x + 2) 6 = 212 then (rd_readLaw F I x).bind (fun k => lawL k n T J P x c 9)
  else (rd_refuse I x 2).bind (fun k => isb k.1 (some (k.1, (n, T, k.2, J, P), 0, 0)))
section
variable {l : Launch} {D : va_G} {E : Nat → ClassId} {B : Nat → Prop} {n F : Nat} {T : Nat → Option (Nat × Nat)} {I : Nat → Nat → Int32} {J : Nat → Nat → Int64} {P : Nat → Nat → Option Nat} {x c : Nat}
theorem law_walk_84 {Q : Option Value → HT → Prop} {mc ms m : Nat} (hx : isSR T P x) (hc : T c = some (1, 0)) (hdr : P (x + 2) 8 = some c) (hT : Tlt T n) (hm : m < 900) (he : I (x + 2) 10 = nI m) (hmc : 2 ≤ mc) (hms : 1 + m ≤ ms) (hq : Q (some (.int 1)) (n + 2, lwT T n m, lwI I n x m, lwJ J n, lwP P n c 8)) : V l D E B yX7_readLine cX7_readLine 1 (some .boolean) 92 mc ms Q 0 0 (n, T, I, J, P) 84 [(0, some (.ref (x + 2)))] [] := by
  refine V.aload_n dX7_readLine_84 rfl ?_
  refine V.getr fl_X7_41 dX7_readLine_85 (hx.1 2 (7, 0) rfl) hdr (by decide) rfl ?_
  refine V.new nl_X7_116 dX7_readLine_88 (by decide) (by omega) (by omega) ?_
  have hx1 : isSR (va_up T n (some (2, 0))) (zP P n) x := hx.py hT.tx (zP_py hT)
  have hn3 : x + 3 < n := hT _ _ (hx.1 3 (20, 900) rfl)
  have hcn : c < n := hT _ _ hc
  refine V.dup dX7_readLine_91 rfl ?_
  refine V.aload_n dX7_readLine_92 rfl ?_
  refine V.getr fl_X7_15 dX7_readLine_93 (hx1.1 2 (7, 0) rfl) (hx1.2.1 2 9 3 rfl) (by decide) rfl ?_
  refine V.aload_n dX7_readLine_96 rfl ?_
  refine V.getf fl_X7_118 dX7_readLine_97 (hx1.1 2 (7, 0) rfl) (by decide) rfl ?_
  rw [zI_n (show x + 2 ≠ n by omega), he]
  refine V.ins cs_X7_121 (c_copyOf (hx1.1 3 (20, 900) rfl) (by omega) hm) dX7_readLine_100 rfl rfl (Nat.le_of_ble_eq_true rfl) (by decide) (by decide) (by omega) (by omega) (fun _ _ hq2 => ?_)
  obtain ⟨rfl, rfl⟩ := hq2
  refine V.ini cn_X7_127 (c_w_init (w := n) (q := n + 1) (z := 0) (by rw [va_up_ne _ _ (by omega), va_up_self])) dX7_readLine_103 rfl rfl (Nat.le_of_ble_eq_true rfl) (by decide) (by decide) (by omega) (by omega) (fun _ _ hq2 => ?_)
  obtain ⟨rfl, rfl⟩ := hq2
  refine V.putr fl_X7_130 dX7_readLine_106 (a := c) (c := 1) (z := 0) (by rw [va_up_ne _ _ (by omega), va_up_ne _ _ (by omega)]; exact hc) (by decide) (fun h => by cases h) rfl rfl rfl (Nat.le_of_ble_eq_true rfl) ?_
  refine V.iconst (v := 1) dX7_readLine_109 (by decide) ?_
  exact V.zret dX7_readLine_110 rfl rfl (by omega) (by omega) hq
theorem law_walk_120 {Q : Option Value → HT → Prop} {mc ms m : Nat} (hx : isSR T P x) (hc : T c = some (1, 0)) (hdr : P (x + 2) 8 = some c) (hT : Tlt T n) (hm : m < 900) (he : I (x + 2) 10 = nI m) (hmc : 2 ≤ mc) (hms : 1 + m ≤ ms) (hq : Q (some (.int 1)) (n + 2, lwT T n m, lwI I n x m, lwJ J n, lwP P n c 9)) : V l D E B yX7_readLine cX7_readLine 1 (some .boolean) 92 mc ms Q 0 0 (n, T, I, J, P) 120 [(0, some (.ref (x + 2)))] [] := by
  refine V.aload_n dX7_readLine_120 rfl ?_
  refine V.getr fl_X7_41 dX7_readLine_121 (hx.1 2 (7, 0) rfl) hdr (by decide) rfl ?_
  refine V.new nl_X7_116 dX7_readLine_124 (by decide) (by omega) (by omega) ?_
  have hx1 : isSR (va_up T n (some (2, 0))) (zP P n) x := hx.py hT.tx (zP_py hT)
  have hn3 : x + 3 < n := hT _ _ (hx.1 3 (20, 900) rfl)
  have hcn : c < n := hT _ _ hc
  refine V.dup dX7_readLine_127 rfl ?_
  refine V.aload_n dX7_readLine_128 rfl ?_
  refine V.getr fl_X7_15 dX7_readLine_129 (hx1.1 2 (7, 0) rfl) (hx1.2.1 2 9 3 rfl) (by decide) rfl ?_
  refine V.aload_n dX7_readLine_132 rfl ?_
  refine V.getf fl_X7_118 dX7_readLine_133 (hx1.1 2 (7, 0) rfl) (by decide) rfl ?_
  rw [zI_n (show x + 2 ≠ n by omega), he]
  refine V.ins cs_X7_121 (c_copyOf (hx1.1 3 (20, 900) rfl) (by omega) hm) dX7_readLine_136 rfl rfl (Nat.le_of_ble_eq_true rfl) (by decide) (by decide) (by omega) (by omega) (fun _ _ hq2 => ?_)
  obtain ⟨rfl, rfl⟩ := hq2
  refine V.ini cn_X7_127 (c_w_init (w := n) (q := n + 1) (z := 0) (by rw [va_up_ne _ _ (by omega), va_up_self])) dX7_readLine_139 rfl rfl (Nat.le_of_ble_eq_true rfl) (by decide) (by decide) (by omega) (by omega) (fun _ _ hq2 => ?_)
  obtain ⟨rfl, rfl⟩ := hq2
  refine V.putr fl_X7_134 dX7_readLine_142 (a := c) (c := 1) (z := 0) (by rw [va_up_ne _ _ (by omega), va_up_ne _ _ (by omega)]; exact hc) (by decide) (fun h => by cases h) rfl rfl rfl (Nat.le_of_ble_eq_true rfl) ?_
  refine V.iconst (v := 1) dX7_readLine_145 (by decide) ?_
  exact V.zret dX7_readLine_146 rfl rfl (by omega) (by omega) hq
theorem c_rd_readLine {r : Int32 × HT × Nat × Nat} (hx : isSR T P x) (hs_c : isCt T P c) (hdr : P (x + 2) 8 = some c) (ht : P (x + 2) 2 = some (x + 1)) (hT : Tlt T n) (hf : rd_readLine F n T I J P x c = some r) : Ct l D E B yX7_readLine cX7_readLine 1 (some .boolean) 92 r.2.2.1 r.2.2.2 [.ref (x + 2)] (n, T, I, J, P) (Ret (some (.int r.1)) r.2.1) := by
  unfold rd_readLine at hf
  refine Ct.ofV (by decide) (Nat.le_of_ble_eq_true rfl) ?_
  refine V.aload_n dX7_readLine_0 rfl ?_
  refine V.getf fl_X7_56 dX7_readLine_1 (hx.1 2 (7, 0) rfl) (by decide) rfl ?_
  by_cases c1 : I (x + 2) 6 = 208
  · rw [if_pos c1] at hf
    have e : (I (x + 2) 6).toInt = 208 := by rw [c1]; rfl
    refine V.tabIn 60 dX7_readLine_4 (by rw [e]; decide) (by rw [e]; decide) (by rw [e]; rfl) (by decide) ?_
    obtain ⟨k, hk, hf⟩ := bnd_some hf
    try dsimp only at hf
    obtain ⟨hb, hf⟩ := isb_some hf
    obtain rfl := Option.some.inj hf
    refine V.aload_n dX7_readLine_60 rfl ?_
    refine V.inv cv_X7_104 (c_rd_readPerson hx hs_c hdr ht hk) dX7_readLine_61 (hx.1 2 (7, 0) rfl) (by decide) rfl rfl rfl (Nat.le_of_ble_eq_true rfl) (by decide) (by decide) (Nat.le_refl _) (Nat.le_refl _) (fun _ _ hq => ?_)
    obtain ⟨rfl, rfl⟩ := hq
    exact V.zret dX7_readLine_64 rfl hb (Nat.le_refl _) (Nat.le_refl _) ⟨rfl, rfl⟩
  rw [if_neg c1] at hf
  by_cases c2 : I (x + 2) 6 = 203
  · rw [if_pos c2] at hf
    have e : (I (x + 2) 6).toInt = 203 := by rw [c2]; rfl
    refine V.tabIn 65 dX7_readLine_4 (by rw [e]; decide) (by rw [e]; decide) (by rw [e]; rfl) (by decide) ?_
    obtain ⟨k, hk, hf⟩ := bnd_some hf
    try dsimp only at hf
    obtain ⟨hb, hf⟩ := isb_some hf
    obtain rfl := Option.some.inj hf
    refine V.aload_n dX7_readLine_65 rfl ?_
    refine V.inv cv_X7_107 (c_rd_readTune hx hs_c hdr ht hk) dX7_readLine_66 (hx.1 2 (7, 0) rfl) (by decide) rfl rfl rfl (Nat.le_of_ble_eq_true rfl) (by decide) (by decide) (Nat.le_refl _) (Nat.le_refl _) (fun _ _ hq => ?_)
    obtain ⟨rfl, rfl⟩ := hq
    exact V.zret dX7_readLine_69 rfl hb (Nat.le_refl _) (Nat.le_refl _) ⟨rfl, rfl⟩
  rw [if_neg c2] at hf
  by_cases c3 : I (x + 2) 6 = 210
  · rw [if_pos c3] at hf
    have e : (I (x + 2) 6).toInt = 210 := by rw [c3]; rfl
    refine V.tabIn 70 dX7_readLine_4 (by rw [e]; decide) (by rw [e]; decide) (by rw [e]; rfl) (by decide) ?_
    obtain ⟨k, hk, hf⟩ := bnd_some hf
    try dsimp only at hf
    obtain ⟨hb, hf⟩ := isb_some hf
    obtain rfl := Option.some.inj hf
    refine V.aload_n dX7_readLine_70 rfl ?_
    refine V.inv cv_X7_110 (c_rd_readOffice hx hs_c hdr ht hk) dX7_readLine_71 (hx.1 2 (7, 0) rfl) (by decide) rfl rfl rfl (Nat.le_of_ble_eq_true rfl) (by decide) (by decide) (Nat.le_refl _) (Nat.le_refl _) (fun _ _ hq => ?_)
    obtain ⟨rfl, rfl⟩ := hq
    exact V.zret dX7_readLine_74 rfl hb (Nat.le_refl _) (Nat.le_refl _) ⟨rfl, rfl⟩
  rw [if_neg c3] at hf
  by_cases c4 : I (x + 2) 6 = 211
  · rw [if_pos c4] at hf
    have e : (I (x + 2) 6).toInt = 211 := by rw [c4]; rfl
    refine V.tabIn 75 dX7_readLine_4 (by rw [e]; decide) (by rw [e]; decide) (by rw [e]; rfl) (by decide) ?_
    obtain ⟨k, hk, hf⟩ := bnd_some hf
    try dsimp only at hf
    refine V.aload_n dX7_readLine_75 rfl ?_
    refine V.inv cv_X7_113 (c_rd_readLaw hx ht hk) dX7_readLine_76 (hx.1 2 (7, 0) rfl) (by decide) rfl rfl rfl (Nat.le_of_ble_eq_true rfl) (by decide) (by decide) (Nat.zero_le _) (Nat.zero_le _) (fun _ _ hq => ?_)
    obtain ⟨rfl, rfl⟩ := hq
    try dsimp only
    unfold lawL at hf
    refine V.if_ne 84 dX7_readLine_79 (by decide) (fun c9 => ?_) (fun c9 => ?_)
    · rw [if_neg c9] at hf
      split at hf
      · next hm =>
        obtain rfl := Option.some.inj hf
        exact law_walk_84 hx (hs_c.1.1 0 (1, 0) rfl) hdr hT hm.1 hm.2 (Nat.le_refl _) (Nat.le_refl _) ⟨rfl, rfl⟩
      · cases hf
    · rw [if_pos c9] at hf
      obtain rfl := Option.some.inj hf
      refine V.iconst (v := 0) dX7_readLine_82 (by decide) ?_
      exact V.zret dX7_readLine_83 rfl rfl (Nat.le_refl _) (Nat.le_refl _) ⟨rfl, rfl⟩
  rw [if_neg c4] at hf
  by_cases c5 : I (x + 2) 6 = 212
  · rw [if_pos c5] at hf
    have e : (I (x + 2) 6).toInt = 212 := by rw [c5]; rfl
    refine V.tabIn 111 dX7_readLine_4 (by rw [e]; decide) (by rw [e]; decide) (by rw [e]; rfl) (by decide) ?_
    obtain ⟨k, hk, hf⟩ := bnd_some hf
    try dsimp only at hf
    refine V.aload_n dX7_readLine_111 rfl ?_
    refine V.inv cv_X7_113 (c_rd_readLaw hx ht hk) dX7_readLine_112 (hx.1 2 (7, 0) rfl) (by decide) rfl rfl rfl (Nat.le_of_ble_eq_true rfl) (by decide) (by decide) (Nat.zero_le _) (Nat.zero_le _) (fun _ _ hq => ?_)
    obtain ⟨rfl, rfl⟩ := hq
    try dsimp only
    unfold lawL at hf
    refine V.if_ne 120 dX7_readLine_115 (by decide) (fun c9 => ?_) (fun c9 => ?_)
    · rw [if_neg c9] at hf
      split at hf
      · next hm =>
        obtain rfl := Option.some.inj hf
        exact law_walk_120 hx (hs_c.1.1 0 (1, 0) rfl) hdr hT hm.1 hm.2 (Nat.le_refl _) (Nat.le_refl _) ⟨rfl, rfl⟩
      · cases hf
    · rw [if_pos c9] at hf
      obtain rfl := Option.some.inj hf
      refine V.iconst (v := 0) dX7_readLine_118 (by decide) ?_
      exact V.zret dX7_readLine_119 rfl rfl (Nat.le_refl _) (Nat.le_refl _) ⟨rfl, rfl⟩
  rw [if_neg c5] at hf
  obtain ⟨k, hk, hf⟩ := bnd_some hf
  try dsimp only at hf
  obtain ⟨hb, hf⟩ := isb_some hf
  obtain rfl := Option.some.inj hf
  have tail : V l D E B yX7_readLine cX7_readLine 1 (some .boolean) 92 0 0 (Ret (some (.int k.1)) (n, T, k.2, J, P)) 0 0 (n, T, I, J, P) 147 [(0, some (.ref (x + 2)))] [] := by
    refine V.aload_n dX7_readLine_147 rfl ?_
    refine V.iconst (v := 2) dX7_readLine_148 (by decide) ?_
    refine V.inv cv_X7_68 (c_rd_refuse hx hk) dX7_readLine_149 (hx.1 2 (7, 0) rfl) (by decide) rfl rfl rfl (Nat.le_of_ble_eq_true rfl) (by decide) (by decide) (Nat.le_refl _) (Nat.le_refl _) (fun _ _ hq => ?_)
    obtain ⟨rfl, rfl⟩ := hq
    exact V.zret dX7_readLine_152 rfl hb (Nat.le_refl _) (Nat.le_refl _) ⟨rfl, rfl⟩
  by_cases o1 : (I (x + 2) 6).toInt < 203 ∨ 212 < (I (x + 2) 6).toInt
  · exact V.tabOut 147 dX7_readLine_4 o1 (by decide) tail
  · have ne : ∀ v : Int32, ¬ I (x + 2) 6 = v → (I (x + 2) 6).toInt ≠ v.toInt := fun v h cc => h (Int32.toInt_inj.mp cc)
    have n1 := ne _ c1
    have n2 := ne _ c2
    have n3 := ne _ c3
    have n4 := ne _ c4
    have n5 := ne _ c5
    rw [show (208 : Int32).toInt = 208 from rfl] at n1
    rw [show (203 : Int32).toInt = 203 from rfl] at n2
    rw [show (210 : Int32).toInt = 210 from rfl] at n3
    rw [show (211 : Int32).toInt = 211 from rfl] at n4
    rw [show (212 : Int32).toInt = 212 from rfl] at n5
    have e : (I (x + 2) 6).toInt = 204 ∨ (I (x + 2) 6).toInt = 205 ∨ (I (x + 2) 6).toInt = 206 ∨ (I (x + 2) 6).toInt = 207 ∨ (I (x + 2) 6).toInt = 209 := by omega
    rcases e with e | e | e | e | e
    all_goals exact V.tabIn (off := 143) 147 dX7_readLine_4 (by rw [e]; decide) (by rw [e]; decide) (by rw [e]; rfl) (by decide) tail
end
