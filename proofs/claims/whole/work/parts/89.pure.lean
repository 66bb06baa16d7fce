/-! rows: the reference goes through all orders -/
def mup (val : List Nat → Nat) (b : Option (Nat × List Nat)) (o : List Nat) : Option (Nat × List Nat) := match b with
  | none => some (val o, o)
  | some y => if y.1 < val o then some (val o, o) else some y
theorem mup_n {val : List Nat → Nat} {o : List Nat} {r : Nat} (h : val o = r) : mup val none o = some (r, o) := by rw [← h]; rfl
theorem mup_lt {val : List Nat → Nat} {o o' : List Nat} {r w : Nat} (h : val o = r) (hw : w < r) : mup val (some (w, o')) o = some (r, o) := by
  subst h
  exact if_pos hw
theorem mup_ge {val : List Nat → Nat} {o o' : List Nat} {r w : Nat} (h : val o = r) (hw : ¬ w < r) : mup val (some (w, o')) o = some (w, o') := by
  subst h
  exact if_neg hw
def mfold (val : List Nat → Nat) : Option (Nat × List Nat) → List (List Nat) → Option (Nat × List Nat)
  | s, [] => s
  | s, o :: t => mfold val (mup val s o) t
theorem mfold_app (val : List Nat → Nat) : ∀ (l : List (List Nat)) (s : Option (Nat × List Nat)) (l2 : List (List Nat)), mfold val s (l ++ l2) = mfold val (mfold val s l) l2
  | [], s, l2 => rfl
  | o :: t, s, l2 => mfold_app val t (mup val s o) l2
/-- the best so far, as the reference keeps it -/
def RsR (Iz : Nat → Nat → Int32) (z n : Nat) (b : Option (Nat × List Nat)) : Prop := (b = none ∧ Iz z 28 = -1) ∨ ∃ w o, b = some (w, o) ∧ w ≤ 30 ∧ Iz z 28 = nI w ∧ ∀ k, k < n → Iz (z + 13) k = nI (o.getD k 0)
def Ko (Iz Iz1 : Nat → Nat → Int32) (z : Nat) : Prop := (∀ k, k < 33 → Iz1 (z + 7) k = Iz (z + 1) (32 + k)) ∧ Iz1 (z + 1) = Iz (z + 1) ∧ (∀ q, q ≠ z → q ≠ z + 5 → q ≠ z + 6 → q ≠ z + 7 → q ≠ z + 8 → q ≠ z + 9 → q ≠ z + 12 → q ≠ z + 13 → Iz1 q = Iz q) ∧ ∀ k, k ≠ 0 → k ≠ 28 → Iz1 z k = Iz z k
theorem or_ub : ∀ s, s < 64 → ∀ k, k < 6 → ∀ r, r < 6 → ub (s ||| 2 ^ k) r = (ub s r || decide (r = k)) := by decide +kernel
section
variable {T : Nat → Option (Nat × Nat)} {I : Nat → Nat → Int32} {J : Nat → Nat → Int64} {P : Nat → Nat → Option Nat} {x nn c : Nat} {Iz : Nat → Nat → Int32} {Jz : Nat → Nat → Int64} {z N n u tn : Nat} {LT LP : Row → Int32} {d na v e : Nat}
theorem Ko.keep {Iz1 : Nat → Nat → Int32} (h : Ko Iz Iz1 z) : KeepZ Iz Iz1 z := by
  obtain ⟨h1, h2, h3, h4⟩ := h
  exact ⟨h2, h3 _ (by omega) (by omega) (by omega) (by omega) (by omega) (by omega) (by omega) (by omega), h3 _ (by omega) (by omega) (by omega) (by omega) (by omega) (by omega) (by omega) (by omega), h3 _ (by omega) (by omega) (by omega) (by omega) (by omega) (by omega) (by omega) (by omega), h3 _ (by omega) (by omega) (by omega) (by omega) (by omega) (by omega) (by omega) (by omega), h4 5 (by decide) (by decide), h4 13 (by decide) (by decide), h4 14 (by decide) (by decide)⟩
theorem Ko.n19 {Iz1 : Nat → Nat → Int32} (h : Ko Iz Iz1 z) : Iz1 (z + 19) = Iz (z + 19) := h.2.2.1 _ (by omega) (by omega) (by omega) (by omega) (by omega) (by omega) (by omega) (by omega)
/-- one order tried, on both sides -/
theorem order_is (hsr : isSR T P x) (h : InvK T I J P x nn c Iz Jz z N n u tn LT LP v) (hN : N < 600) {I1 Iz2 : Nat → Nat → Int32} {o : List Nat} {t m p : Nat} {tl : Nat → Nat} (hp : p < n) (ho : Pm n o) (hI : ∀ q, ¬ Scr x c q → I1 q = I q) (hq : ∀ i, i < n → I1 (x + 113) i = nI (o.getD i 0)) (hNg : Ngt I1 x Iz2 Jz z t m tn tl) (hz : Iz2 (z + 1) = mor1 (Iz (z + 1)) o n) :
    ∃ I2 I3 I4 Iz3, s_copyFrom I1 (x + 101) (x + 12) = some I2 ∧ s_arrange 2000 T I2 (x + 101) (x + 113) = some I3 ∧ ni_minutesUp 2000 T I3 P x c (x + 101) (nI p) = some (nI (mmin LT LP n tl p m 0 u (mor1 (Iz (z + 1)) o n)), I4) ∧ r_standsIn 2000 Iz2 Jz z (nI t) (nI p) = some (nI (mmin LT LP n tl p m 0 u (mor1 (Iz (z + 1)) o n)), Iz3) ∧ mmin LT LP n tl p m 0 u (mor1 (Iz (z + 1)) o n) ≤ m ∧ (∀ q, ¬ (x + 101 ≤ q ∧ q ≤ x + 107) → q ≠ c + 5 → q ≠ c + 6 → q ≠ c + 7 → I4 q = I1 q) ∧ Fr Iz2 Iz3 z := by
  have hcx := h.apx.1
  have hn := h.n6
  have hL : lenT T (x + 113) = 6 := by
    have := hsr.1 113 _ rfl
    unfold lenT
    rw [this]
  obtain ⟨I2, c1, R2, q2⟩ := (h.rs.same (I' := I1) (fun q a b => hI q (by unfold Scr; omega))).copy (a := x + 101) hn h.wf.2.2.2.2 (by omega)
  obtain ⟨I3, a1, R3, q3⟩ := arrange_is (T := T) (qa := x + 113) hn ho hL (by omega) R2 (fun i hi => by rw [q2 _ (by omega)]; exact hq i hi)
  have o3 : ∀ q, ¬ (x + 101 ≤ q ∧ q ≤ x + 107) → I3 q = I1 q := fun q hq => by rw [q3 q (by omega) (by omega), q2 q (by omega)]
  obtain ⟨e, he, S⟩ := sm_mor h (Iz1 := Iz2) ho (fun q hq => by rw [o3 q (by unfold Scr at hq; omega), hI q hq]) R3 hz
  obtain ⟨r, I4, Iz3, m1, m2, m3, m4, m5, m6⟩ := minx_is hcx (by omega) hp (by omega) S.np (hNg.fx (I1 := I3) (Iz1 := Iz2) (by rw [o3 _ (by omega)]) (o3 _ (by omega)) rfl)
  rw [hz] at m6
  rw [m6] at m1 m2 m3
  exact ⟨I2, I3, I4, Iz3, c1, a1, m1, m2, m3, fun q b1 b2 b3 b4 => by rw [m4 q (by omega) b2 b3 b4, o3 q b1], m5⟩
theorem spots_go {rec : Int32 → Int32 → Int32 → Int32 → (Nat → Nat → Int32) → Option (Nat → Nat → Int32)} {g1 g2 g3 g4 : Int32} {A : Row} {o : List Nat} (hn : n ≤ 6) (ho : Pm n o) (hA : A 1 = nI n) : ∀ (j k f : Nat) (Iz : Nat → Nat → Int32), k + j = n → j < f → Iz (z + 1) = mor1 A o k → (∀ i, i < n → Iz (z + 12) i = nI (o.getD i 0)) → ∃ Iz1, r_ordersB_13 rec 2000 z g1 g2 g3 g4 f (nI k) Iz = some (nI n, Iz1) ∧ Iz1 (z + 1) = mor1 A o n ∧ ∀ q, q ≠ z + 1 → Iz1 q = Iz q := by
  have h6 : ∀ k, k < n → o.getD k 0 < 6 := fun k hk => by have := ho.2.1 k hk; omega
  intro j
  induction j with
  | zero =>
    intro k f Iz hk hf hz hq
    obtain ⟨f, rfl⟩ : ∃ f', f = f' + 1 := ⟨f - 1, by omega⟩
    obtain rfl : k = n := by omega
    refine ⟨Iz, ?_, hz, fun _ _ => rfl⟩
    rw [r_ordersB_13, show Int32.toNatClampNeg 1 = 1 from rfl, hz, mor1_o h6 (by omega) k (Nat.le_refl _), hA, if_pos (nI_le (Nat.le_refl _) (by omega))]
  | succ j ih =>
    intro k f Iz hk hf hz hq
    obtain ⟨f, rfl⟩ : ∃ f', f = f' + 1 := ⟨f - 1, by omega⟩
    have ok := h6 k (by omega)
    rw [r_ordersB_13, show Int32.toNatClampNeg 1 = 1 from rfl, hz, mor1_o h6 (by omega) k (by omega), hA, if_neg (nI_ge (by omega) (by omega)), chk_nI (show k < 6 by omega) (by decide), nI_cl (show k < 2147483648 by omega), hq k (by omega), show (35 : Int32) + nI (o.getD k 0) = nI (35 + o.getD k 0) from nI_add 35 _, chk_nI (show 35 + o.getD k 0 < 3891 by omega) (by decide), nI_cl (show 35 + o.getD k 0 < 2147483648 by omega), nI_1]
    try dsimp only
    obtain ⟨I1, e1, e2, e3⟩ := ih (k + 1) f (uI Iz (z + 1) (35 + o.getD k 0) (nI k)) (by omega) (by omega) (by rw [uI_s, hz, mor1]) (fun i hi => by rw [uI_row _ _ _ _ _ (by omega)]; exact hq i hi)
    exact ⟨I1, e1, e2, fun q hq => by rw [e3 q hq, uI_row _ _ _ _ _ hq]⟩
theorem bcopy_go {rec : Int32 → Int32 → Int32 → Int32 → (Nat → Nat → Int32) → Option (Nat → Nat → Int32)} {g1 g2 g3 g4 g5 : Int32} : ∀ (j k f : Nat) (Iz : Nat → Nat → Int32), k + j = 6 → j < f → (∀ i, i < k → Iz (z + 13) i = Iz (z + 12) i) → ∃ Iz1, r_ordersB_78 rec 2000 z g1 g2 g3 g4 g5 f (nI k) Iz = some (nI 6, Iz1) ∧ (∀ i, i < 6 → Iz1 (z + 13) i = Iz (z + 12) i) ∧ ∀ q, q ≠ z + 13 → Iz1 q = Iz q := by
  intro j
  induction j with
  | zero =>
    intro k f Iz hk hf hd
    obtain ⟨f, rfl⟩ : ∃ f', f = f' + 1 := ⟨f - 1, by omega⟩
    obtain rfl : k = 6 := by omega
    refine ⟨Iz, ?_, hd, fun _ _ => rfl⟩
    rw [r_ordersB_78, if_pos (show (6 : Int32) ≤ nI 6 by decide)]
  | succ j ih =>
    intro k f Iz hk hf hd
    obtain ⟨f, rfl⟩ : ∃ f', f = f' + 1 := ⟨f - 1, by omega⟩
    rw [r_ordersB_78, if_neg (show ¬ (6 : Int32) ≤ nI k from nI_ge (b := 6) (by omega) (by decide)), chk_nI (show k < 6 by omega) (by decide), nI_cl (show k < 2147483648 by omega), nI_1]
    try dsimp only
    have r12 : uI Iz (z + 13) k (Iz (z + 12) k) (z + 12) = Iz (z + 12) := uI_row _ _ _ _ _ (by omega)
    obtain ⟨I1, e1, e2, e3⟩ := ih (k + 1) f (uI Iz (z + 13) k (Iz (z + 12) k)) (by omega) (by omega) (fun i hi => by
      rw [r12]
      by_cases e : i = k
      · subst e; rw [uI_e]
      · rw [uI_k _ _ _ _ _ e]; exact hd i (by omega))
    rw [r12] at e2
    exact ⟨I1, e1, e2, fun q hq => by rw [e3 q hq, uI_row _ _ _ _ _ hq]⟩
/-- a whole order, in the reference -/
theorem leafR_is (hsr : isSR T P x) (h : InvK T I J P x nn c Iz Jz z N n u tn LT LP v) (hN : N < 600) {Iz1 : Nat → Nat → Int32} {o : List Nat} {t m p : Nat} {tl : Nat → Nat} {b : Option (Nat × List Nat)} {g4 : Int32} {rec : Int32 → Int32 → Int32 → Int32 → (Nat → Nat → Int32) → Option (Nat → Nat → Int32)} (hp : p < n) (ho : Pm n o) (hNg : Ngt I x Iz Jz z t m tn tl) (hK : Ko Iz Iz1 z) (hq : ∀ i, i < n → Iz1 (z + 12) i = nI (o.getD i 0)) (hB : RsR Iz1 z n b) :
    ∃ Iz2, r_ordersB rec 2000 Iz1 Jz z (nI t) (nI p) (nI n) g4 = some Iz2 ∧ Ko Iz Iz2 z ∧ Iz2 (z + 12) = Iz1 (z + 12) ∧ RsR Iz2 z n (mup (fun o => mmin LT LP n tl p m 0 u (mor1 (Iz (z + 1)) o n)) b o) := by
  have hn := h.n6
  have hm := hNg.2.1
  obtain ⟨k1, k2, k3, k4⟩ := id hK
  unfold r_ordersB
  rw [show Int32.toNatClampNeg 1 = 1 from rfl, k2, h.z1, if_pos rfl]
  obtain ⟨Iz2, s1, s2, s3⟩ := spots_go (rec := rec) (z := z) (g1 := nI t) (g2 := nI p) (g3 := nI n) (g4 := g4) hn ho h.z1 n 0 2000 Iz1 (by omega) (by omega) k2 hq
  have s1 : r_ordersB_13 rec 2000 z (nI t) (nI p) (nI n) g4 2000 0 Iz1 = _ := s1
  rw [s1, Option.bind_some]
  try dsimp only
  have hsc : ∀ q, ¬ Scr x c q → sR I (x + 113) (oR o) q = I q := fun q hq => sR_o (fun cc => hq (by unfold Scr; omega))
  obtain ⟨-, -, -, Iz3, -, -, -, m2, m3, -, m5⟩ := order_is hsr h hN (I1 := sR I (x + 113) (oR o)) (Iz2 := Iz2) hp ho hsc (fun i hi => by rw [sR_e]; unfold oR; rw [if_pos (by rw [ho.1]; exact hi)]) (hNg.fx (by rw [sR_o (by omega)]) (sR_o (by omega)) (by rw [s3 _ (by omega), hK.n19])) s2
  generalize hr : mmin LT LP n tl p m 0 u (mor1 (Iz (z + 1)) o n) = r at m2 m3
  rw [m2, Option.bind_some]
  try dsimp only
  obtain ⟨Iz4, y2, y3, y4⟩ := r_isAgain_is (I := Iz3) (z := z)
  rw [y2, Option.bind_some]
  try dsimp only
  have w7 : Iz3 (z + 7) = Iz1 (z + 7) := by rw [m5.1 _ (by omega) (by omega) (by omega) (by omega) (by omega), s3 _ (by omega)]
  have h6 : ∀ k, k < n → o.getD k 0 < 6 := fun k hk => by have := ho.2.1 k hk; omega
  have e1 : Iz4 (z + 1) = Iz (z + 1) := by
    rw [y3]
    refine mbk_same (fun k hk => ?_) (fun k hk => by rw [w7]; exact k1 k hk)
    rw [m5.2 k hk, s2, mor1_o h6 (by omega) n (Nat.le_refl _)]
  have o4 : ∀ q, q ≠ z + 1 → q ≠ z + 5 → q ≠ z + 6 → q ≠ z + 8 → q ≠ z + 9 → Iz4 q = Iz1 q := fun q a1 a5 a6 a8 a9 => by rw [y4 q a1, m5.1 q a1 a5 a6 a8 a9, s3 q a1]
  have K4 : Ko Iz Iz4 z := ⟨fun k hk => by rw [o4 _ (by omega) (by omega) (by omega) (by omega) (by omega)]; exact k1 k hk, e1, fun q a0 a5 a6 a7 a8 a9 a12 a13 => by
    by_cases eq : q = z + 1
    · rw [eq, e1]
    · rw [o4 q eq a5 a6 a8 a9, k3 q a0 a5 a6 a7 a8 a9 a12 a13], fun k hk hk2 => by rw [o4 _ (by omega) (by omega) (by omega) (by omega) (by omega)]; exact k4 k hk hk2⟩
  have e12 : Iz4 (z + 12) = Iz1 (z + 12) := o4 _ (by omega) (by omega) (by omega) (by omega) (by omega)
  have e13 : Iz4 (z + 13) = Iz1 (z + 13) := o4 _ (by omega) (by omega) (by omega) (by omega) (by omega)
  have e28 : Iz4 z 28 = Iz1 z 28 := by rw [o4 _ (by omega) (by omega) (by omega) (by omega) (by omega)]
  have put : ∃ Iz5, ((r_ordersB_78 rec 2000 z (nI t) (nI p) (nI n) g4 (nI r) 2000 0 (uI Iz4 z 28 (nI r))).bind (fun q37 => let m39 := q37.1; let I40 := q37.2; some I40)) = some Iz5 ∧ Ko Iz Iz5 z ∧ Iz5 (z + 12) = Iz1 (z + 12) ∧ RsR Iz5 z n (some (r, o)) := by
    obtain ⟨Iz5, b1, b2, b3⟩ := bcopy_go (rec := rec) (z := z) (g1 := nI t) (g2 := nI p) (g3 := nI n) (g4 := g4) (g5 := nI r) 6 0 2000 (uI Iz4 z 28 (nI r)) (by omega) (by omega) (fun i hi => by omega)
    have b1 : r_ordersB_78 rec 2000 z (nI t) (nI p) (nI n) g4 (nI r) 2000 0 (uI Iz4 z 28 (nI r)) = _ := b1
    rw [b1, Option.bind_some]
    have o5 : ∀ q, q ≠ z → q ≠ z + 13 → Iz5 q = Iz4 q := fun q a1 a2 => by rw [b3 q a2, uI_row _ _ _ _ _ a1]
    obtain ⟨l1, l2, l3, l4⟩ := K4
    refine ⟨Iz5, rfl, ⟨fun k hk => by rw [o5 _ (by omega) (by omega)]; exact l1 k hk, by rw [o5 _ (by omega) (by omega)]; exact l2, fun q a0 a5 a6 a7 a8 a9 a12 a13 => by rw [o5 q a0 a13]; exact l3 q a0 a5 a6 a7 a8 a9 a12 a13, fun k hk hk2 => by rw [b3 _ (by omega), uI_k _ _ _ _ _ hk2]; exact l4 k hk hk2⟩, by rw [o5 _ (by omega) (by omega)]; exact e12, Or.inr ⟨r, o, rfl, by omega, by rw [b3 _ (by omega), uI_e], fun k hk => ?_⟩⟩
    rw [b2 k (by omega), uI_row _ _ _ _ _ (by omega), e12]
    exact hq k hk
  rcases hB with ⟨hb, h28⟩ | ⟨w, o', hb, hw, h28, h13⟩
  · rw [if_pos (show Iz4 z 28 < nI r by
      rw [e28, h28, i32_lt, nI_toInt (by omega)]
      have k1 : (-1 : Int32).toInt = -1 := rfl
      omega)]
    obtain ⟨Iz5, b1, b2, b3, b4⟩ := put
    refine ⟨Iz5, b1, b2, b3, ?_⟩
    rw [hb, mup_n (val := fun o => mmin LT LP n tl p m 0 u (mor1 (Iz (z + 1)) o n)) hr]
    exact b4
  · by_cases c1 : w < r
    · rw [if_pos (show Iz4 z 28 < nI r by rw [e28, h28]; exact nI_lt c1 (by omega))]
      obtain ⟨Iz5, b1, b2, b3, b4⟩ := put
      refine ⟨Iz5, b1, b2, b3, ?_⟩
      rw [hb, mup_lt (val := fun o => mmin LT LP n tl p m 0 u (mor1 (Iz (z + 1)) o n)) hr c1]
      exact b4
    · rw [if_neg (show ¬ Iz4 z 28 < nI r by rw [e28, h28]; exact nI_nlt (by omega) (by omega))]
      refine ⟨Iz4, rfl, K4, e12, ?_⟩
      rw [hb, mup_ge (val := fun o => mmin LT LP n tl p m 0 u (mor1 (Iz (z + 1)) o n)) hr c1]
      exact Or.inr ⟨w, o', rfl, hw, by rw [e28]; exact h28, fun k hk => by rw [e13]; exact h13 k hk⟩
theorem mem_mol {f : Nat → List (List Nat)} {o : List Nat} : ∀ (j t i : Nat), t ≤ i → i < t + j → o ∈ f i → o ∈ mol f j t
  | 0, t, i, h1, h2, h => by omega
  | j + 1, t, i, h1, h2, h => by
    rw [mol, List.mem_append]
    by_cases e : i = t
    · subst e; exact Or.inl h
    · exact Or.inr (mem_mol j (t + 1) i (by omega) (by omega) h)
theorem orders_is (hsr : isSR T P x) (h : InvK T I J P x nn c Iz Jz z N n u tn LT LP v) (hN : N < 600) {t m p : Nat} {tl : Nat → Nat} (hp : p < n) (hNg : Ngt I x Iz Jz z t m tn tl) : ∀ (j s kr sb : Nat) (pre : List Nat) (b : Option (Nat × List Nat)) (Iz1 : Nat → Nat → Int32), s + j = n → j < kr → pre.length = s → sb < 64 → (∀ q, q < 6 → ub sb q = pre.contains q) → (∀ o, o ∈ mor n j pre → Pm n o) → Ko Iz Iz1 z → (∀ i, i < s → Iz1 (z + 12) i = nI (pre.getD i 0)) → RsR Iz1 z n b →
    ∃ Iz2, r_orders 2000 Jz z kr (nI t) (nI p) (nI s) (nI sb) Iz1 = some Iz2 ∧ Ko Iz Iz2 z ∧ (∀ i, i < s → Iz2 (z + 12) i = Iz1 (z + 12) i) ∧ RsR Iz2 z n (mfold (fun o => mmin LT LP n tl p m 0 u (mor1 (Iz (z + 1)) o n)) b (mor n j pre)) := by
  have hn := h.n6
  intro j
  induction j with
  | zero =>
    intro s kr sb pre b Iz1 hs hk hl hsb hbits hpm hK hq hB
    obtain ⟨kr, rfl⟩ : ∃ f', kr = f' + 1 := ⟨kr - 1, by omega⟩
    obtain rfl : s = n := by omega
    have ho : Pm s pre := hpm pre (by rw [mor]; exact List.mem_singleton.mpr rfl)
    rw [r_orders]
    obtain ⟨Iz2, e1, e2, e3, e4⟩ := leafR_is (g4 := nI sb) (rec := r_orders 2000 Jz z kr) hsr h hN hp ho hNg hK hq hB
    exact ⟨Iz2, e1, e2, fun i hi => by rw [e3], e4⟩
  | succ j ih =>
    intro s kr sb pre b Iz1 hs hk hl hsb hbits hpm hK hq hB
    obtain ⟨kr, rfl⟩ : ∃ f', kr = f' + 1 := ⟨kr - 1, by omega⟩
    have loop : ∀ (jt q f : Nat) (b : Option (Nat × List Nat)) (Iz1 : Nat → Nat → Int32), q + jt = n → jt < f → Ko Iz Iz1 z → (∀ i, i < s → Iz1 (z + 12) i = nI (pre.getD i 0)) → RsR Iz1 z n b → ∃ Iz2, r_ordersB_109 (r_orders 2000 Jz z kr) 2000 z (nI t) (nI p) (nI s) (nI sb) f (nI q) Iz1 = some (nI n, Iz2) ∧ Ko Iz Iz2 z ∧ (∀ i, i < s → Iz2 (z + 12) i = Iz1 (z + 12) i) ∧ RsR Iz2 z n (mfold (fun o => mmin LT LP n tl p m 0 u (mor1 (Iz (z + 1)) o n)) b (mol (fun q => if pre.contains q then [] else mor n j (pre ++ [q])) jt q)) := by
      intro jt
      induction jt with
      | zero =>
        intro q f b Iz1 hqn hf hK hq hB
        obtain ⟨f, rfl⟩ : ∃ f', f = f' + 1 := ⟨f - 1, by omega⟩
        obtain rfl : q = n := by omega
        refine ⟨Iz1, ?_, hK, fun _ _ => rfl, hB⟩
        rw [r_ordersB_109, show Int32.toNatClampNeg 1 = 1 from rfl, hK.2.1, h.z1, if_pos (nI_le (Nat.le_refl _) (by omega))]
      | succ jt ihl =>
        intro q f b Iz1 hqn hf hK hq hB
        obtain ⟨f, rfl⟩ : ∃ f', f = f' + 1 := ⟨f - 1, by omega⟩
        rw [r_ordersB_109, show Int32.toNatClampNeg 1 = 1 from rfl, hK.2.1, h.z1, if_neg (nI_ge (by omega) (by omega)), isIn_tab sb hsb q (by omega), hbits q (by omega), mol, mfold_app]
        cases hc : pre.contains q with
        | true =>
          rw [if_neg (show ¬ b2 true = 0 by decide), nI_1, if_pos rfl]
          exact ihl (q + 1) f b Iz1 (by omega) (by omega) hK hq hB
        | false =>
          rw [if_pos (show b2 false = 0 from rfl), if_neg (show ¬ false = true by decide), chk_nI (show s < 6 by omega) (by decide), nI_cl (show s < 2147483648 by omega), nI_1, or_tab sb hsb q (by omega)]
          try dsimp only
          have o5 : ∀ r, r ≠ z + 12 → uI Iz1 (z + 12) s (nI q) r = Iz1 r := fun r hr => uI_row _ _ _ _ _ hr
          have K5 : Ko Iz (uI Iz1 (z + 12) s (nI q)) z := by
            obtain ⟨l1, l2, l3, l4⟩ := hK
            exact ⟨fun k hk => by rw [o5 _ (by omega)]; exact l1 k hk, by rw [o5 _ (by omega)]; exact l2, fun r a0 a5 a6 a7 a8 a9 a12 a13 => by rw [o5 r a12]; exact l3 r a0 a5 a6 a7 a8 a9 a12 a13, fun k hk hk2 => by rw [o5 _ (by omega)]; exact l4 k hk hk2⟩
          have B5 : RsR (uI Iz1 (z + 12) s (nI q)) z n b := by
            unfold RsR
            rw [o5 z (by omega), o5 (z + 13) (by omega)]
            exact hB
          obtain ⟨Iz2, g1, g2, g3, g4⟩ := ih (s + 1) kr (sb ||| 2 ^ q) (pre ++ [q]) b (uI Iz1 (z + 12) s (nI q)) (by omega) (by omega) (by rw [List.length_append, hl]; rfl) (or_lt sb hsb q (by omega)) (fun r hr => by
              rw [or_ub sb hsb q (by omega) r hr, hbits r hr]
              by_cases e : r = q
              · subst e; simp
              · simp [e]) (fun o ho => hpm o (by
              rw [mor]
              refine mem_mol n 0 q (by omega) (by omega) ?_
              rw [hc, if_neg (show ¬ false = true by decide)]
              exact ho)) K5 (fun i hi => by
              by_cases e : i = s
              · subst e
                rw [uI_e, List.getD_eq_getElem?_getD, List.getElem?_append_right (by omega), hl, Nat.sub_self]
                rfl
              · rw [uI_k _ _ _ _ _ e, hq i (by omega), List.getD_eq_getElem?_getD, List.getD_eq_getElem?_getD, List.getElem?_append_left (by omega)]) B5
          rw [g1, Option.bind_some]
          try dsimp only
          have pre2 : ∀ i, i < s → Iz2 (z + 12) i = Iz1 (z + 12) i := fun i hi => by rw [g3 i (by omega), uI_k _ _ _ _ _ (by omega)]
          obtain ⟨Iz3, f1, f2, f3, f4⟩ := ihl (q + 1) f _ Iz2 (by omega) (by omega) g2 (fun i hi => by rw [pre2 i hi]; exact hq i hi) g4
          exact ⟨Iz3, by rw [nI_1]; exact f1, f2, fun i hi => by rw [f3 i hi, pre2 i hi], f4⟩
    rw [r_orders]
    unfold r_ordersB
    rw [show Int32.toNatClampNeg 1 = 1 from rfl, hK.2.1, h.z1, if_neg (show ¬ nI s = nI n from fun cc => by have := (nI_eq (by omega) (by omega)).mp cc; omega)]
    obtain ⟨Iz2, g1, g2, g3, g4⟩ := loop n 0 2000 b Iz1 (by omega) (by omega) hK hq hB
    have g1 : r_ordersB_109 (r_orders 2000 Jz z kr) 2000 z (nI t) (nI p) (nI s) (nI sb) 2000 0 Iz1 = _ := g1
    rw [g1]
    exact ⟨Iz2, rfl, g2, g3, g4⟩
theorem laysOrder_is (hsr : isSR T P x) (h : InvK T I J P x nn c Iz Jz z N n u tn LT LP v) (hN : N < 600) {t m p : Nat} {tl : Nat → Nat} (hp : p < n) (hNg : Ngt I x Iz Jz z t m tn tl) : ∃ Iz2, r_laysOrder 2000 Iz Jz z (nI t) (nI p) = some Iz2 ∧ KeepZ Iz Iz2 z ∧ RsR Iz2 z n (mfold (fun o => mmin LT LP n tl p m 0 u (mor1 (Iz (z + 1)) o n)) none (mor n n [])) := by
  have hn := h.n6
  unfold r_laysOrder
  obtain ⟨Iz0, f1, f2, f3⟩ := r_keeps_is (I := Iz) (z := z)
  rw [f1, Option.bind_some]
  try dsimp only
  have K0 : Ko Iz (uI Iz0 z 28 (-1)) z := ⟨fun k hk => by rw [uI_row _ _ _ _ _ (by omega)]; exact f2 k hk, by rw [uI_row _ _ _ _ _ (by omega)]; exact f3 _ (by omega), fun q a0 a5 a6 a7 a8 a9 _ _ => by rw [uI_row _ _ _ _ _ a0, f3 q a7], fun k hk hk2 => by rw [uI_k _ _ _ _ _ hk2, f3 _ (by omega)]⟩
  obtain ⟨Iz2, g1, g2, g3, g4⟩ := orders_is hsr h hN hp hNg n 0 10 0 [] none (uI Iz0 z 28 (-1)) (by omega) (by omega) rfl (by decide) (fun q hq => by rw [z_ub q hq]; rfl) (mor_pm (by omega)) K0 (fun i hi => by omega) (Or.inl ⟨rfl, uI_e _ _ _ _⟩)
  unfold r_ordersB_f
  have g1 : r_orders 2000 Jz z 10 (nI t) (nI p) 0 0 (uI Iz0 z 28 (-1)) = _ := g1
  rw [g1]
  exact ⟨Iz2, rfl, g2.keep, g4⟩
end
