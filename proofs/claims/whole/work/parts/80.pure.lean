/-! music: what was asked last; alone, aloneBy, ways -/
/-- how the class keeps a music -/
def MusC (I : Nat → Nat → Int32) (x : Nat) (r : Option (List Nat)) : Prop := (r = none ∧ I (x + 214) 3 = -1) ∨ ∃ l, r = some l ∧ l.length < 8 ∧ I (x + 214) 3 = nI l.length ∧ ∀ i, i < l.length → I (x + 217) i = nI (l.getD i 0)
/-- what the reference would lay now, beside what the class has kept -/
def AnsA (I : Nat → Nat → Int32) (x : Nat) (Iz : Nat → Nat → Int32) (Jz : Nat → Nat → Int64) (z : Nat) (p : Int32) : Prop := ∃ Iz2, KeepZ Iz Iz2 z ∧ ((I (x + 214) 3 = -1 ∧ r_laysMusic 2000 Iz Jz z p = some (-1, Iz2)) ∨ ∃ m, m < 8 ∧ I (x + 214) 3 = nI m ∧ r_laysMusic 2000 Iz Jz z p = some (nI m, Iz2) ∧ ∀ i, i < m → Iz2 (z + 11) i = I (x + 217) i ∧ ∃ y, y < 4 ∧ I (x + 217) i = nI y)
def Mmus (I : Nat → Nat → Int32) (x : Nat) (Iz : Nat → Nat → Int32) (Jz : Nat → Nat → Int64) (z v : Nat) : Prop := ∃ k, k ≤ v ∧ I (x + 216) 0 = nI k ∧ (k = v → ∀ Iz' Jz', KeepY Iz Iz' z → Jz' (z + 20) = Jz (z + 20) → (I (x + 216) 1 = 0 → AnsA I x Iz' Jz' z (I (x + 216) 2)) ∧ (I (x + 216) 1 = 1 → AnsA I x (uI Iz' z 24 (I (x + 216) 2)) Jz' z (-1)))
theorem Mmus.keep {I I2 : Nat → Nat → Int32} {x : Nat} {Iz Iz2 : Nat → Nat → Int32} {Jz Jz2 : Nat → Nat → Int64} {z v : Nat} (h : Mmus I x Iz Jz z v) (hx : KMm I I2 x) (hz : KeepY Iz Iz2 z) (hj : Jz2 (z + 20) = Jz (z + 20)) : Mmus I2 x Iz2 Jz2 z v := by
  obtain ⟨k, h1, h2, h3⟩ := h
  obtain ⟨x1, x2, x3⟩ := hx
  refine ⟨k, h1, by rw [x1]; exact h2, fun e Iz' Jz' hk hj' => ?_⟩
  have := h3 e Iz' Jz' (hz.tr hk) (hj'.trans hj)
  unfold AnsA at *
  rw [x1, x2, x3]
  exact this
theorem Mmus.past {I I2 : Nat → Nat → Int32} {x : Nat} {Iz Iz2 : Nat → Nat → Int32} {Jz Jz2 : Nat → Nat → Int64} {z v : Nat} (h : Mmus I x Iz Jz z v) (hx : I2 (x + 216) 0 = I (x + 216) 0) : Mmus I2 x Iz2 Jz2 z (v + 1) := by
  obtain ⟨k, h1, h2, h3⟩ := h
  exact ⟨k, by omega, hx.trans h2, fun e => by omega⟩
section
variable {LT LP : Row → Int32} {n tn : Nat} {go : Nat → Row → Bool}
theorem mtry_tun {f : Nat → Option (List Nat)} (hf : ∀ t l, f t = some l → ∀ y, y ∈ l → y < tn) : ∀ (j t : Nat) (l : List Nat), t + j = tn → mtry f j t = some l → ∀ y, y ∈ l → y < tn
  | 0, t, l, _, h => by cases h
  | j + 1, t, l, hj, h => by
    cases hg : f t with
    | some l' =>
      rw [mtry_s hg] at h
      injection h with h
      intro y hy
      rw [← h] at hy
      rcases List.mem_cons.mp hy with e | e
      · omega
      · exact hf t l' hg y e
    | none =>
      rw [mtry_n hg] at h
      exact mtry_tun hf j (t + 1) l (by omega) h
theorem mgo_tun : ∀ (j u : Nat) (A : Row) (l : List Nat), mgo LT LP n tn go j u A = some l → ∀ y, y ∈ l → y < tn
  | 0, u, A, l, h => by
    unfold mgo at h
    split at h
    · injection h with h
      intro y hy
      rw [← h] at hy
      cases hy
    · cases h
  | j + 1, u, A, l, h => mtry_tun (fun t l' hl => mgo_tun j _ _ l' hl) tn 0 l (by omega) h
theorem mshort_tun (u : Nat) (A : Row) : ∀ (j k : Nat) (l : List Nat), mshort LT LP n tn go u A j k = some l → ∀ y, y ∈ l → y < tn
  | 0, k, l, h => by cases h
  | j + 1, k, l, h => by
    unfold mshort at h
    cases hg : mgo LT LP n tn go k u A with
    | some l' =>
      rw [hg] at h
      injection h with h
      rw [← h]
      exact mgo_tun k u A l' hg
    | none =>
      rw [hg] at h
      exact mshort_tun u A j (k + 1) l h
end
section
variable {T : Nat → Option (Nat × Nat)} {I : Nat → Nat → Int32} {J : Nat → Nat → Int64} {P : Nat → Nat → Option Nat} {x nn c : Nat} {Iz : Nat → Nat → Int32} {Jz : Nat → Nat → Int64} {z N n u tn : Nat} {LT LP : Row → Int32} {d na v e : Nat} {pr fi : Nat → Row → Bool}
theorem InvK.rz (h : InvK T I J P x nn c Iz Jz z N n u tn LT LP v) {Iz1 : Nat → Nat → Int32} (hz : Iz1 (z + 1) = Iz (z + 1)) : ∃ e, e ≤ 50 * N ∧ Rz Iz1 z n u tn LT LP e := by
  obtain ⟨g1, ⟨k1, k2, k3, k4, k5, k6, k7, e, k8, k9⟩, -⟩ := h
  refine ⟨e, k8, ?_⟩
  unfold Rz
  rw [hz]
  exact ⟨k2, k3, k4, k7, k9⟩
theorem InvK.apx (h : InvK T I J P x nn c Iz Jz z N n u tn LT LP v) : Apx P x c := by
  have hc := h.1 c (Or.inl rfl)
  refine ⟨hc.1.1, fun w hw => ?_⟩
  have := hc.1.2.2 w hw
  have := (hc.2 c (Or.inl rfl)).2 w hw
  omega
theorem InvS.apx (h : InvS T I J P x nn c Iz Jz z N n u tn LT LP d na v) : Apx P x c := h.k.apx
theorem Apx.p1 (h : Apx P x c) : Apx (uP P (x + 214) 4 (some c)) x c := by
  have hcx := h.1
  refine ⟨hcx, fun w hw => ?_⟩
  rw [uP_n _ _ _ (show c ≠ x + 214 by omega)] at hw
  exact h.2 w hw
/-- the levels' first, copied from what stands -/
theorem cz_start (h : InvK T I J P x nn c Iz Jz z N n u tn LT LP v) : ∃ I1 e, s_copyFrom I (x + (158 + 7 * (Int32.toNatClampNeg 0))) (x + 12) = some I1 ∧ e ≤ 50 * N ∧ Cz T I1 (uP P (x + 214) 4 (some c)) x c 0 n u tn LT LP (Iz (z + 1)) e ∧ ∀ q, ¬ (x + 158 ≤ q ∧ q ≤ x + 164) → I1 q = I q := by
  have hcx := h.apx.1
  obtain ⟨I1, c1, R1, q1⟩ := h.rs.copy (a := x + 158) h.n6 h.wf.2.2.2.2 (by omega)
  obtain ⟨g1, ⟨k1, k2, k3, k4, k5, k6, k7, e, k8, k9⟩, -⟩ := id h
  refine ⟨I1, e, c1, k8, ⟨k2, ?_, R1.nop, k7, k4, k9⟩, fun q hq => q1 q (by omega)⟩
  refine (k5.same (I' := I1) (fun q a b => q1 q (by omega)) (fun w hw => ?_)).px (by rw [uP_n _ _ _ (show c ≠ x + 214 by omega)]) (by rw [uP_n _ _ _ (show c ≠ x + 214 by omega)])
  have := h.apx.2 w hw
  exact q1 _ (by omega)
theorem fshort_is (h : InvK T I J P x nn c Iz Jz z N n u tn LT LP v) (hN : N < 600) (hm : Mono LT LP n pr) (hq : AskC I x n pr fi) : ∃ I2, mu_findShortest 2000 T I P x c (x + 12) = some I2 ∧ Ff I I2 x c ∧ MusC I2 x (mshort LT LP n tn (fun u A => !pr u A && fi u A) u (Iz (z + 1)) 8 0) := by
  have hcx := h.apx.1
  obtain ⟨I1, e, c1, he, C1, q1⟩ := cz_start h
  unfold mu_findShortest
  try dsimp only
  rw [c1, Option.bind_some]
  try dsimp only
  have o3 : ∀ q, q ≠ x + 214 → uI I1 (x + 214) 3 (-1) q = I1 q := fun q hq => uI_row _ _ _ _ _ hq
  have F3 : Fc I1 (uI I1 (x + 214) 3 (-1)) x c 0 ∨ True := Or.inr trivial
  obtain ⟨D1, D2, D3, D4, D5, D6⟩ := C1
  have C3 : Cz T (uI I1 (x + 214) 3 (-1)) (uP P (x + 214) 4 (some c)) x c 0 n u tn LT LP (Iz (z + 1)) e := by
    refine ⟨D1, D2.same (fun q a b => o3 q (by omega)) (fun w hw => o3 _ ?_), D3.same (fun q a b => o3 q (by omega)), D4, D5, D6⟩
    have := h.apx.p1.2 w hw
    omega
  have Fq3 : Fq I (uI I1 (x + 214) 3 (-1)) x := ⟨fun k hk => by rw [uI_k _ _ _ _ _ hk, q1 _ (by omega)], by rw [o3 _ (by omega), q1 _ (by omega)]⟩
  obtain ⟨I2, m, s1, s2, s3⟩ := short_go (a := x + 12) h.apx.p1 hm hq (by omega) 8 0 2000 (uI I1 (x + 214) 3 (-1)) (by omega) (by omega) Fq3 C3 (uI_e _ _ _ _)
  have s1 : mu_findShortest_22 2000 T (uP P (x + 214) 4 (some c)) x c (x + 12) 2000 0 (uI I1 (x + 214) 3 (-1)) = _ := s1
  rw [s1, Option.bind_some]
  refine ⟨I2, rfl, ⟨fun q a1 a2 a3 a4 a5 => by rw [s2.1 q a1 a2 a3 a4 a5, o3 q (by omega), q1 q (by omega)], fun k hk => by rw [s2.2 k hk, uI_k _ _ _ _ _ hk, q1 _ (by omega)]⟩, ?_⟩
  rcases s3 with s3 | ⟨l, t1, t2, t3⟩
  · exact Or.inl s3
  · exact Or.inr ⟨l, t1, by have := mshort_len u _ 8 0 l t1; omega, t2, t3⟩
theorem ans_of (ht4 : tn ≤ 4) {go : Nat → Row → Bool} {A : Row} {p : Int32} {Iz' : Nat → Nat → Int32} {Jz' : Nat → Nat → Int64} (hC : MusC I x (mshort LT LP n tn go u A 8 0)) (hA : Iz' (z + 1) = A) (hq : Asks Iz' Jz' z n tn LT LP p go) (he : e < 900000) (hR : Rz Iz' z n u tn LT LP e) : AnsA I x Iz' Jz' z p := by
  obtain ⟨Iz2, k1, -, k2⟩ := lays_is hq he hR
  rw [hA] at k2
  refine ⟨Iz2, k1, ?_⟩
  rcases k2 with ⟨a1, a2⟩ | ⟨l, a1, a2, a3, a4⟩
  · left
    rcases hC with ⟨b1, b2⟩ | ⟨l, b1, -⟩
    · exact ⟨b2, a2⟩
    · rw [a1] at b1; cases b1
  · right
    rcases hC with ⟨b1, -⟩ | ⟨l', b1, b2, b3, b4⟩
    · rw [a1] at b1; cases b1
    · rw [a1] at b1
      injection b1 with b1
      subst b1
      refine ⟨l.length, a2, b3, a3, fun i hi => ⟨by rw [a4 i hi, b4 i hi], l.getD i 0, ?_, b4 i hi⟩⟩
      have hy : l.getD i 0 ∈ l := by
        rw [List.getD_eq_getElem?_getD, List.getElem?_eq_getElem hi]
        exact List.getElem_mem hi
      have := mshort_tun u A 8 0 l a1 _ hy
      omega
/-- rows that a question of music may write -/
def Mx (I I2 : Nat → Nat → Int32) (x c : Nat) : Prop := ∀ q, ¬ (x + 158 ≤ q ∧ q ≤ x + 218) → q ≠ c + 5 → q ≠ c + 6 → q ≠ c + 7 → I2 q = I q
theorem findAlone_is (hsr : isSR T P x) (h : InvK T I J P x nn c Iz Jz z N n u tn LT LP v) (hM : Mmus I x Iz Jz z v) (hN : N < 600) {p : Nat} (hp : p < n) : ∃ I2, mu_findAlone 2000 T I P x c (x + 12) (I x 9) (nI p) = some I2 ∧ Mx I I2 x c ∧ Mmus I2 x Iz Jz z v ∧ ∀ Iz' Jz', KeepY Iz Iz' z → Jz' (z + 20) = Jz (z + 20) → AnsA I2 x Iz' Jz' z (nI p) := by
  have hcx := h.apx.1
  have h9 : I x 9 = nI v := h.v9.1
  have hv : v ≤ N + 1 := h.v9.2
  unfold mu_findAlone
  rw [h9]
  obtain ⟨I1, e1, e2, m0, m1, m2, m3, m4⟩ := knows_is I (x + 215) (nI v) 0 (nI p) 0 0
  obtain ⟨k, k1, k2, k3⟩ := hM
  have z1 : (1 : Int32) ≠ 0 := by decide
  rcases e1 with ⟨e1, n0, n1, n2, n3, n4⟩ | e1
  · rw [e1, Option.bind_some]
    try dsimp only
    rw [if_neg (show ¬ (1 : Int32) = 0 by decide)]
    have ek : k = v := by
      have n0 : I (x + 216) 0 = nI v := n0
      rw [k2] at n0
      exact (nI_eq (by omega) (by omega)).mp n0
    have hA : ∀ Iz' Jz', KeepY Iz Iz' z → Jz' (z + 20) = Jz (z + 20) → AnsA I1 x Iz' Jz' z (nI p) := fun Iz' Jz' hk hj => by
      have := (k3 ek Iz' Jz' hk hj).1 n1
      unfold AnsA at *
      rw [show I (x + 216) 2 = nI p from n2] at this
      rw [e2 _ (by omega), e2 _ (by omega)]
      exact this
    refine ⟨I1, rfl, fun r a1 a2 a3 a4 => e2 r (by omega), ⟨v, Nat.le_refl _, m0, fun _ Iz' Jz' hk hj => ⟨fun _ => ?_, fun cc => ?_⟩⟩, hA⟩
    · rw [show I1 (x + 216) 2 = nI p from m2]
      exact hA Iz' Jz' hk hj
    · rw [show I1 (x + 216) 1 = 0 from m1] at cc
      exact absurd cc.symm z1
  · rw [e1, Option.bind_some]
    try dsimp only
    rw [if_pos rfl]
    generalize hI8 : uI (uI I1 (x + 214) 5 1) (x + 214) 6 (nI p) = I8
    have o8 : ∀ q, q ≠ x + 214 → I8 q = I1 q := fun q hq => by rw [← hI8, uI_row _ _ _ _ _ hq, uI_row _ _ _ _ _ hq]
    have h5 : I8 (x + 214) 5 = 1 := by rw [← hI8, uI_k _ _ _ _ _ (by decide), uI_e]
    have h6 : I8 (x + 214) 6 = nI p := by rw [← hI8, uI_e]
    have hX : KeepX I I8 x c := KeepX.of (fun q hq => by rw [o8 q (fun cc => hq (by unfold Scr; omega)), e2 q (fun cc => hq (by unfold Scr; omega))]) (by rw [o8 _ (by omega), e2 _ (by omega)]) (by rw [o8 _ (by omega), e2 _ (by omega)])
    have hI8' : ∀ Iz', KeepY Iz Iz' z → InvK T I8 J P x nn c Iz' Jz z N n u tn LT LP v := fun Iz' hk => h.keep hsr hX (fun _ _ => rfl) (fun _ _ _ _ => rfl) hk rfl
    obtain ⟨I2, w1, w2, -⟩ := fshort_is (hI8' Iz KeepY.rf) hN (mono_A hp h.n6) (askc_A hp h5 h6)
    rw [w1, Option.bind_some]
    have hA : ∀ Iz' Jz', KeepY Iz Iz' z → Jz' (z + 20) = Jz (z + 20) → AnsA I2 x Iz' Jz' z (nI p) := fun Iz' Jz' hk hj => by
      obtain ⟨e, he, hR⟩ := (hI8' Iz' hk).rz (Iz1 := Iz') rfl
      obtain ⟨I2', w1', -, w3'⟩ := fshort_is (hI8' Iz' hk) hN (mono_A hp h.n6) (askc_A hp h5 h6)
      rw [w1] at w1'
      have e2 : I2 = I2' := by injection w1'
      subst e2
      exact ans_of h.t4 w3' rfl (asks_A hp) (by omega) hR
    have e216 : I2 (x + 216) = I1 (x + 216) := by rw [w2.1 _ (by omega) (by omega) (by omega) (by omega) (by omega), o8 _ (by omega)]
    refine ⟨I2, rfl, fun r a1 a2 a3 a4 => by rw [w2.1 r (by omega) (by omega) a2 a3 a4, o8 r (by omega), e2 r (by omega)], ⟨v, Nat.le_refl _, by rw [e216]; exact m0, fun _ Iz' Jz' hk hj => ⟨fun _ => ?_, fun cc => ?_⟩⟩, hA⟩
    · rw [e216, show I1 (x + 216) 2 = nI p from m2]
      exact hA Iz' Jz' hk hj
    · rw [e216, show I1 (x + 216) 1 = 0 from m1] at cc
      exact absurd cc.symm z1
/-- a question that keeps its answer in the rows of music -/
def Unm (I I2 : Nat → Nat → Int32) (x c : Nat) (Iz Iz2 : Nat → Nat → Int32) (Jz : Nat → Nat → Int64) (z v : Nat) : Prop := KeepX I I2 x c ∧ KeepZ Iz Iz2 z ∧ KMr I I2 x ∧ KMw I I2 x ∧ KMc I I2 x ∧ Mmus I2 x Iz2 Jz z v
theorem Mx.kx {I2 : Nat → Nat → Int32} (hcx : c = x + 4 ∨ x + 224 ≤ c) (hx : Mx I I2 x c) : KeepX I I2 x c := by
  refine KeepX.of (fun q hq => ?_) (hx _ (by omega) (by omega) (by omega) (by omega)) (hx _ (by omega) (by omega) (by omega) (by omega))
  unfold Scr at hq
  exact hx q (by omega) (by omega) (by omega) (by omega)
theorem unm_of {I2 Iz2 : Nat → Nat → Int32} (hcx : c = x + 4 ∨ x + 224 ≤ c) (hx : Mx I I2 x c) (hz : KeepZ Iz Iz2 z) (hM : Mmus I2 x Iz Jz z v) : Unm I I2 x c Iz Iz2 Jz z v := by
  have g : ∀ r, ¬ (x + 158 ≤ r ∧ r ≤ x + 218) → x + 12 ≤ r → r < x + 224 → I2 r = I r := fun r a1 a2 a3 => hx r a1 (by omega) (by omega) (by omega)
  refine ⟨KeepX.of (fun q hq => ?_) (hx _ (by omega) (by omega) (by omega) (by omega)) (hx _ (by omega) (by omega) (by omega) (by omega)), hz, ⟨g _ (by omega) (by omega) (by omega), g _ (by omega) (by omega) (by omega), by rw [g _ (by omega) (by omega) (by omega)]⟩, ⟨g _ (by omega) (by omega) (by omega), g _ (by omega) (by omega) (by omega), by rw [g _ (by omega) (by omega) (by omega)]⟩, g _ (by omega) (by omega) (by omega), hM.keep ⟨rfl, rfl, rfl⟩ hz.y rfl⟩
  unfold Scr at hq
  exact hx q (by omega) (by omega) (by omega) (by omega)
theorem Mx.rf : Mx I I x c := fun _ _ _ _ _ => rfl
theorem aloneCode_is (h : InvS T I J P x nn c Iz Jz z N n u tn LT LP d na v) (a : Int32) : ∃ r, x_codeOfOneUp I x c a = r ∧ r_noAlone (uI Iz z 0 0) z a = some r ∧ (r = 0 → ∃ p, a = nI p ∧ p < n ∧ ub u p = true) := by
  have hn := h.n6
  have z1 : uI Iz z 0 0 (z + 1) = Iz (z + 1) := thr_row (by decide)
  unfold x_codeOfOneUp r_noAlone
  rcases arg_cases a n (by omega) with ha | ⟨p, hp, rfl⟩
  · rw [noPerson_bad h.c0 hn ha, isPerson_bad (by rw [z1]; exact h.z1) hn ha]
    exact ⟨_, rfl, rfl, fun cc => absurd (show (-2 : Int32) = 0 from cc) (by decide)⟩
  · rw [noPerson_ok h.c0 hn hp, isPerson_ok (by rw [z1]; exact h.z1) hn hp, Option.bind_some]
    try dsimp only
    rw [if_pos rfl, if_neg (show ¬ (1 : Int32) = 0 by decide), s_isUp_is (u := u) (h.rs.2.1.trans h.wf.2.2.1) h.wf.u64 (by omega), r_isUp_is (u := u) (by rw [z1]; exact h.wf.2.2.1) h.wf.u64 (by omega), Option.bind_some]
    try dsimp only
    cases hb : ub u p with
    | false => exact ⟨_, rfl, rfl, fun cc => absurd (show (-5 : Int32) = 0 from cc) (by decide)⟩
    | true => exact ⟨_, rfl, rfl, fun _ => ⟨p, rfl, hp, hb⟩⟩
theorem alone_call (hsr : isSR T P x) (h : InvS T I J P x nn c Iz Jz z N n u tn LT LP d na v) (hM : Mmus I x Iz Jz z v) (hN : N < 600) (a : Int32) : ∃ r I2 Iz2, x_alone 2000 T I P x c a = some (r, I2) ∧ r_alone 2000 Iz Jz z a = some (r, Iz2) ∧ Unm I I2 x c Iz Iz2 Jz z v := by
  have hcx := h.apx.1
  obtain ⟨r, e1, e2, e3⟩ := aloneCode_is h a
  unfold x_alone r_alone
  try dsimp only
  rw [e1, e2, Option.bind_some]
  try dsimp only
  by_cases hr : r = 0
  · rw [if_pos hr, if_pos hr]
    obtain ⟨p, rfl, hp, -⟩ := e3 hr
    obtain ⟨I2, f1, f2, f3, f4⟩ := findAlone_is hsr h.k hM hN hp
    obtain ⟨Iz2, g1, g2⟩ := f4 _ Jz KeepZ.thr.y rfl
    rw [f1, Option.bind_some]
    try dsimp only
    rcases g2 with ⟨a1, a2⟩ | ⟨m, -, a1, a2, -⟩
    · rw [a2, a1]
      exact ⟨_, _, _, rfl, rfl, unm_of hcx f2 (KeepZ.thr.tr g1) f3⟩
    · rw [a2, a1]
      exact ⟨_, _, _, rfl, rfl, unm_of hcx f2 (KeepZ.thr.tr g1) f3⟩
  · rw [if_neg hr, if_neg hr]
    exact ⟨_, _, _, rfl, rfl, unm_of hcx Mx.rf KeepZ.thr hM⟩
/-- one tune of a music, on both sides -/
theorem tuneAt_is {I2 Iz1 : Nat → Nat → Int32} {p i : Int32} (hi : 0 ≤ i) (hA : AnsA I2 x Iz1 Jz z p) : ∃ y w Iz2, mu_tuneAt I2 x i = some y ∧ r_laysMusic 2000 Iz1 Jz z p = some (w, Iz2) ∧ KeepZ Iz1 Iz2 z ∧ ((w ≤ i ∧ y = -1) ∨ (¬ w ≤ i ∧ vp_in i 8 ∧ Iz2 (z + 11) (Int32.toNatClampNeg i) = y)) := by
  obtain ⟨Iz2, g1, g2⟩ := hA
  unfold mu_tuneAt
  rw [if_neg (Int32.not_lt.mpr hi)]
  rcases g2 with ⟨a1, a2⟩ | ⟨m, a0, a1, a2, a3⟩
  · have hle : (-1 : Int32) ≤ i := by
      rw [i32_le] at hi ⊢
      have k1 : (-1 : Int32).toInt = -1 := rfl
      have k0 : (0 : Int32).toInt = 0 := rfl
      omega
    rw [a1, if_pos hle]
    exact ⟨_, _, _, rfl, a2, g1, Or.inl ⟨hle, rfl⟩⟩
  · rw [a1]
    by_cases c1 : nI m ≤ i
    · rw [if_pos c1]
      exact ⟨_, _, _, rfl, a2, g1, Or.inl ⟨c1, rfl⟩⟩
    · rw [if_neg c1]
      rcases arg_cases i m (by omega) with hk2 | ⟨j, hj, rfl⟩
      · rcases hk2 with hk2 | hk2
        · exact absurd hi (Int32.not_le.mpr hk2)
        · exact absurd hk2 c1
      · rw [if_neg (show ¬ nI 7 ≤ nI j from nI_ge (by omega) (by omega)), chk_nI (show j < 7 by omega) (by decide)]
        exact ⟨_, _, _, rfl, a2, g1, Or.inr ⟨c1, vp_in_nI (by omega) (by decide), by rw [nI_cl (by omega)]; exact (a3 j hj).1⟩⟩
theorem aloneBy_call (hsr : isSR T P x) (h : InvS T I J P x nn c Iz Jz z N n u tn LT LP d na v) (hM : Mmus I x Iz Jz z v) (hN : N < 600) (a i : Int32) : ∃ r I2 Iz2, x_aloneBy 2000 T I P x c a i = some (r, I2) ∧ r_aloneBy 2000 Iz Jz z a i = some (r, Iz2) ∧ Unm I I2 x c Iz Iz2 Jz z v := by
  have hcx := h.apx.1
  obtain ⟨r, e1, e2, e3⟩ := aloneCode_is h a
  unfold x_aloneBy r_aloneBy
  try dsimp only
  rw [e1, e2, Option.bind_some]
  try dsimp only
  by_cases hr : r = 0
  · rw [if_pos hr, if_pos hr]
    by_cases hi : 0 ≤ i
    · rw [if_pos hi, if_pos hi]
      obtain ⟨p, rfl, hp, -⟩ := e3 hr
      obtain ⟨I2, f1, f2, f3, f4⟩ := findAlone_is hsr h.k hM hN hp
      obtain ⟨y, w, Iz2, g1, g2, g3, g4⟩ := tuneAt_is hi (f4 _ Jz KeepZ.thr.y rfl)
      rw [f1, g2, Option.bind_some, Option.bind_some]
      try dsimp only
      rw [g1, Option.bind_some]
      try dsimp only
      rcases g4 with ⟨b1, b2⟩ | ⟨b1, b2, b3⟩
      · rw [if_pos b1, b2]
        exact ⟨_, _, _, rfl, rfl, unm_of hcx f2 (KeepZ.thr.tr g3) f3⟩
      · rw [if_neg b1, chk_in b2, b3]
        exact ⟨_, _, _, rfl, rfl, unm_of hcx f2 (KeepZ.thr.tr g3) f3⟩
    · rw [if_neg hi, if_neg hi]
      exact ⟨_, _, _, rfl, rfl, unm_of hcx Mx.rf KeepZ.thr hM⟩
  · rw [if_neg hr, if_neg hr]
    exact ⟨_, _, _, rfl, rfl, unm_of hcx Mx.rf KeepZ.thr hM⟩
theorem ways_call (h : InvS T I J P x nn c Iz Jz z N n u tn LT LP d na v) (hN : N < 600) (a b : Int32) : ∃ r I2 Iz2, x_ways 2000 T I P x c a b = some (r, I2) ∧ r_ways 2000 Iz Jz z a b = some (r, Iz2) ∧ KeepX I I2 x c ∧ KeepZ Iz Iz2 z ∧ KMr I I2 x ∧ KMw I I2 x ∧ KMc I I2 x ∧ KMm I I2 x := by
  have hcx := h.apx.1
  have triv : KeepX I I x c ∧ KeepZ Iz (uI Iz z 0 0) z ∧ KMr I I x ∧ KMw I I x ∧ KMc I I x ∧ KMm I I x := ⟨KeepX.rf, KeepZ.thr, ⟨rfl, rfl, rfl⟩, ⟨rfl, rfl, rfl⟩, rfl, ⟨rfl, rfl, rfl⟩⟩
  obtain ⟨r, e1, e2, e3⟩ := aloneCode_is h a
  unfold x_ways r_ways
  try dsimp only
  rw [e1, e2, Option.bind_some]
  try dsimp only
  by_cases hr : r = 0
  · rw [if_pos hr, if_pos hr]
    obtain ⟨p, rfl, hp, -⟩ := e3 hr
    rcases arg_cases b 8 (by decide) with hb | ⟨m, hm, rfl⟩
    · rw [show r_within (Int32.toInt64 b) 0 7 = 0 from within_bad (n := 8) (by decide) hb, if_pos (show (0 : Int32) = 0 from rfl)]
      by_cases c0 : b < 0
      · rw [if_pos c0]
        exact ⟨_, _, _, rfl, rfl, triv⟩
      · have c1 : ¬ b ≤ 7 := fun cc => by
          rcases hb with hb | hb
          · exact c0 hb
          have e1 := Int32.le_iff_toInt_le.mp cc
          have e2 := Int32.le_iff_toInt_le.mp hb
          have e3 : (nI 8).toInt = 8 := by decide
          have e4 : (7 : Int32).toInt = 7 := by decide
          omega
        rw [if_neg c0, if_neg c1]
        exact ⟨_, _, _, rfl, rfl, triv⟩
    · rw [show r_within (Int32.toInt64 (nI m)) 0 7 = 1 from within_ok (n := 8) (by decide) hm, if_neg (show ¬ (1 : Int32) = 0 by decide), if_neg (show ¬ nI m < 0 from nI_nlt (b := 0) (by omega) (by omega)), if_pos (show nI m ≤ 7 from nI_le (b := 7) (by omega) (by omega))]
      obtain ⟨I1, e, c1, he, C1, q1⟩ := cz_start h.k
      unfold mu_waysAlone r_seeksB_f
      try dsimp only
      rw [c1, Option.bind_some]
      try dsimp only
      unfold mu_waysB_f
      obtain ⟨I2, w1, w2, w5⟩ := ways_is h.apx.p1 hp h.n6 m 0 10 e u (Iz (z + 1)) I1 (by omega) (by omega) (by omega) C1
      rw [Nat.zero_add] at w1
      have w1 : mu_ways 2000 T (uP P (x + 214) 4 (some c)) x c 10 0 (nI p) (nI m) I1 = _ := w1
      rw [w1, Option.bind_some, Option.bind_some]
      have z8 : uI (uI Iz z 0 0) z 25 0 (z + 1) = Iz (z + 1) := by rw [uI_row _ _ _ _ _ (by omega), thr_row (by decide)]
      obtain ⟨e', he', R8⟩ := h.k.rz (Iz1 := uI (uI Iz z 0 0) z 25 0) z8
      obtain ⟨Iz2, s1, s2, s3, s4⟩ := cnt_is (Jz := Jz) (asks_A hp) m 0 10 e' u (uI (uI Iz z 0 0) z 25 0) (by omega) (by omega) (by omega) Fs.rf R8
      rw [Nat.zero_add] at s1
      have s1 : r_seeks 2000 Jz z 10 (nI p) 0 (nI m) 1 (uI (uI Iz z 0 0) z 25 0) = _ := s1
      rw [s1, Option.bind_some]
      try dsimp only
      rw [s4, uI_e, Int32.zero_add, z8]
      have hx : Mx I I2 x c := fun q a1 a2 a3 a4 => by rw [w2.1 q (by omega) (by omega) a2 a3 a4, q1 q (by omega)]
      have g : ∀ r, ¬ (x + 158 ≤ r ∧ r ≤ x + 213) → r ≠ x + 217 → x + 12 ≤ r → r < x + 224 → I2 r = I r := fun r a1 a0 a2 a3 => by rw [w2.1 r (by omega) (by omega) (by omega) (by omega) (by omega), q1 r (by omega)]
      have hz : KeepZ Iz Iz2 z := KeepZ.tr (I1 := uI (uI Iz z 0 0) z 25 0) (KeepZ.thr.tr ⟨by rw [uI_row _ _ _ _ _ (by omega)], by rw [uI_row _ _ _ _ _ (by omega)], by rw [uI_row _ _ _ _ _ (by omega)], by rw [uI_row _ _ _ _ _ (by omega)], by rw [uI_row _ _ _ _ _ (by omega)], uI_k _ _ _ _ _ (by decide), uI_k _ _ _ _ _ (by decide), uI_k _ _ _ _ _ (by decide)⟩) (s2.keep s3)
      exact ⟨_, _, _, rfl, rfl, hx.kx hcx, hz, ⟨g _ (by omega) (by omega) (by omega) (by omega), g _ (by omega) (by omega) (by omega) (by omega), by rw [g _ (by omega) (by omega) (by omega) (by omega)]⟩, ⟨g _ (by omega) (by omega) (by omega) (by omega), g _ (by omega) (by omega) (by omega) (by omega), by rw [g _ (by omega) (by omega) (by omega) (by omega)]⟩, g _ (by omega) (by omega) (by omega) (by omega), ⟨g _ (by omega) (by omega) (by omega) (by omega), by rw [w5, q1 _ (by omega)], by rw [g _ (by omega) (by omega) (by omega) (by omega)]⟩⟩
  · rw [if_neg hr, if_neg hr]
    exact ⟨_, _, _, rfl, rfl, triv⟩
end
