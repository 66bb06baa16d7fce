/-! feed -/
theorem byte_is (y : Int32) : ∃ b : Nat, b < 256 ∧ (y &&& 255) = nI b ∧ vp_nar .byte ((Int32.toInt8 y).toInt32) = (Int32.toInt8 (nI b)).toInt32 := by
  refine ⟨(y &&& 255).toBitVec.toNat, ?_, ?_, ?_⟩
  · have : (y &&& 255).toBitVec.toNat = y.toBitVec.toNat &&& 255 := by
      rw [Int32.toBitVec_and, BitVec.toNat_and]
      rfl
    rw [this]
    have := Nat.and_le_right (n := y.toBitVec.toNat) (m := 255)
    omega
  · apply Int32.toBitVec_inj.mp
    show _ = BitVec.ofNat 32 _
    rw [BitVec.ofNat_toNat, BitVec.setWidth_eq]
  · have e : nI (y &&& 255).toBitVec.toNat = y &&& 255 := by
      apply Int32.toBitVec_inj.mp
      show BitVec.ofNat 32 _ = _
      rw [BitVec.ofNat_toNat, BitVec.setWidth_eq]
    rw [e, Int32.toInt8_and, show Int32.toInt8 255 = -1 by decide, Int8.and_neg_one]
    show (Int32.toInt8 (Int32.toInt8 y).toInt32).toInt32 = _
    rw [Int8.toInt8_toInt32]
def Tp (I : Nat → Nat → Int32) (x : Nat) (Iz : Nat → Nat → Int32) (z tp : Nat) : Prop := I x 1 = nI tp ∧ Iz z 5 = nI tp ∧ ∀ k, k < tp → ∃ b, b < 256 ∧ Iz (z + 3) k = nI b ∧ I (x + 1) k = (Int32.toInt8 (nI b)).toInt32
def Ft (I I1 : Nat → Nat → Int32) (x : Nat) (Iz Iz1 : Nat → Nat → Int32) (z : Nat) : Prop := (∀ q, q ≠ x → q ≠ x + 1 → I1 q = I q) ∧ (∀ k, k ≠ 1 → I1 x k = I x k) ∧ (∀ q, q ≠ z → q ≠ z + 3 → Iz1 q = Iz q) ∧ ∀ k, k ≠ 5 → Iz1 z k = Iz z k
theorem Ft.tr0 {I I1 I2 Iz Iz1 Iz2 : Nat → Nat → Int32} {x z : Nat} (h : Ft I I1 x Iz Iz1 z) (h2 : Ft I1 I2 x Iz1 Iz2 z) : Ft I I2 x Iz Iz2 z :=
  ⟨fun q a b => (h2.1 q a b).trans (h.1 q a b), fun k a => (h2.2.1 k a).trans (h.2.1 k a), fun q a b => (h2.2.2.1 q a b).trans (h.2.2.1 q a b), fun k a => (h2.2.2.2 k a).trans (h.2.2.2 k a)⟩
def tpx (I : Nat → Nat → Int32) (x tp : Nat) (y : Int32) : Nat → Nat → Int32 := uI (uI I (x + 1) tp (vp_nar .byte ((Int32.toInt8 y).toInt32))) x 1 (nI (tp + 1))
def tpz (Iz : Nat → Nat → Int32) (z tp : Nat) (y : Int32) : Nat → Nat → Int32 := uI (uI Iz (z + 3) tp (y &&& 255)) z 5 (nI (tp + 1))
theorem Tp.put {I Iz : Nat → Nat → Int32} {x z tp : Nat} (h : Tp I x Iz z tp) (y : Int32) : Tp (tpx I x tp y) x (tpz Iz z tp y) z (tp + 1) ∧ Ft I (tpx I x tp y) x Iz (tpz Iz z tp y) z := by
  obtain ⟨h1, h2, h3⟩ := h
  unfold tpx tpz
  refine ⟨⟨uI_e _ _ _ _, uI_e _ _ _ _, fun k hk => ?_⟩, ⟨fun q a b => ?_, fun k a => ?_, fun q a b => ?_, fun k a => ?_⟩⟩
  · rw [uI_row _ z 5 (z + 3) _ (by omega), uI_row _ x 1 (x + 1) _ (by omega)]
    by_cases e : k = tp
    · subst e
      obtain ⟨b, b1, b2, b3⟩ := byte_is y
      exact ⟨b, b1, by rw [uI_e]; exact b2, by rw [uI_e]; exact b3⟩
    · obtain ⟨b, b1, b2, b3⟩ := h3 k (by omega)
      exact ⟨b, b1, by rw [uI_k _ _ _ _ _ e]; exact b2, by rw [uI_k _ _ _ _ _ e]; exact b3⟩
  · rw [uI_row _ _ _ _ _ a, uI_row _ _ _ _ _ b]
  · rw [uI_k _ _ _ _ _ a, uI_row _ _ _ _ _ (by omega)]
  · rw [uI_row _ _ _ _ _ a, uI_row _ _ _ _ _ b]
  · rw [uI_k _ _ _ _ _ a, uI_row _ _ _ _ _ (by omega)]
theorem put_st {I : Nat → Nat → Int32} {x tp f s : Nat} {g : Int32} (h : I x 1 = nI tp) (ht : tp < 900) (hs : s < 32) : x_putOnTape_3 2000 x g (f + 1) (nI s) I = x_putOnTape_3 2000 x g f (nI s + (-8)) (tpx I x tp (g >>> (nI s &&& 31))) := by
  rw [x_putOnTape_3, if_neg (show ¬ nI s < 0 from nI_nlt (b := 0) (by omega) (by omega)), h, if_neg (nI_ge ht (by omega)), chk_nI ht (by decide), nI_cl (by omega)]
  try dsimp only
  rw [uI_row _ _ _ _ _ (show x ≠ x + 1 by omega), h, nI_1]
  rfl
def pick (g1 g2 g3 g4 g5 : Int32) (k : Nat) : Int32 := if k < 4 then g1 else if k < 8 then g2 else if k < 12 then g3 else if k < 16 then g4 else g5
theorem shf : ∀ k, k < 20 → ((24 - (8 * (nI k - nI k / 4 * 4))) &&& 31) = (nI (24 - 8 * (k % 4)) &&& 31) := by decide +kernel
theorem feed_st {Iz : Nat → Nat → Int32} {z tp f k : Nat} {g1 g2 g3 g4 g5 : Int32} (h : Iz z 5 = nI tp) (ht : tp < 900) (hk : k < 20) : r_feed_24 2000 z g1 g2 g3 g4 g5 (f + 1) (nI k) Iz = r_feed_24 2000 z g1 g2 g3 g4 g5 f (nI (k + 1)) (tpz Iz z tp (pick g1 g2 g3 g4 g5 k >>> (nI (24 - 8 * (k % 4)) &&& 31))) := by
  have up : ∀ m : Nat, m ≤ k → m < 1000 → (nI m ≤ nI k) := fun m a b => nI_le a (by omega)
  have dn : ∀ m : Nat, k < m → m < 1000 → ¬ (nI m ≤ nI k) := fun m a b => nI_ge a (by omega)
  have fin : ∀ g : Int32, (let I10 := uI Iz (z + 3) tp ((g >>> ((24 - (8 * (nI k - nI k / 4 * 4))) &&& 31)) &&& 255); let I12 := uI I10 z 5 ((I10 z 5) + 1); r_feed_24 2000 z g1 g2 g3 g4 g5 f (nI k + 1) I12) = r_feed_24 2000 z g1 g2 g3 g4 g5 f (nI (k + 1)) (tpz Iz z tp (g >>> (nI (24 - 8 * (k % 4)) &&& 31))) := fun g => by
    dsimp only
    rw [uI_row _ _ _ _ _ (show z ≠ z + 3 by omega), h, nI_1, nI_1, shf k hk]
    rfl
  unfold pick
  rw [r_feed_24, if_neg (show ¬ (20 : Int32) ≤ nI k from dn 20 hk (by decide)), h]
  by_cases c1 : k < 4
  · rw [if_neg (show ¬ (4 : Int32) ≤ nI k from dn 4 c1 (by decide)), if_pos c1, chk_nI ht (by decide), nI_cl (show tp < 2147483648 by omega)]
    exact fin g1
  rw [if_pos (show (4 : Int32) ≤ nI k from up 4 (by omega) (by decide)), if_neg c1]
  by_cases c2 : k < 8
  · rw [if_neg (show ¬ (8 : Int32) ≤ nI k from dn 8 c2 (by decide)), if_pos c2, chk_nI ht (by decide), nI_cl (show tp < 2147483648 by omega)]
    exact fin g2
  rw [if_pos (show (8 : Int32) ≤ nI k from up 8 (by omega) (by decide)), if_neg c2]
  by_cases c3 : k < 12
  · rw [if_neg (show ¬ (12 : Int32) ≤ nI k from dn 12 c3 (by decide)), if_pos c3, chk_nI ht (by decide), nI_cl (show tp < 2147483648 by omega)]
    exact fin g3
  rw [if_pos (show (12 : Int32) ≤ nI k from up 12 (by omega) (by decide)), if_neg c3]
  by_cases c4 : k < 16
  · rw [if_neg (show ¬ (16 : Int32) ≤ nI k from dn 16 c4 (by decide)), if_pos c4, chk_nI ht (by decide), nI_cl (show tp < 2147483648 by omega)]
    exact fin g4
  rw [if_pos (show (16 : Int32) ≤ nI k from up 16 (by omega) (by decide)), if_neg c4, chk_nI ht (by decide), nI_cl (show tp < 2147483648 by omega)]
  exact fin g5
theorem feed_four {I Iz : Nat → Nat → Int32} {x z tp i : Nat} {g1 g2 g3 g4 g5 g : Int32} (h : Tp I x Iz z tp) (ht : tp + 4 ≤ 900) (hi : i < 5) (hg : ∀ r, r < 4 → pick g1 g2 g3 g4 g5 (4 * i + r) = g) : ∃ I1 Iz1, x_putOnTape 2000 I x g = some I1 ∧ (∀ f, r_feed_24 2000 z g1 g2 g3 g4 g5 (f + 4) (nI (4 * i)) Iz = r_feed_24 2000 z g1 g2 g3 g4 g5 f (nI (4 * i + 4)) Iz1) ∧ Tp I1 x Iz1 z (tp + 4) ∧ Ft I I1 x Iz Iz1 z := by
  obtain ⟨a1, b1⟩ := h.put (g >>> (nI 24 &&& 31))
  obtain ⟨a2, b2⟩ := a1.put (g >>> (nI 16 &&& 31))
  obtain ⟨a3, b3⟩ := a2.put (g >>> (nI 8 &&& 31))
  obtain ⟨a4, b4⟩ := a3.put (g >>> (nI 0 &&& 31))
  refine ⟨_, _, ?_, fun f => ?_, a4, ((b1.tr0 b2).tr0 b3).tr0 b4⟩
  · unfold x_putOnTape
    rw [show (24 : Int32) = nI 24 from rfl, put_st (f := 1999) h.1 (by omega) (by decide), show nI 24 + (-8) = nI 16 by decide, put_st (f := 1998) a1.1 (by omega) (by decide), show nI 16 + (-8) = nI 8 by decide, put_st (f := 1997) a2.1 (by omega) (by decide), show nI 8 + (-8) = nI 0 by decide, put_st (f := 1996) a3.1 (by omega) (by decide), x_putOnTape_3, if_pos (show nI 0 + (-8) < 0 by decide), Option.bind_some]
  · have m0 : 24 - 8 * ((4 * i) % 4) = 24 := by omega
    have m1 : 24 - 8 * ((4 * i + 1) % 4) = 16 := by omega
    have m2 : 24 - 8 * ((4 * i + 2) % 4) = 8 := by omega
    have m3 : 24 - 8 * ((4 * i + 3) % 4) = 0 := by omega
    rw [feed_st (f := f + 3) h.2.1 (by omega) (by omega), m0, show pick g1 g2 g3 g4 g5 (4 * i) = g from hg 0 (by decide), feed_st (f := f + 2) a1.2.1 (by omega) (by omega), m1, hg 1 (by decide), feed_st (f := f + 1) a2.2.1 (by omega) (by omega), show 4 * i + 1 + 1 = 4 * i + 2 from rfl, m2, hg 2 (by decide), feed_st (f := f) a3.2.1 (by omega) (by omega), show 4 * i + 2 + 1 = 4 * i + 3 from rfl, m3, hg 3 (by decide)]
section
variable {T : Nat → Option (Nat × Nat)} {I : Nat → Nat → Int32} {J : Nat → Nat → Int64} {P : Nat → Nat → Option Nat} {x nn a c : Nat} {Iz : Nat → Nat → Int32} {Jz : Nat → Nat → Int64} {z N n u tn : Nat} {LT LP : Row → Int32} {d na v e : Nat}
theorem feed_call (h : InvS T I J P x nn c Iz Jz z N n u tn LT LP d na v) (g1 g2 g3 g4 g5 : Int32) : ∃ r I2 Iz2, x_feed 2000 I x g1 g2 g3 g4 g5 = some (r, I2) ∧ r_feed 2000 Iz z g1 g2 g3 g4 g5 = some (r, Iz2) ∧ InvS T I2 J P x nn c Iz2 Jz z N n u tn LT LP d na v ∧ KeepM I I2 x := by
  have hcx := (h.1 c (Or.inl rfl)).1.1
  obtain ⟨tp, t1, t2, t3, t4⟩ := h.2.2.2.2.1
  have h0 : Tp I x (uI Iz z 0 0) z tp := ⟨t2, by rw [uI_k _ _ _ _ _ (by decide)]; exact t3, fun k hk => by rw [uI_row _ _ _ _ _ (by omega)]; exact t4 k hk⟩
  have go : ∀ (I2 Iz2 : Nat → Nat → Int32) (tp' : Nat), tp' ≤ 900 → Tp I2 x Iz2 z tp' → Ft I I2 x (uI Iz z 0 0) Iz2 z → InvS T I2 J P x nn c Iz2 Jz z N n u tn LT LP d na v ∧ KeepM I I2 x := fun I2 Iz2 tp' ht hT hF => by
    obtain ⟨f1, f2, f3, f4⟩ := hF
    have zr : ∀ q, 1 ≤ q → q ≠ 3 → Iz2 (z + q) = Iz (z + q) := fun q a b => by rw [f3 _ (by omega) (by omega), uI_row _ _ _ _ _ (by omega)]
    refine ⟨h.swap (Nat.le_refl _) (zr 1 (by decide) (by decide)) (zr 2 (by decide) (by decide)) (fun q b1 b2 b3 => f1 q (by unfold Scr at b1; omega) b2) ?_ ⟨tp', ht, hT⟩ ?_ (by rw [f2 _ (by decide)]; exact h.2.2.2.2.2.2.2.1) h.2.2.2.2.2.2.2.2, ?_⟩
    · intro t ht
      obtain ⟨m, a1, a2, a3, a4, a5⟩ := h.2.2.2.1 t ht
      exact ⟨m, a1, by rw [zr 19 (by decide) (by decide)]; exact a2, by rw [f1 _ (by omega) (by omega)]; exact a3, by rw [f1 _ (by omega) (by omega), zr 18 (by decide) (by decide)]; exact a4, a5⟩
    · rw [f1 _ (by omega) (by omega), f4 _ (by decide), f4 _ (by decide), uI_k _ _ _ _ _ (by decide), uI_k _ _ _ _ _ (by decide)]
      exact h.2.2.2.2.2.1
    · exact KeepM.of (fun q a1 a2 a3 => f1 q (by omega) (by omega))
  unfold x_feed r_feed
  try dsimp only
  rw [h0.2.1, t2, show nI tp + 20 = nI (tp + 20) from nI_add tp 20]
  by_cases hc : tp + 20 ≤ 900
  · rw [if_pos (show nI (tp + 20) ≤ 900 from nI_le (b := 900) hc (by omega))]
    rw [if_pos (show nI (tp + 20) ≤ 900 from nI_le (b := 900) hc (by omega))]
    obtain ⟨I1, Z1, e1, r1, T1, F1⟩ := feed_four (g1 := g1) (g2 := g2) (g3 := g3) (g4 := g4) (g5 := g5) (i := 0) (g := g1) h0 (by omega) (by decide) (fun r hr => by unfold pick; rw [if_pos (by omega)])
    obtain ⟨I2, Z2, e2, r2, T2, F2⟩ := feed_four (g1 := g1) (g2 := g2) (g3 := g3) (g4 := g4) (g5 := g5) (i := 1) (g := g2) T1 (by omega) (by decide) (fun r hr => by unfold pick; rw [if_neg (by omega), if_pos (by omega)])
    obtain ⟨I3, Z3, e3, r3, T3, F3⟩ := feed_four (g1 := g1) (g2 := g2) (g3 := g3) (g4 := g4) (g5 := g5) (i := 2) (g := g3) T2 (by omega) (by decide) (fun r hr => by unfold pick; rw [if_neg (by omega), if_neg (by omega), if_pos (by omega)])
    obtain ⟨I4, Z4, e4, r4, T4, F4⟩ := feed_four (g1 := g1) (g2 := g2) (g3 := g3) (g4 := g4) (g5 := g5) (i := 3) (g := g4) T3 (by omega) (by decide) (fun r hr => by unfold pick; rw [if_neg (by omega), if_neg (by omega), if_neg (by omega), if_pos (by omega)])
    obtain ⟨I5, Z5, e5, r5, T5, F5⟩ := feed_four (g1 := g1) (g2 := g2) (g3 := g3) (g4 := g4) (g5 := g5) (i := 4) (g := g5) T4 (by omega) (by decide) (fun r hr => by unfold pick; rw [if_neg (by omega), if_neg (by omega), if_neg (by omega), if_neg (by omega)])
    have rr : r_feed_24 2000 z g1 g2 g3 g4 g5 2000 0 (uI Iz z 0 0) = some (nI 20, Z5) := by
      refine (r1 1996).trans ((r2 1992).trans ((r3 1988).trans ((r4 1984).trans ((r5 1980).trans ?_))))
      rw [r_feed_24, if_pos (by decide)]
    rw [e1, rr, Option.bind_some, Option.bind_some]
    try dsimp only
    rw [e2, Option.bind_some]
    try dsimp only
    rw [e3, Option.bind_some]
    try dsimp only
    rw [e4, Option.bind_some]
    try dsimp only
    rw [e5, Option.bind_some]
    try dsimp only
    rw [T5.1, T5.2.1]
    exact ⟨_, _, _, rfl, rfl, go _ _ _ (by omega) T5 ((((F1.tr0 F2).tr0 F3).tr0 F4).tr0 F5)⟩
  · rw [if_neg (show ¬ nI (tp + 20) ≤ 900 from nI_ge (b := tp + 20) (a := 900) (by omega) (by omega))]
    rw [if_neg (show ¬ nI (tp + 20) ≤ 900 from nI_ge (b := tp + 20) (a := 900) (by omega) (by omega))]
    exact ⟨_, _, _, rfl, rfl, go _ _ _ t1 h0 ⟨fun _ _ _ => rfl, fun _ _ => rfl, fun _ _ _ => rfl, fun _ _ => rfl⟩⟩
end
