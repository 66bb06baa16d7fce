/-! the calls that remember -/
section
variable {l : Launch} {D : va_G} {E : Nat → ClassId} {B Bz : Nat → Prop} {T : Nat → Option (Nat × Nat)} {I I2 : Nat → Nat → Int32} {J J2 : Nat → Nat → Int64} {P P2 : Nat → Nat → Option Nat} {x nn nz c : Nat} {Tz : Nat → Option (Nat × Nat)} {Iz Iz2 : Nat → Nat → Int32} {Jz Jz2 : Nat → Nat → Int64} {Pz : Nat → Nat → Option Nat} {z N : Nat} {n u tn : Nat} {LT LP : Row → Int32} {d na v : Nat}
theorem px_sr (hs : isSR T P x ∧ P x 3 = some c ∧ Tlt T nn ∧ x + 224 ≤ nn) (hp : PX x P P2) : isSR T P2 x ∧ P2 x 3 = some c ∧ Tlt T nn ∧ x + 224 ≤ nn := ⟨hs.1.px hp, by rw [hp x 3 (by omega) (by omega)]; exact hs.2.1, hs.2.2⟩
theorem fin_unw (hs : isSR T P x ∧ P x 3 = some c ∧ Tlt T nn ∧ x + 224 ≤ nn) (hI : InvS T I J P x nn c Iz Jz z N n u tn LT LP d na v) (hM : Mem I J x Iz Jz z v) (h : Unw I I2 x c Iz Iz2 z v) : InvF T I2 J P x nn c Iz2 Jz z (N + 1) := ⟨hs, n, u, tn, LT, LP, d, na, v, (hI.keep hs.1 h.1 (fun _ _ => rfl) (fun _ _ _ _ => rfl) h.2.1).nxt, h.2.2.2.2.2, hM.2.1.keep h.2.2.2.1 h.2.1.y rfl, hM.2.2.1.keep h.2.2.2.2.1 rfl rfl h.2.1.y, hM.2.2.2.keep h.2.2.1 h.2.1.y rfl⟩
theorem fin_unr (hs : isSR T P x ∧ P x 3 = some c ∧ Tlt T nn ∧ x + 224 ≤ nn) (hI : InvS T I J P x nn c Iz Jz z N n u tn LT LP d na v) (hM : Mem I J x Iz Jz z v) (h : Unr I I2 x c Iz Iz2 Jz z v) : InvF T I2 J P x nn c Iz2 Jz z (N + 1) := ⟨hs, n, u, tn, LT, LP, d, na, v, (hI.keep hs.1 h.1 (fun _ _ => rfl) (fun _ _ _ _ => rfl) h.2.1).nxt, hM.1.keep h.2.2.1 h.2.1.y, hM.2.1.keep h.2.2.2.1 h.2.1.y rfl, hM.2.2.1.keep h.2.2.2.2.1 rfl rfl h.2.1.y, h.2.2.2.2.2⟩
theorem fin_unm (hs : isSR T P x ∧ P x 3 = some c ∧ Tlt T nn ∧ x + 224 ≤ nn) (hI : InvS T I J P x nn c Iz Jz z N n u tn LT LP d na v) (hM : Mem I J x Iz Jz z v) (h : Unm I I2 x c Iz Iz2 Jz z v) (hp : PX x P P2) : InvF T I2 J P2 x nn c Iz2 Jz z (N + 1) := ⟨px_sr hs hp, n, u, tn, LT, LP, d, na, v, (hI.keep hs.1 h.1 (fun _ _ => rfl) hp h.2.1).nxt, hM.1.keep h.2.2.2.1 h.2.1.y, h.2.2.2.2.2, hM.2.2.1.keep h.2.2.2.2.1 rfl rfl h.2.1.y, hM.2.2.2.keep h.2.2.1 h.2.1.y rfl⟩
theorem fin_ways (hs : isSR T P x ∧ P x 3 = some c ∧ Tlt T nn ∧ x + 224 ≤ nn) (hI : InvS T I J P x nn c Iz Jz z N n u tn LT LP d na v) (hM : Mem I J x Iz Jz z v) (h : KeepX I I2 x c ∧ KeepZ Iz Iz2 z ∧ KMr I I2 x ∧ KMw I I2 x ∧ KMc I I2 x ∧ KMm I I2 x) (hp : PX x P P2) : InvF T I2 J P2 x nn c Iz2 Jz z (N + 1) := ⟨px_sr hs hp, n, u, tn, LT, LP, d, na, v, (hI.keep hs.1 h.1 (fun _ _ => rfl) hp h.2.1).nxt, hM.1.keep h.2.2.2.1 h.2.1.y, hM.2.1.keep h.2.2.2.2.2 h.2.1.y rfl, hM.2.2.1.keep h.2.2.2.2.1 rfl rfl h.2.1.y, hM.2.2.2.keep h.2.2.1 h.2.1.y rfl⟩
theorem InvS.jz (h : InvS T I J P x nn c Iz Jz z N n u tn LT LP d na v) (hj : Jz2 (z + 20) = Jz (z + 20)) : InvS T I J P x nn c Iz Jz2 z N n u tn LT LP d na v := by
  obtain ⟨g1, g2, g3, g4, g5⟩ := h
  exact ⟨g1, g2, g3, fun t ht => by rw [hj]; exact g4 t ht, g5⟩
theorem fin_unc (hs : isSR T P x ∧ P x 3 = some c ∧ Tlt T nn ∧ x + 224 ≤ nn) (hI : InvS T I J P x nn c Iz Jz z N n u tn LT LP d na v) (hM : Mem I J x Iz Jz z v) (h : Unc I I2 J J2 x c Iz Iz2 Jz Jz2 z v) (hp : PX x P P2) : InvF T I2 J2 P2 x nn c Iz2 Jz2 z (N + 1) := by
  obtain ⟨h1, h2, h3, h4, h5, h6, h7, h8⟩ := h
  exact ⟨px_sr hs hp, n, u, tn, LT, LP, d, na, v, ((hI.keep hs.1 h1 h2 hp h3).jz h4).nxt, hM.1.keep h6 h3.y, hM.2.1.keep h7 h3.y h4, h8, hM.2.2.2.keep h5 h3.y h4⟩
theorem p_rests (hz : isMd Tz Pz z) (hN : N < 600) (h : InvF T I J P x nn c Iz Jz z N) (a_ : Int32) (b_ : Int32) (t_ : Int32) (w_ : Int32) : Pair l D E B Bz yX11_rests cX11_rests 6 7 0 0 yX12_rests cX12_rests 6 8 (some .int) [.int a_, .int b_, .int t_, .int w_] T I J P x nn nz Tz Iz Jz Pz z N := by
  obtain ⟨hs, n, u, tn, LT, LP, d, na, v, hI, hM⟩ := h
  obtain ⟨r, I2, Iz2, e1, e2, e3⟩ := rests_call hs.1 hI hM.1 hN a_ b_ t_ w_
  refine ⟨.int r, Iz2, Jz, _, rfl, c_r_rests hz e2, c_x_rests hs.1 hI.2.1.1 hs.2.1 e1, fun o h hq => ?_⟩
  obtain ⟨rfl, rfl⟩ := hq
  exact ⟨rfl, c, fin_unw hs hI hM e3⟩
theorem p_rest (hz : isMd Tz Pz z) (hN : N < 600) (h : InvF T I J P x nn c Iz Jz z N) (a_ : Int32) (b_ : Int32) (t_ : Int32) (w_ : Int32) (i_ : Int32) : Pair l D E B Bz yX11_rest cX11_rest 7 7 0 0 yX12_rest cX12_rest 7 8 (some .int) [.int a_, .int b_, .int t_, .int w_, .int i_] T I J P x nn nz Tz Iz Jz Pz z N := by
  obtain ⟨hs, n, u, tn, LT, LP, d, na, v, hI, hM⟩ := h
  obtain ⟨r, I2, Iz2, e1, e2, e3⟩ := rest_call hs.1 hI hM.1 hN a_ b_ t_ w_ i_
  refine ⟨.int r, Iz2, Jz, _, rfl, c_r_rest hz e2, c_x_rest hs.1 hI.2.1.1 hs.2.1 e1, fun o h hq => ?_⟩
  obtain ⟨rfl, rfl⟩ := hq
  exact ⟨rfl, c, fin_unw hs hI hM e3⟩
theorem p_alone (hz : isMd Tz Pz z) (hN : N < 600) (h : InvF T I J P x nn c Iz Jz z N) (a_ : Int32) : Pair l D E B Bz yX11_alone cX11_alone 3 23 0 0 yX12_alone cX12_alone 3 22 (some .int) [.int a_] T I J P x nn nz Tz Iz Jz Pz z N := by
  obtain ⟨hs, n, u, tn, LT, LP, d, na, v, hI, hM⟩ := h
  obtain ⟨r, I2, Iz2, e1, e2, e3⟩ := alone_call hs.1 hI hM.2.1 hN a_
  refine ⟨.int r, Iz2, Jz, _, rfl, c_r_alone hz e2, c_x_alone hs.1 hI.2.1.1 hs.2.1 e1, fun o h hq => ?_⟩
  obtain ⟨rfl, P2, hp, rfl⟩ := hq
  exact ⟨rfl, c, fin_unm hs hI hM e3 hp⟩
theorem p_aloneBy (hz : isMd Tz Pz z) (hN : N < 600) (h : InvF T I J P x nn c Iz Jz z N) (a_ : Int32) (i_ : Int32) : Pair l D E B Bz yX11_aloneBy cX11_aloneBy 4 23 0 0 yX12_aloneBy cX12_aloneBy 4 22 (some .int) [.int a_, .int i_] T I J P x nn nz Tz Iz Jz Pz z N := by
  obtain ⟨hs, n, u, tn, LT, LP, d, na, v, hI, hM⟩ := h
  obtain ⟨r, I2, Iz2, e1, e2, e3⟩ := aloneBy_call hs.1 hI hM.2.1 hN a_ i_
  refine ⟨.int r, Iz2, Jz, _, rfl, c_r_aloneBy hz e2, c_x_aloneBy hs.1 hI.2.1.1 hs.2.1 e1, fun o h hq => ?_⟩
  obtain ⟨rfl, P2, hp, rfl⟩ := hq
  exact ⟨rfl, c, fin_unm hs hI hM e3 hp⟩
theorem p_sits (hz : isMd Tz Pz z) (hN : N < 600) (h : InvF T I J P x nn c Iz Jz z N) (a_ : Int32) : Pair l D E B Bz yX11_sits cX11_sits 3 23 0 0 yX12_sits cX12_sits 3 22 (some .int) [.int a_] T I J P x nn nz Tz Iz Jz Pz z N := by
  obtain ⟨hs, n, u, tn, LT, LP, d, na, v, hI, hM⟩ := h
  obtain ⟨r, I2, Iz2, e1, e2, e3⟩ := sits_call hs.1 hI hM.2.1 hN a_
  refine ⟨.int r, Iz2, Jz, _, rfl, c_r_sits hz e2, c_x_sits hs.1 hI.2.1.1 hs.2.1 e1, fun o h hq => ?_⟩
  obtain ⟨rfl, P2, hp, rfl⟩ := hq
  exact ⟨rfl, c, fin_unm hs hI hM e3 hp⟩
theorem p_sitsBy (hz : isMd Tz Pz z) (hN : N < 600) (h : InvF T I J P x nn c Iz Jz z N) (a_ : Int32) (i_ : Int32) : Pair l D E B Bz yX11_sitsBy cX11_sitsBy 4 23 0 0 yX12_sitsBy cX12_sitsBy 4 22 (some .int) [.int a_, .int i_] T I J P x nn nz Tz Iz Jz Pz z N := by
  obtain ⟨hs, n, u, tn, LT, LP, d, na, v, hI, hM⟩ := h
  obtain ⟨r, I2, Iz2, e1, e2, e3⟩ := sitsBy_call hs.1 hI hM.2.1 hN a_ i_
  refine ⟨.int r, Iz2, Jz, _, rfl, c_r_sitsBy hz e2, c_x_sitsBy hs.1 hI.2.1.1 hs.2.1 e1, fun o h hq => ?_⟩
  obtain ⟨rfl, P2, hp, rfl⟩ := hq
  exact ⟨rfl, c, fin_unm hs hI hM e3 hp⟩
theorem p_ways (hz : isMd Tz Pz z) (hN : N < 600) (h : InvF T I J P x nn c Iz Jz z N) (a_ : Int32) (b_ : Int32) : Pair l D E B Bz yX11_ways cX11_ways 4 22 0 0 yX12_ways cX12_ways 4 21 (some .int) [.int a_, .int b_] T I J P x nn nz Tz Iz Jz Pz z N := by
  obtain ⟨hs, n, u, tn, LT, LP, d, na, v, hI, hM⟩ := h
  obtain ⟨r, I2, Iz2, e1, e2, e3⟩ := ways_call hI hN a_ b_
  refine ⟨.int r, Iz2, Jz, _, rfl, c_r_ways hz e2, c_x_ways hs.1 hI.2.1.1 hs.2.1 e1, fun o h hq => ?_⟩
  obtain ⟨rfl, P2, hp, rfl⟩ := hq
  exact ⟨rfl, c, fin_ways hs hI hM e3 hp⟩
theorem p_row (hz : isMd Tz Pz z) (hN : N < 600) (h : InvF T I J P x nn c Iz Jz z N) (a_ : Int32) (b_ : Int32) : Pair l D E B Bz yX11_row cX11_row 4 7 0 0 yX12_row cX12_row 4 22 (some .int) [.int a_, .int b_] T I J P x nn nz Tz Iz Jz Pz z N := by
  obtain ⟨hs, n, u, tn, LT, LP, d, na, v, hI, hM⟩ := h
  obtain ⟨r, I2, Iz2, e1, e2, e3⟩ := row_call hs.1 hI hM.2.2.2 hN a_ b_
  refine ⟨.int r, Iz2, Jz, _, rfl, c_r_row hz e2, c_x_row hs.1 hI.2.1.1 hs.2.1 e1, fun o h hq => ?_⟩
  obtain ⟨rfl, rfl⟩ := hq
  exact ⟨rfl, c, fin_unr hs hI hM e3⟩
theorem p_rowSpot (hz : isMd Tz Pz z) (hN : N < 600) (h : InvF T I J P x nn c Iz Jz z N) (a_ : Int32) (b_ : Int32) (i_ : Int32) : Pair l D E B Bz yX11_rowSpot cX11_rowSpot 5 7 0 0 yX12_rowSpot cX12_rowSpot 5 22 (some .int) [.int a_, .int b_, .int i_] T I J P x nn nz Tz Iz Jz Pz z N := by
  obtain ⟨hs, n, u, tn, LT, LP, d, na, v, hI, hM⟩ := h
  obtain ⟨r, I2, Iz2, e1, e2, e3⟩ := rowSpot_call hs.1 hI hM.2.2.2 hN a_ b_ i_
  refine ⟨.int r, Iz2, Jz, _, rfl, c_r_rowSpot hz e2, c_x_rowSpot hs.1 hI.2.1.1 hs.2.1 e1, fun o h hq => ?_⟩
  obtain ⟨rfl, rfl⟩ := hq
  exact ⟨rfl, c, fin_unr hs hI hM e3⟩
theorem p_chance (hz : isMd Tz Pz z) (hN : N < 600) (h : InvF T I J P x nn c Iz Jz z N) (a_ : Int32) (b_ : Int32) (w_ : Int32) : Pair l D E B Bz yX11_chance cX11_chance 10 23 0 0 yX12_chance cX12_chance 7 201 (some .long) [.int a_, .int b_, .int w_] T I J P x nn nz Tz Iz Jz Pz z N := by
  obtain ⟨hs, n, u, tn, LT, LP, d, na, v, hI, hM⟩ := h
  obtain ⟨r, I2, J2, Iz2, Jz2, e1, e2, e3⟩ := chance_call hs.1 hI hM.2.2.1 hN a_ b_ w_
  refine ⟨.long r, Iz2, Jz2, _, rfl, c_r_chance hz e2, c_x_chance hs.1 hI.2.1.1 hs.2.1 e1, fun o h hq => ?_⟩
  obtain ⟨rfl, P2, hp, rfl⟩ := hq
  exact ⟨rfl, c, fin_unc hs hI hM e3 hp⟩
theorem p_chancellor (hz : isMd Tz Pz z) (hN : N < 600) (h : InvF T I J P x nn c Iz Jz z N) (b_ : Int32) : Pair l D E B Bz yX11_chancellor cX11_chancellor 4 23 0 0 yX12_chancellor cX12_chancellor 4 22 (some .int) [.int b_] T I J P x nn nz Tz Iz Jz Pz z N := by
  obtain ⟨hs, n, u, tn, LT, LP, d, na, v, hI, hM⟩ := h
  obtain ⟨r, I2, J2, Iz2, Jz2, e1, e2, e3⟩ := chancellor_call hs.1 hI hM.2.2.1 hN b_
  refine ⟨.int r, Iz2, Jz2, _, rfl, c_r_chancellor hz e2, c_x_chancellor hs.1 hI.2.1.1 hs.2.1 e1, fun o h hq => ?_⟩
  obtain ⟨rfl, P2, hp, rfl⟩ := hq
  exact ⟨rfl, c, fin_unc hs hI hM e3 hp⟩
end
