/-! the rest of the calls but court -/
section
variable {l : Launch} {D : va_G} {E : Nat → ClassId} {B Bz : Nat → Prop} {T : Nat → Option (Nat × Nat)} {I I2 : Nat → Nat → Int32} {J J2 : Nat → Nat → Int64} {P P2 : Nat → Nat → Option Nat} {x nn nz c : Nat} {Tz : Nat → Option (Nat × Nat)} {Iz Iz2 : Nat → Nat → Int32} {Jz Jz2 : Nat → Nat → Int64} {Pz : Nat → Nat → Option Nat} {z N : Nat} {n u tn : Nat} {LT LP : Row → Int32} {d na v : Nat}
theorem fin_tires (hs : isSR T P x ∧ P x 3 = some c ∧ Tlt T nn ∧ x + 224 ≤ nn) (hI : InvS T I J P x nn c Iz Jz z N n u tn LT LP d na v) (hM : Mem I J x Iz Jz z v) (h : (∀ q, q ≠ c + 5 → q ≠ c + 6 → I2 q = I q) ∧ KeepZ Iz Iz2 z) : InvF T I2 J P x nn c Iz2 Jz z (N + 1) := by
  have hc := (hI.1 c (Or.inl rfl)).1.1
  refine fin_unch hs hI hM ⟨KeepX.of (fun q hq => h.1 q (fun e => hq (by unfold Scr; omega)) (fun e => hq (by unfold Scr; omega))) (h.1 x (by omega) (by omega)) (h.1 (x + 2) (by omega) (by omega)), h.2, fun q a b => h.1 q (by omega) (by omega)⟩
theorem fin_lists (hs : isSR T P x ∧ P x 3 = some c ∧ Tlt T nn ∧ x + 224 ≤ nn) (hM : Mem I J x Iz Jz z v) (h : DoneL T I I2 J J2 P x nn c Iz2 Jz2 z N v) (hp : PX x P P2) : InvF T I2 J2 P2 x nn c Iz2 Jz2 z (N + 1) := by
  obtain ⟨⟨n, u, tn, LT, LP, d, na, h⟩, h1, h2, h3, h4, h5⟩ := h
  exact ⟨px_sr hs hp, n, u, tn, LT, LP, d, na, v + 1, h.keep hs.1 KeepX.rf (fun _ _ => rfl) hp KeepZ.rf, hM.1.past (by rw [h3.1]), h5, hM.2.2.1.past (by rw [show I2 (x + 221) = I (x + 221) from h4]), hM.2.2.2.past (by rw [h2.1])⟩
theorem fin_img (hs : isSR T P x ∧ P x 3 = some c ∧ Tlt T nn ∧ x + 224 ≤ nn) (hM : Mem I J x Iz Jz z v) (h : Img1 T I I2 J P2 x nn c Iz Iz2 Jz z N n u tn LT LP d na v) : InvF T I2 J P2 x nn c Iz2 Jz z (N + 1) := ⟨⟨h.1, h.2.1, hs.2.2⟩, n, u, tn, LT, LP, d, na, v, h.2.2.1.nxt, hM.keep h.2.2.2.1 h.2.2.2.2 rfl rfl rfl⟩
theorem fin_res (hs : isSR T P x ∧ P x 3 = some c ∧ Tlt T nn ∧ x + 224 ≤ nn) (hM : Mem I J x Iz Jz z v) (h : Res1 T I I2 J P2 x nn Iz2 Jz z N v) : ∃ c', InvF T I2 J P2 x nn c' Iz2 Jz z (N + 1) := by
  obtain ⟨c', n, u, tn, LT, LP, d, na, h1, h2, h3, e⟩ := h
  exact ⟨c', ⟨h1, h2, hs.2.2⟩, n, u, tn, LT, LP, d, na, v + 1, h3, hM.past (by rw [e _ (by omega) (by omega) (by omega)]) (by rw [e _ (by omega) (by omega) (by omega)]) (by rw [e _ (by omega) (by omega) (by omega)]) (by rw [e _ (by omega) (by omega) (by omega)])⟩
theorem p_person (hz : isMd Tz Pz z) (hN : N < 600) (h : InvF T I J P x nn c Iz Jz z N) (a_ : Int32) (b_ : Int32) : Pair l D E B Bz yX11_person cX11_person 3 3 0 0 yX12_person cX12_person 3 4 (some .int) [.int a_, .int b_] T I J P x nn nz Tz Iz Jz Pz z N := by
  obtain ⟨hs, n, u, tn, LT, LP, d, na, v, hI, hM⟩ := h
  obtain ⟨r, e1, e2⟩ := person_call hI a_ b_
  refine ⟨.int r, uI Iz z 0 0, Jz, _, rfl, c_r_person hz e2, c_x_person hs.1 hI.2.1.1 hs.2.1 e1, fun o h hq => ?_⟩
  obtain ⟨rfl, rfl⟩ := hq
  exact ⟨rfl, c, fin_same hs hI hM KeepZ.thr⟩
theorem p_office (hz : isMd Tz Pz z) (hN : N < 600) (h : InvF T I J P x nn c Iz Jz z N) (a_ : Int32) : Pair l D E B Bz yX11_office cX11_office 2 0 0 0 yX12_office cX12_office 2 1 (some .int) [.int a_] T I J P x nn nz Tz Iz Jz Pz z N := by
  obtain ⟨hs, n, u, tn, LT, LP, d, na, v, hI, hM⟩ := h
  obtain ⟨r, e1, e2⟩ := office_call hI a_
  refine ⟨.int r, uI Iz z 0 0, Jz, _, rfl, c_r_office hz e2, c_x_office hs.1 hI.2.1.1 hs.2.1 e1, fun o h hq => ?_⟩
  obtain ⟨rfl, rfl⟩ := hq
  exact ⟨rfl, c, fin_same hs hI hM KeepZ.thr⟩
theorem p_spot (hz : isMd Tz Pz z) (hN : N < 600) (h : InvF T I J P x nn c Iz Jz z N) (a_ : Int32) : Pair l D E B Bz yX11_spot cX11_spot 2 1 0 0 yX12_spot cX12_spot 3 0 (some .int) [.int a_] T I J P x nn nz Tz Iz Jz Pz z N := by
  obtain ⟨hs, n, u, tn, LT, LP, d, na, v, hI, hM⟩ := h
  obtain ⟨r, e1, e2⟩ := spot_call hI a_
  refine ⟨.int r, uI Iz z 0 0, Jz, _, rfl, c_r_spot hz e2, c_x_spot hs.1 hI.2.1.1 hs.2.1 e1, fun o h hq => ?_⟩
  obtain ⟨rfl, rfl⟩ := hq
  exact ⟨rfl, c, fin_same hs hI hM KeepZ.thr⟩
theorem p_count (hz : isMd Tz Pz z) (hN : N < 600) (h : InvF T I J P x nn c Iz Jz z N) (a_ : Int32) : Pair l D E B Bz yX11_count cX11_count 2 2 0 0 yX12_count cX12_count 2 1 (some .int) [.int a_] T I J P x nn nz Tz Iz Jz Pz z N := by
  obtain ⟨hs, n, u, tn, LT, LP, d, na, v, hI, hM⟩ := h
  obtain ⟨r, e1, e2⟩ := count_call hI a_
  refine ⟨.int r, uI Iz z 0 0, Jz, _, rfl, c_r_count hz e2, c_x_count hs.1 hI.2.1.1 hs.2.1 e1, fun o h hq => ?_⟩
  obtain ⟨rfl, rfl⟩ := hq
  exact ⟨rfl, c, fin_same hs hI hM KeepZ.thr⟩
theorem p_tires (hz : isMd Tz Pz z) (hN : N < 600) (h : InvF T I J P x nn c Iz Jz z N) (a_ : Int32) (b_ : Int32) : Pair l D E B Bz yX11_tires cX11_tires 3 4 0 0 yX12_tires cX12_tires 3 5 (some .int) [.int a_, .int b_] T I J P x nn nz Tz Iz Jz Pz z N := by
  obtain ⟨hs, n, u, tn, LT, LP, d, na, v, hI, hM⟩ := h
  obtain ⟨r, I2, Iz2, e1, e2, e3⟩ := tires_call hI a_ b_
  refine ⟨.int r, Iz2, Jz, _, rfl, c_r_tires hz e2, c_x_tires hs.1 hI.2.1.1 hs.2.1 e1, fun o h hq => ?_⟩
  obtain ⟨rfl, rfl⟩ := hq
  exact ⟨rfl, c, fin_tires hs hI hM e3⟩
theorem p_feed (hz : isMd Tz Pz z) (hN : N < 600) (h : InvF T I J P x nn c Iz Jz z N) (a_ : Int32) (b_ : Int32) (f_ : Int32) (g_ : Int32) (i_ : Int32) : Pair l D E B Bz yX11_feed cX11_feed 6 1 0 0 yX12_feed cX12_feed 8 0 (some .int) [.int a_, .int b_, .int f_, .int g_, .int i_] T I J P x nn nz Tz Iz Jz Pz z N := by
  obtain ⟨hs, n, u, tn, LT, LP, d, na, v, hI, hM⟩ := h
  obtain ⟨r, I2, Iz2, e1, e2, e3⟩ := fin_feed (g1 := a_) (g2 := b_) (g3 := f_) (g4 := g_) (g5 := i_) hs hI hM
  refine ⟨.int r, Iz2, Jz, _, rfl, c_r_feed hz e2, c_x_feed hs.1 e1, fun o h hq => ?_⟩
  obtain ⟨rfl, rfl⟩ := hq
  exact ⟨rfl, c, e3⟩
theorem p_numbers (hz : isMd Tz Pz z) (hN : N < 600) (h : InvF T I J P x nn c Iz Jz z N) (a_ : Int32) (b_ : Int32) (w_ : Int32) : Pair l D E B Bz yX11_numbers cX11_numbers 4 2 0 0 yX12_numbers cX12_numbers 5 1 (some .int) [.int a_, .int b_, .int w_] T I J P x nn nz Tz Iz Jz Pz z N := by
  obtain ⟨hs, n, u, tn, LT, LP, d, na, v, hI, hM⟩ := h
  obtain ⟨r, I2, J2, Iz2, Jz2, e1, e2, e3, e4⟩ := numbers_call hs.1 hI hN a_ b_ w_
  refine ⟨.int r, Iz2, Jz2, _, rfl, c_r_numbers hz e2, c_x_numbers hs.1 e1, fun o h hq => ?_⟩
  obtain ⟨rfl, rfl⟩ := hq
  refine ⟨rfl, c, ?_⟩
  rcases e4 with e4 | ⟨e4, rfl, rfl⟩
  · exact fin_done hs hM e4
  · exact fin_unq hs hI hM e4 (fun _ _ _ _ => rfl) ⟨hs.1, hs.2.1⟩
theorem p_write (hz : isMd Tz Pz z) (hN : N < 600) (h : InvF T I J P x nn c Iz Jz z N) (a_ : Int32) (b_ : Int32) (w_ : Int64) : Pair l D E B Bz yX11_write cX11_write 6 1 0 0 yX12_write cX12_write 6 2 (some .long) [.int a_, .int b_, .long w_] T I J P x nn nz Tz Iz Jz Pz z N := by
  obtain ⟨hs, n, u, tn, LT, LP, d, na, v, hI, hM⟩ := h
  obtain ⟨r, I2, J2, Iz2, Jz2, e1, e2, e3, e4⟩ := write_call hI hN a_ b_ w_
  refine ⟨.long r, Iz2, Jz2, _, rfl, c_r_write hz e2, c_x_write hs.1 e1, fun o h hq => ?_⟩
  obtain ⟨rfl, rfl⟩ := hq
  refine ⟨rfl, c, ?_⟩
  rcases e4 with e4 | ⟨e4, rfl, rfl⟩
  · exact fin_done hs hM e4
  · exact fin_unq hs hI hM e4 (fun _ _ _ _ => rfl) ⟨hs.1, hs.2.1⟩
theorem p_lists (hz : isMd Tz Pz z) (hN : N < 600) (h : InvF T I J P x nn c Iz Jz z N) (a_ : Int32) (b_ : Int32) : Pair l D E B Bz yX11_lists cX11_lists 6 23 0 0 yX12_lists cX12_lists 7 22 (some .int) [.int a_, .int b_] T I J P x nn nz Tz Iz Jz Pz z N := by
  obtain ⟨hs, n, u, tn, LT, LP, d, na, v, hI, hM⟩ := h
  obtain ⟨r, I2, J2, Iz2, Jz2, e1, e2, e3⟩ := lists_call hs.1 hI hM.2.1 hN a_ b_
  refine ⟨.int r, Iz2, Jz2, _, rfl, c_r_lists hz e2, c_x_lists hs.1 hI.2.1.1 hs.2.1 e1, fun o h hq => ?_⟩
  obtain ⟨rfl, P2, hp, rfl⟩ := hq
  refine ⟨rfl, c, ?_⟩
  rcases e3 with e3 | ⟨e3, rfl, rfl⟩
  · exact fin_lists hs hM e3 hp
  · exact fin_unm hs hI hM e3 hp
theorem p_image (hz : isMd Tz Pz z) (hN : N < 600) (h : InvF T I J P x nn c Iz Jz z N) (a_ : Int32) : Pair l D E B Bz yX11_image cX11_image 2 2 0 0 yX12_image cX12_image 3 1 (some .int) [.int a_] T I J P x nn nz Tz Iz Jz Pz z N := by
  obtain ⟨hs, n, u, tn, LT, LP, d, na, v, hI, hM⟩ := h
  obtain ⟨r, I2, P2, Iz2, e1, e2, e3⟩ := image_call hs.1 hs.2.1 hI a_
  refine ⟨.int r, Iz2, Jz, _, rfl, c_r_image hz e2, c_x_image hs.1 hI.2.1.1 hs.2.1 e1, fun o h hq => ?_⟩
  obtain ⟨rfl, rfl⟩ := hq
  exact ⟨rfl, c, fin_img hs hM e3⟩
theorem p_restore (hz : isMd Tz Pz z) (hN : N < 600) (h : InvF T I J P x nn c Iz Jz z N) (a_ : Int32) : Pair l D E B Bz yX11_restore cX11_restore 3 2 0 0 yX12_restore cX12_restore 3 1 (some .int) [.int a_] T I J P x nn nz Tz Iz Jz Pz z N := by
  obtain ⟨hs, n, u, tn, LT, LP, d, na, v, hI, hM⟩ := h
  obtain ⟨r, I2, P2, Iz2, e1, e2, e3⟩ := restore_call hs.1 hs.2.1 hI a_
  refine ⟨.int r, Iz2, Jz, _, rfl, c_r_restore hz e2, c_x_restore hs.1 e1, fun o h hq => ?_⟩
  obtain ⟨rfl, rfl⟩ := hq
  refine ⟨rfl, ?_⟩
  rcases e3 with ⟨rfl, rfl, e3⟩ | e3
  · exact ⟨c, fin_same hs hI hM e3⟩
  · exact fin_res hs hM e3
theorem p_fault (hz : isMd Tz Pz z) (hN : N < 600) (h : InvF T I J P x nn c Iz Jz z N) (a_ : Int32) : Pair l D E B Bz yX11_fault cX11_fault 2 0 0 0 yX12_fault cX12_fault 2 0 (some .int) [.int a_] T I J P x nn nz Tz Iz Jz Pz z N := by
  obtain ⟨hs, n, u, tn, LT, LP, d, na, v, hI, hM⟩ := h
  refine ⟨.int (x_fault I x a_), uI Iz z 0 0, Jz, _, rfl, c_r_fault hz (fault_call hI a_), c_x_fault hs.1, fun o h hq => ?_⟩
  obtain ⟨rfl, rfl⟩ := hq
  exact ⟨rfl, c, fin_same hs hI hM KeepZ.thr⟩
end
