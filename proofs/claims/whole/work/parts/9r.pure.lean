/-! each call, on both sides, with its bytecode -/
def okV (ret : Option FieldType) (rv : Value) : Bool := match ret, rv with
  | some .int, .int _ => true
  | some .long, .long _ => true
  | _, _ => false
def Pair (l : Launch) (D : va_G) (E : Nat → ClassId) (B Bz : Nat → Prop) (yx : MethodName) (cx : ByteArray) (nLx dx mc ms : Nat) (yz : MethodName) (cz : ByteArray) (nLz dz : Nat) (ret : Option FieldType) (as : List Value) (T : Nat → Option (Nat × Nat)) (I : Nat → Nat → Int32) (J : Nat → Nat → Int64) (P : Nat → Nat → Option Nat) (x nn nz : Nat) (Tz : Nat → Option (Nat × Nat)) (Iz : Nat → Nat → Int32) (Jz : Nat → Nat → Int64) (Pz : Nat → Nat → Option Nat) (z N : Nat) : Prop := ∃ (rv : Value) (Iz2 : Nat → Nat → Int32) (Jz2 : Nat → Nat → Int64) (Q : Option Value → HT → Prop), okV ret rv = true ∧ (∀ {Bz : Nat → Prop} {nz : Nat}, Ct l D E Bz yz cz nLz ret dz 0 0 (.ref z :: as) (nz, Tz, Iz, Jz, Pz) (Ret (some rv) (nz, Tz, Iz2, Jz2, Pz))) ∧ Ct l D E B yx cx nLx ret dx mc ms (.ref x :: as) (nn, T, I, J, P) Q ∧ ∀ o h, Q o h → o = some rv ∧ ∃ c', InvF h.2.1 h.2.2.1 h.2.2.2.1 h.2.2.2.2 x h.1 c' Iz2 Jz2 z (N + 1)
section
variable {l : Launch} {D : va_G} {E : Nat → ClassId} {B Bz : Nat → Prop} {T : Nat → Option (Nat × Nat)} {I : Nat → Nat → Int32} {J : Nat → Nat → Int64} {P : Nat → Nat → Option Nat} {x nn nz c : Nat} {Tz : Nat → Option (Nat × Nat)} {Iz : Nat → Nat → Int32} {Jz : Nat → Nat → Int64} {Pz : Nat → Nat → Option Nat} {z N : Nat}
theorem p_play (hz : isMd Tz Pz z) (hN : N < 600) (h : InvF T I J P x nn c Iz Jz z N) (a_ : Int32) : Pair l D E B Bz yX11_play cX11_play 3 5 0 0 yX12_play cX12_play 3 6 (some .int) [.int a_] T I J P x nn nz Tz Iz Jz Pz z N := by
  obtain ⟨hs, n, u, tn, LT, LP, d, na, v, hI, hM⟩ := h
  obtain ⟨r, I2, Iz2, e1, e2, e3⟩ := play_call hI hN a_
  refine ⟨.int r, Iz2, Jz, _, rfl, c_r_play hz e2, c_x_play hs.1 hI.2.1.1 hs.2.1 e1, fun o h hq => ?_⟩
  obtain ⟨rfl, rfl⟩ := hq
  refine ⟨rfl, c, ?_⟩
  rcases e3 with e3 | e3
  · exact fin_done hs hM e3
  · exact fin_unch hs hI hM e3
theorem p_sit (hz : isMd Tz Pz z) (hN : N < 600) (h : InvF T I J P x nn c Iz Jz z N) (a_ : Int32) : Pair l D E B Bz yX11_sit cX11_sit 3 4 0 0 yX12_sit cX12_sit 3 4 (some .int) [.int a_] T I J P x nn nz Tz Iz Jz Pz z N := by
  obtain ⟨hs, n, u, tn, LT, LP, d, na, v, hI, hM⟩ := h
  obtain ⟨r, I2, Iz2, e1, e2, e3⟩ := sit_call hI a_
  refine ⟨.int r, Iz2, Jz, _, rfl, c_r_sit hz e2, c_x_sit hs.1 hI.2.1.1 hs.2.1 e1, fun o h hq => ?_⟩
  obtain ⟨rfl, rfl⟩ := hq
  refine ⟨rfl, c, ?_⟩
  rcases e3 with e3 | e3
  · exact fin_done hs hM e3
  · exact fin_unch hs hI hM e3
theorem p_change (hz : isMd Tz Pz z) (hN : N < 600) (h : InvF T I J P x nn c Iz Jz z N) (a_ : Int32) (b_ : Int32) : Pair l D E B Bz yX11_change cX11_change 4 4 0 0 yX12_change cX12_change 3 3 (some .int) [.int a_, .int b_] T I J P x nn nz Tz Iz Jz Pz z N := by
  obtain ⟨hs, n, u, tn, LT, LP, d, na, v, hI, hM⟩ := h
  obtain ⟨r, I2, Iz2, e1, e2, e3⟩ := change_call hI a_ b_
  refine ⟨.int r, Iz2, Jz, _, rfl, c_r_change hz e2, c_x_change hs.1 hI.2.1.1 hs.2.1 e1, fun o h hq => ?_⟩
  obtain ⟨rfl, rfl⟩ := hq
  refine ⟨rfl, c, ?_⟩
  rcases e3 with e3 | e3
  · exact fin_done hs hM e3
  · exact fin_unch hs hI hM e3
theorem p_wine (hz : isMd Tz Pz z) (hN : N < 600) (h : InvF T I J P x nn c Iz Jz z N) (a_ : Int32) (b_ : Int32) : Pair l D E B Bz yX11_wine cX11_wine 4 4 0 0 yX12_wine cX12_wine 4 3 (some .int) [.int a_, .int b_] T I J P x nn nz Tz Iz Jz Pz z N := by
  obtain ⟨hs, n, u, tn, LT, LP, d, na, v, hI, hM⟩ := h
  obtain ⟨r, I2, Iz2, e1, e2, e3⟩ := wine_call hI a_ b_
  refine ⟨.int r, Iz2, Jz, _, rfl, c_r_wine hz e2, c_x_wine hs.1 hI.2.1.1 hs.2.1 e1, fun o h hq => ?_⟩
  obtain ⟨rfl, rfl⟩ := hq
  refine ⟨rfl, c, ?_⟩
  rcases e3 with e3 | e3
  · exact fin_done hs hM e3
  · exact fin_unch hs hI hM e3
theorem p_undo (hz : isMd Tz Pz z) (hN : N < 600) (h : InvF T I J P x nn c Iz Jz z N) (a_ : Int32) : Pair l D E B Bz yX11_undo cX11_undo 2 3 0 0 yX12_undo cX12_undo 3 1 (some .int) [.int a_] T I J P x nn nz Tz Iz Jz Pz z N := by
  obtain ⟨hs, n, u, tn, LT, LP, d, na, v, hI, hM⟩ := h
  obtain ⟨r, I2, Iz2, e1, e2, e3⟩ := undo_call hI a_
  refine ⟨.int r, Iz2, Jz, _, rfl, c_r_undo hz e2, c_x_undo hs.1 e1, fun o h hq => ?_⟩
  obtain ⟨rfl, rfl⟩ := hq
  refine ⟨rfl, c, ?_⟩
  rcases e3 with e3 | e3
  · exact fin_done hs hM e3
  · exact fin_unch hs hI hM e3
theorem p_evening (hz : isMd Tz Pz z) (hN : N < 600) (h : InvF T I J P x nn c Iz Jz z N)  : Pair l D E B Bz yX11_evening cX11_evening 1 4 0 0 yX12_evening cX12_evening 1 1 (some .int) [] T I J P x nn nz Tz Iz Jz Pz z N := by
  obtain ⟨hs, n, u, tn, LT, LP, d, na, v, hI, hM⟩ := h
  obtain ⟨r, I2, Iz2, e1, e2, e3⟩ := evening_call hI 
  refine ⟨.int r, Iz2, Jz, _, rfl, c_r_evening hz e2, c_x_evening hs.1 hI.2.1.1 hs.2.1 e1, fun o h hq => ?_⟩
  obtain ⟨rfl, rfl⟩ := hq
  refine ⟨rfl, c, ?_⟩
  exact fin_done hs hM e3
theorem p_judge (hz : isMd Tz Pz z) (hN : N < 600) (h : InvF T I J P x nn c Iz Jz z N) (a_ : Int32) (b_ : Int32) : Pair l D E B Bz yX11_judge cX11_judge 5 7 0 0 yX12_judge cX12_judge 7 8 (some .int) [.int a_, .int b_] T I J P x nn nz Tz Iz Jz Pz z N := by
  obtain ⟨hs, n, u, tn, LT, LP, d, na, v, hI, hM⟩ := h
  obtain ⟨r, I2, Iz2, e1, e2, e3⟩ := judge_call hI hN a_ b_
  refine ⟨.int r, Iz2, Jz, _, rfl, c_r_judge hz e2, c_x_judge hs.1 hI.2.1.1 hs.2.1 e1, fun o h hq => ?_⟩
  obtain ⟨rfl, rfl⟩ := hq
  refine ⟨rfl, c, ?_⟩
  exact fin_unq hs hI hM e3 (fun _ _ _ _ => rfl) ⟨hs.1, hs.2.1⟩
theorem p_stands (hz : isMd Tz Pz z) (hN : N < 600) (h : InvF T I J P x nn c Iz Jz z N) (a_ : Int32) (b_ : Int32) : Pair l D E B Bz yX11_stands cX11_stands 4 5 0 0 yX12_stands cX12_stands 5 7 (some .int) [.int a_, .int b_] T I J P x nn nz Tz Iz Jz Pz z N := by
  obtain ⟨hs, n, u, tn, LT, LP, d, na, v, hI, hM⟩ := h
  obtain ⟨r, I2, Iz2, e1, e2, e3⟩ := stands_call hI hN a_ b_
  refine ⟨.int r, Iz2, Jz, _, rfl, c_r_stands hz e2, c_x_stands hs.1 hI.2.1.1 hs.2.1 e1, fun o h hq => ?_⟩
  obtain ⟨rfl, rfl⟩ := hq
  refine ⟨rfl, c, ?_⟩
  exact fin_unq hs hI hM e3 (fun _ _ _ _ => rfl) ⟨hs.1, hs.2.1⟩
theorem p_place (hz : isMd Tz Pz z) (hN : N < 600) (h : InvF T I J P x nn c Iz Jz z N) (a_ : Int32) (b_ : Int32) : Pair l D E B Bz yX11_place cX11_place 4 5 0 0 yX12_place cX12_place 5 7 (some .int) [.int a_, .int b_] T I J P x nn nz Tz Iz Jz Pz z N := by
  obtain ⟨hs, n, u, tn, LT, LP, d, na, v, hI, hM⟩ := h
  obtain ⟨r, I2, Iz2, e1, e2, e3⟩ := place_call hI hN a_ b_
  refine ⟨.int r, Iz2, Jz, _, rfl, c_r_place hz e2, c_x_place hs.1 hI.2.1.1 hs.2.1 e1, fun o h hq => ?_⟩
  obtain ⟨rfl, rfl⟩ := hq
  refine ⟨rfl, c, ?_⟩
  exact fin_unq hs hI hM e3 (fun _ _ _ _ => rfl) ⟨hs.1, hs.2.1⟩
theorem p_breakfast (hz : isMd Tz Pz z) (hN : N < 600) (h : InvF T I J P x nn c Iz Jz z N) (a_ : Int32) : Pair l D E B Bz yX11_breakfast cX11_breakfast 3 5 0 0 yX12_breakfast cX12_breakfast 4 7 (some .int) [.int a_] T I J P x nn nz Tz Iz Jz Pz z N := by
  obtain ⟨hs, n, u, tn, LT, LP, d, na, v, hI, hM⟩ := h
  obtain ⟨r, I2, Iz2, e1, e2, e3⟩ := breakfast_call hI hN a_
  refine ⟨.int r, Iz2, Jz, _, rfl, c_r_breakfast hz e2, c_x_breakfast hs.1 hI.2.1.1 hs.2.1 e1, fun o h hq => ?_⟩
  obtain ⟨rfl, rfl⟩ := hq
  refine ⟨rfl, c, ?_⟩
  exact fin_unq hs hI hM e3 (fun _ _ _ _ => rfl) ⟨hs.1, hs.2.1⟩
theorem p_worth (hz : isMd Tz Pz z) (hN : N < 600) (h : InvF T I J P x nn c Iz Jz z N) (a_ : Int32) (b_ : Int32) : Pair l D E B Bz yX11_worth cX11_worth 4 5 0 0 yX12_worth cX12_worth 5 7 (some .int) [.int a_, .int b_] T I J P x nn nz Tz Iz Jz Pz z N := by
  obtain ⟨hs, n, u, tn, LT, LP, d, na, v, hI, hM⟩ := h
  obtain ⟨r, I2, Iz2, e1, e2, e3⟩ := worth_call hI hN a_ b_
  refine ⟨.int r, Iz2, Jz, _, rfl, c_r_worth hz e2, c_x_worth hs.1 hI.2.1.1 hs.2.1 e1, fun o h hq => ?_⟩
  obtain ⟨rfl, rfl⟩ := hq
  refine ⟨rfl, c, ?_⟩
  exact fin_unq hs hI hM e3 (fun _ _ _ _ => rfl) ⟨hs.1, hs.2.1⟩
theorem p_bestSit (hz : isMd Tz Pz z) (hN : N < 600) (h : InvF T I J P x nn c Iz Jz z N) (a_ : Int32) (b_ : Int32) : Pair l D E B Bz yX11_bestSit cX11_bestSit 8 5 0 0 yX12_bestSit cX12_bestSit 8 7 (some .int) [.int a_, .int b_] T I J P x nn nz Tz Iz Jz Pz z N := by
  obtain ⟨hs, n, u, tn, LT, LP, d, na, v, hI, hM⟩ := h
  obtain ⟨r, I2, Iz2, e1, e2, e3⟩ := bestSit_call hI hN a_ b_
  refine ⟨.int r, Iz2, Jz, _, rfl, c_r_bestSit hz e2, c_x_bestSit hs.1 hI.2.1.1 hs.2.1 e1, fun o h hq => ?_⟩
  obtain ⟨rfl, rfl⟩ := hq
  refine ⟨rfl, c, ?_⟩
  exact fin_unq hs hI hM e3 (fun _ _ _ _ => rfl) ⟨hs.1, hs.2.1⟩
theorem p_leans (hz : isMd Tz Pz z) (hN : N < 600) (h : InvF T I J P x nn c Iz Jz z N) (a_ : Int32) (b_ : Int32) : Pair l D E B Bz yX11_leans cX11_leans 7 5 0 0 yX12_leans cX12_leans 7 7 (some .int) [.int a_, .int b_] T I J P x nn nz Tz Iz Jz Pz z N := by
  obtain ⟨hs, n, u, tn, LT, LP, d, na, v, hI, hM⟩ := h
  obtain ⟨r, I2, Iz2, e1, e2, e3⟩ := leans_call hI hN a_ b_
  refine ⟨.int r, Iz2, Jz, _, rfl, c_r_leans hz e2, c_x_leans hs.1 hI.2.1.1 hs.2.1 e1, fun o h hq => ?_⟩
  obtain ⟨rfl, rfl⟩ := hq
  refine ⟨rfl, c, ?_⟩
  exact fin_unq hs hI hM e3 (fun _ _ _ _ => rfl) ⟨hs.1, hs.2.1⟩
theorem p_chairs (hz : isMd Tz Pz z) (hN : N < 600) (h : InvF T I J P x nn c Iz Jz z N) (a_ : Int32) (b_ : Int32) (w_ : Int32) : Pair l D E B Bz yX11_chairs cX11_chairs 6 7 0 0 yX12_chairs cX12_chairs 9 7 (some .int) [.int a_, .int b_, .int w_] T I J P x nn nz Tz Iz Jz Pz z N := by
  obtain ⟨hs, n, u, tn, LT, LP, d, na, v, hI, hM⟩ := h
  obtain ⟨r, I2, Iz2, e1, e2, e3⟩ := chairs_call hI hN a_ b_ w_
  refine ⟨.int r, Iz2, Jz, _, rfl, c_r_chairs hz e2, c_x_chairs hs.1 hI.2.1.1 hs.2.1 e1, fun o h hq => ?_⟩
  obtain ⟨rfl, rfl⟩ := hq
  refine ⟨rfl, c, ?_⟩
  exact fin_unq hs hI hM e3 (fun _ _ _ _ => rfl) ⟨hs.1, hs.2.1⟩
theorem p_rooms (hz : isMd Tz Pz z) (hN : N < 600) (h : InvF T I J P x nn c Iz Jz z N) (a_ : Int32) (b_ : Int32) (w_ : Int32) : Pair l D E B Bz yX11_rooms cX11_rooms 5 6 0 0 yX12_rooms cX12_rooms 5 8 (some .int) [.int a_, .int b_, .int w_] T I J P x nn nz Tz Iz Jz Pz z N := by
  obtain ⟨hs, n, u, tn, LT, LP, d, na, v, hI, hM⟩ := h
  obtain ⟨r, I2, Iz2, e1, e2, e3⟩ := rooms_call hs.1 hI hN a_ b_ w_
  refine ⟨.int r, Iz2, Jz, _, rfl, c_r_rooms hz e2, c_x_rooms hs.1 hI.2.1.1 hs.2.1 e1, fun o h hq => ?_⟩
  obtain ⟨rfl, rfl⟩ := hq
  refine ⟨rfl, c, ?_⟩
  exact fin_unq hs hI hM e3 (fun _ _ _ _ => rfl) ⟨hs.1, hs.2.1⟩
theorem p_bound (hz : isMd Tz Pz z) (hN : N < 600) (h : InvF T I J P x nn c Iz Jz z N) (a_ : Int32) (b_ : Int32) (w_ : Int32) (y_ : Int32) : Pair l D E B Bz yX11_bound cX11_bound 8 6 0 0 yX12_bound cX12_bound 8 8 (some .int) [.int a_, .int b_, .int w_, .int y_] T I J P x nn nz Tz Iz Jz Pz z N := by
  obtain ⟨hs, n, u, tn, LT, LP, d, na, v, hI, hM⟩ := h
  obtain ⟨r, I2, Iz2, e1, e2, e3⟩ := bound_call hs.1 hI hN a_ b_ w_ y_
  refine ⟨.int r, Iz2, Jz, _, rfl, c_r_bound hz e2, c_x_bound hs.1 hI.2.1.1 hs.2.1 e1, fun o h hq => ?_⟩
  obtain ⟨rfl, rfl⟩ := hq
  refine ⟨rfl, c, ?_⟩
  exact fin_unq hs hI hM e3 (fun _ _ _ _ => rfl) ⟨hs.1, hs.2.1⟩
theorem p_next (hz : isMd Tz Pz z) (hN : N < 600) (h : InvF T I J P x nn c Iz Jz z N) (a_ : Int32) (b_ : Int32) (w_ : Int32) : Pair l D E B Bz yX11_next cX11_next 11 6 0 0 yX12_next cX12_next 11 8 (some .int) [.int a_, .int b_, .int w_] T I J P x nn nz Tz Iz Jz Pz z N := by
  obtain ⟨hs, n, u, tn, LT, LP, d, na, v, hI, hM⟩ := h
  obtain ⟨r, I2, Iz2, e1, e2, e3⟩ := next_call hs.1 hI hN a_ b_ w_
  refine ⟨.int r, Iz2, Jz, _, rfl, c_r_next hz e2, c_x_next hs.1 hI.2.1.1 hs.2.1 e1, fun o h hq => ?_⟩
  obtain ⟨rfl, rfl⟩ := hq
  refine ⟨rfl, c, ?_⟩
  exact fin_unq hs hI hM e3 (fun _ _ _ _ => rfl) ⟨hs.1, hs.2.1⟩
theorem p_perform (hz : isMd Tz Pz z) (hN : N < 600) (h : InvF T I J P x nn c Iz Jz z N) (a_ : Int32) : Pair l D E B Bz yX11_perform cX11_perform 3 7 0 0 yX12_perform cX12_perform 4 8 (some .int) [.int a_] T I J P x nn nz Tz Iz Jz Pz z N := by
  obtain ⟨hs, n, u, tn, LT, LP, d, na, v, hI, hM⟩ := h
  obtain ⟨r, I2, Iz2, e1, e2, e3⟩ := perform_call hI hN a_
  refine ⟨.int r, Iz2, Jz, _, rfl, c_r_perform hz e2, c_x_perform hs.1 hI.2.1.1 hs.2.1 e1, fun o h hq => ?_⟩
  obtain ⟨rfl, rfl⟩ := hq
  refine ⟨rfl, c, ?_⟩
  rcases e3 with e3 | e3
  · exact fin_done hs hM e3
  · exact fin_unq hs hI hM e3 (fun _ _ _ _ => rfl) ⟨hs.1, hs.2.1⟩
theorem p_season (hz : isMd Tz Pz z) (hN : N < 600) (h : InvF T I J P x nn c Iz Jz z N) (a_ : Int32) (b_ : Int32) : Pair l D E B Bz yX11_season cX11_season 5 6 0 0 yX12_season cX12_season 6 7 (some .int) [.int a_, .int b_] T I J P x nn nz Tz Iz Jz Pz z N := by
  obtain ⟨hs, n, u, tn, LT, LP, d, na, v, hI, hM⟩ := h
  obtain ⟨r, I2, Iz2, e1, e2, e3⟩ := season_call hI hN a_ b_
  refine ⟨.int r, Iz2, Jz, _, rfl, c_r_season hz e2, c_x_season hs.1 hI.2.1.1 hs.2.1 e1, fun o h hq => ?_⟩
  obtain ⟨rfl, rfl⟩ := hq
  refine ⟨rfl, c, ?_⟩
  rcases e3 with e3 | e3
  · exact fin_done hs hM e3
  · exact fin_unq hs hI hM e3 (fun _ _ _ _ => rfl) ⟨hs.1, hs.2.1⟩
end
