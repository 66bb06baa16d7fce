/-! the law's switch, its loop -/
section
variable {p : Program} {l : Launch} {e : Env} {s : State} {m : MethodId} {below : List Frame} {meth : Method} {c : Code} {b L : Nat} {xs : Nat → Int32} {D : va_G} {E : Nat → ClassId} {cells slots k x z n N c0 : Nat} {T : Nat → Option (Nat × Nat)} {I : Nat → Nat → Int32} {J : Nat → Nat → Int64} {P : Nat → Nat → Option Nat} {Tz : Nat → Option (Nat × Nat)} {Iz : Nat → Nat → Int32} {Jz : Nat → Nat → Int64} {Pz : Nat → Nat → Option Nat}
theorem six3 (y : Int32) : ∃ v : Nat, v < 64 ∧ (y &&& 63) = nI v := by
  refine ⟨(y &&& 63).toBitVec.toNat, ?_, ?_⟩
  · have : (y &&& 63).toBitVec.toNat = y.toBitVec.toNat &&& 63 := by
      rw [Int32.toBitVec_and, BitVec.toNat_and]
      rfl
    rw [this]
    have := Nat.and_le_right (n := y.toBitVec.toNat) (m := 63)
    omega
  · apply Int32.toBitVec_inj.mp
    show _ = BitVec.ofNat 32 _
    rw [BitVec.ofNat_toNat, BitVec.setWidth_eq]
theorem sub6 {L k : Nat} (hL : L ≤ 3072) (hk : k ≤ 3100) : (Int32.ofNat L - 6 < nI k) ↔ L < k + 6 := by
  rw [Int32.lt_iff_toInt_lt, Int32.toInt_sub, show (Int32.ofNat L).toInt = (L : Int) from nI_toInt (by omega), nI_toInt (by omega), show (6 : Int32).toInt = 6 from rfl, Int.bmod_eq_of_le (by omega) (by omega)]
  omega
theorem law_switch (X : LE p s m meth c b L xs D E) (hL : L ≤ 3072) (hsz : s.heap.size ≤ z) (hz : isMd Tz Pz z) (hF : InvF T I J P x n c0 Iz Jz z N) (hN : N < 512) (hn : z + 21 ≤ n) (hc : cells ≤ 245 + 908 * N) (hs : slots ≤ 13400 + 1012 * N) (hk : k + 5 < L) (nx : LNx p l e s m below meth c b D E x z Tz Pz k N) {v : Nat} (hv : v < 64) : LW p l e s m below meth c b D E x z cells slots (n, T, I, J, P) (n, Tz, Iz, Jz, Pz) k 33 [.int (nI v)] := by
  intro H ls hS hP hz' hl
  have hx := X.1.1
  have hb := X.1.2.1
  by_cases h43 : v < 43
  · have h1 : ¬ (nI v).toInt < 0 := by rw [nI_toInt (by omega)]; omega
    have h2 : ¬ (42 : Int) < (nI v).toInt := by rw [nI_toInt (by omega)]; omega
    have h3 : ((nI v).toInt - 0).toNat = v := by rw [nI_toInt (by omega)]; omega
    match v, h43 with
    | 0, _ => exact lv_tableIn (off := 187) (tgt := 220) hx hb dl_33 h1 h2 (by rw [h3]; rfl) (by decide) (lc_0 X hL hsz hz hF hN hn hc hs hk nx H ls hS hP hz' hl)
    | 1, _ => exact lv_tableIn (off := 250) (tgt := 283) hx hb dl_33 h1 h2 (by rw [h3]; rfl) (by decide) (lc_1 X hL hsz hz hF hN hn hc hs hk nx H ls hS hP hz' hl)
    | 2, _ => exact lv_tableIn (off := 273) (tgt := 306) hx hb dl_33 h1 h2 (by rw [h3]; rfl) (by decide) (lc_2 X hL hsz hz hF hN hn hc hs hk nx H ls hS hP hz' hl)
    | 3, _ => exact lv_tableIn (off := 296) (tgt := 329) hx hb dl_33 h1 h2 (by rw [h3]; rfl) (by decide) (lc_3 X hL hsz hz hF hN hn hc hs hk nx H ls hS hP hz' hl)
    | 4, _ => exact lv_tableIn (off := 329) (tgt := 362) hx hb dl_33 h1 h2 (by rw [h3]; rfl) (by decide) (lc_4 X hL hsz hz hF hN hn hc hs hk nx H ls hS hP hz' hl)
    | 5, _ => exact lv_tableIn (off := 362) (tgt := 395) hx hb dl_33 h1 h2 (by rw [h3]; rfl) (by decide) (lc_5 X hL hsz hz hF hN hn hc hs hk nx H ls hS hP hz' hl)
    | 6, _ => exact lv_tableIn (off := 385) (tgt := 418) hx hb dl_33 h1 h2 (by rw [h3]; rfl) (by decide) (lc_6 X hL hsz hz hF hN hn hc hs hk nx H ls hS hP hz' hl)
    | 7, _ => exact lv_tableIn (off := 408) (tgt := 441) hx hb dl_33 h1 h2 (by rw [h3]; rfl) (by decide) (lc_7 X hL hsz hz hF hN hn hc hs hk nx H ls hS hP hz' hl)
    | 8, _ => exact lv_tableIn (off := 431) (tgt := 464) hx hb dl_33 h1 h2 (by rw [h3]; rfl) (by decide) (lc_8 X hL hsz hz hF hN hn hc hs hk nx H ls hS hP hz' hl)
    | 9, _ => exact lv_tableIn (off := 454) (tgt := 487) hx hb dl_33 h1 h2 (by rw [h3]; rfl) (by decide) (lc_9 X hL hsz hz hF hN hn hc hs hk nx H ls hS hP hz' hl)
    | 10, _ => exact lv_tableIn (off := 487) (tgt := 520) hx hb dl_33 h1 h2 (by rw [h3]; rfl) (by decide) (lc_10 X hL hsz hz hF hN hn hc hs hk nx H ls hS hP hz' hl)
    | 11, _ => exact lv_tableIn (off := 520) (tgt := 553) hx hb dl_33 h1 h2 (by rw [h3]; rfl) (by decide) (lc_11 X hL hsz hz hF hN hn hc hs hk nx H ls hS hP hz' hl)
    | 12, _ => exact lv_tableIn (off := 533) (tgt := 566) hx hb dl_33 h1 h2 (by rw [h3]; rfl) (by decide) (lc_12 X hL hsz hz hF hN hn hc hs hk nx H ls hS hP hz' hl)
    | 13, _ => exact lv_tableIn (off := 556) (tgt := 589) hx hb dl_33 h1 h2 (by rw [h3]; rfl) (by decide) (lc_13 X hL hsz hz hF hN hn hc hs hk nx H ls hS hP hz' hl)
    | 14, _ => exact lv_tableIn (off := 589) (tgt := 622) hx hb dl_33 h1 h2 (by rw [h3]; rfl) (by decide) (lc_14 X hL hsz hz hF hN hn hc hs hk nx H ls hS hP hz' hl)
    | 15, _ => exact lv_tableIn (off := 612) (tgt := 645) hx hb dl_33 h1 h2 (by rw [h3]; rfl) (by decide) (lc_15 X hL hsz hz hF hN hn hc hs hk nx H ls hS hP hz' hl)
    | 16, _ => exact lv_tableIn (off := 645) (tgt := 678) hx hb dl_33 h1 h2 (by rw [h3]; rfl) (by decide) (lc_16 X hL hsz hz hF hN hn hc hs hk nx H ls hS hP hz' hl)
    | 17, _ => exact lv_tableIn (off := 678) (tgt := 711) hx hb dl_33 h1 h2 (by rw [h3]; rfl) (by decide) (lc_17 X hL hsz hz hF hN hn hc hs hk nx H ls hS hP hz' hl)
    | 18, _ => exact lv_tableIn (off := 711) (tgt := 744) hx hb dl_33 h1 h2 (by rw [h3]; rfl) (by decide) (lc_18 X hL hsz hz hF hN hn hc hs hk nx H ls hS hP hz' hl)
    | 19, _ => exact lv_tableIn (off := 734) (tgt := 767) hx hb dl_33 h1 h2 (by rw [h3]; rfl) (by decide) (lc_19 X hL hsz hz hF hN hn hc hs hk nx H ls hS hP hz' hl)
    | 20, _ => exact lv_tableIn (off := 767) (tgt := 800) hx hb dl_33 h1 h2 (by rw [h3]; rfl) (by decide) (lc_20 X hL hsz hz hF hN hn hc hs hk nx H ls hS hP hz' hl)
    | 21, _ => exact lv_tableIn (off := 800) (tgt := 833) hx hb dl_33 h1 h2 (by rw [h3]; rfl) (by decide) (lc_21 X hL hsz hz hF hN hn hc hs hk nx H ls hS hP hz' hl)
    | 22, _ => exact lv_tableIn (off := 823) (tgt := 856) hx hb dl_33 h1 h2 (by rw [h3]; rfl) (by decide) (lc_22 X hL hsz hz hF hN hn hc hs hk nx H ls hS hP hz' hl)
    | 23, _ => exact lv_tableIn (off := 856) (tgt := 889) hx hb dl_33 h1 h2 (by rw [h3]; rfl) (by decide) (lc_23 X hL hsz hz hF hN hn hc hs hk nx H ls hS hP hz' hl)
    | 24, _ => exact lv_tableIn (off := 889) (tgt := 922) hx hb dl_33 h1 h2 (by rw [h3]; rfl) (by decide) (lc_24 X hL hsz hz hF hN hn hc hs hk nx H ls hS hP hz' hl)
    | 25, _ => exact lv_tableIn (off := 912) (tgt := 945) hx hb dl_33 h1 h2 (by rw [h3]; rfl) (by decide) (lc_25 X hL hsz hz hF hN hn hc hs hk nx H ls hS hP hz' hl)
    | 26, _ => exact lv_tableIn (off := 945) (tgt := 978) hx hb dl_33 h1 h2 (by rw [h3]; rfl) (by decide) (lc_26 X hL hsz hz hF hN hn hc hs hk nx H ls hS hP hz' hl)
    | 27, _ => exact lv_tableIn (off := 978) (tgt := 1011) hx hb dl_33 h1 h2 (by rw [h3]; rfl) (by decide) (lc_27 X hL hsz hz hF hN hn hc hs hk nx H ls hS hP hz' hl)
    | 28, _ => exact lv_tableIn (off := 1021) (tgt := 1054) hx hb dl_33 h1 h2 (by rw [h3]; rfl) (by decide) (lc_28 X hL hsz hz hF hN hn hc hs hk nx H ls hS hP hz' hl)
    | 29, _ => exact lv_tableIn (off := 1054) (tgt := 1087) hx hb dl_33 h1 h2 (by rw [h3]; rfl) (by decide) (lc_29 X hL hsz hz hF hN hn hc hs hk nx H ls hS hP hz' hl)
    | 30, _ => exact lv_tableIn (off := 1097) (tgt := 1130) hx hb dl_33 h1 h2 (by rw [h3]; rfl) (by decide) (lc_30 X hL hsz hz hF hN hn hc hs hk nx H ls hS hP hz' hl)
    | 31, _ => exact lv_tableIn (off := 1140) (tgt := 1173) hx hb dl_33 h1 h2 (by rw [h3]; rfl) (by decide) (lc_31 X hL hsz hz hF hN hn hc hs hk nx H ls hS hP hz' hl)
    | 32, _ => exact lv_tableIn (off := 1193) (tgt := 1226) hx hb dl_33 h1 h2 (by rw [h3]; rfl) (by decide) (lc_32 X hL hsz hz hF hN hn hc hs hk nx H ls hS hP hz' hl)
    | 33, _ => exact lv_tableIn (off := 1236) (tgt := 1269) hx hb dl_33 h1 h2 (by rw [h3]; rfl) (by decide) (lc_33 X hL hsz hz hF hN hn hc hs hk nx H ls hS hP hz' hl)
    | 34, _ => exact lv_tableIn (off := 1289) (tgt := 1322) hx hb dl_33 h1 h2 (by rw [h3]; rfl) (by decide) (lc_34 X hL hsz hz hF hN hn hc hs hk nx H ls hS hP hz' hl)
    | 35, _ => exact lv_tableIn (off := 1352) (tgt := 1385) hx hb dl_33 h1 h2 (by rw [h3]; rfl) (by decide) (lc_35 X hL hsz hz hF hN hn hc hs hk nx H ls hS hP hz' hl)
    | 36, _ => exact lv_tableIn (off := 1396) (tgt := 1429) hx hb dl_33 h1 h2 (by rw [h3]; rfl) (by decide) (lc_36 X hL hsz hz hF hN hn hc hs hk nx H ls hS hP hz' hl)
    | 37, _ => exact lv_tableIn (off := 1419) (tgt := 1452) hx hb dl_33 h1 h2 (by rw [h3]; rfl) (by decide) (lc_37 X hL hsz hz hF hN hn hc hs hk nx H ls hS hP hz' hl)
    | 38, _ => exact lv_tableIn (off := 1462) (tgt := 1495) hx hb dl_33 h1 h2 (by rw [h3]; rfl) (by decide) (lc_38 X hL hsz hz hF hN hn hc hs hk nx H ls hS hP hz' hl)
    | 39, _ => exact lv_tableIn (off := 1536) (tgt := 1569) hx hb dl_33 h1 h2 (by rw [h3]; rfl) (by decide) (lc_39 X hL hsz hz hF hN hn hc hs hk nx H ls hS hP hz' hl)
    | 40, _ => exact lv_tableIn (off := 1569) (tgt := 1602) hx hb dl_33 h1 h2 (by rw [h3]; rfl) (by decide) (lc_40 X hL hsz hz hF hN hn hc hs hk nx H ls hS hP hz' hl)
    | 41, _ => exact lv_tableIn (off := 1592) (tgt := 1625) hx hb dl_33 h1 h2 (by rw [h3]; rfl) (by decide) (lc_41 X hL hsz hz hF hN hn hc hs hk nx H ls hS hP hz' hl)
    | 42, _ => exact lv_tableIn (off := 1615) (tgt := 1648) hx hb dl_33 h1 h2 (by rw [h3]; rfl) (by decide) (lc_42 X hL hsz hz hF hN hn hc hs hk nx H ls hS hP hz' hl)
    | w + 43, hw => exact absurd hw (by omega)
  · refine lv_tableOut (tgt := 1671) hx hb dl_33 (Or.inr (by rw [nI_toInt (by omega)]; omega)) (by decide) ?_
    obtain ⟨hs1, n1, u, tn, LT, LP, d, na, w, hI, hM⟩ := hF
    exact nx _ _ n c0 T I J P Iz Jz ⟨hs1, n1, u, tn, LT, LP, d, na, w, hI.nxt, hM⟩ hn (by omega) (by omega) H ls hS hP hz' hl
theorem law_loop (X : LE p s m meth c b L xs D E) (hL : L ≤ 3072) (hsz : s.heap.size ≤ z) (hz : isMd Tz Pz z) : ∀ (M N cells slots n c0 : Nat) (T : Nat → Option (Nat × Nat)) (I : Nat → Nat → Int32) (J : Nat → Nat → Int64) (P : Nat → Nat → Option Nat) (Iz : Nat → Nat → Int32) (Jz : Nat → Nat → Int64), L < 6 * (N + M) + 6 → N ≤ 512 → InvF T I J P x n c0 Iz Jz z N → z + 21 ≤ n → cells ≤ 245 + 908 * N → slots ≤ 13400 + 1012 * N → LW p l e s m below meth c b D E x z cells slots (n, T, I, J, P) (n, Tz, Iz, Jz, Pz) (6 * N) 18 [] := by
  obtain ⟨hx, hb, hr, hml, hown, hts0, hX, hbl, hlocks, hgv⟩ := id X.1
  intro M
  induction M with
  | zero =>
    intro N cells slots n c0 T I J P Iz Jz hM hN hF hn hc hs H ls hS hP hz' hl
    refine lv_iload_n hx hb dl_18 rfl (lv_at hl 3 rfl) ?_
    refine lv_aload_n hx hb dl_19 rfl (lv_at hl 0 rfl) ?_
    refine va_slen (A := fun q => s.heap.size ≤ q) hx hb hX hbl (Nat.not_le.mpr hbl) hS dl_20 ?_
    refine lv_bipush (v := 6) hx hb dl_21 (by decide) ?_
    refine lv_isub hx hb dl_23 ?_
    refine lv_icmp_gt (tgt := 1677) hx hb dl_24 (by decide) (fun _ => ?_) (fun cc => absurd ((sub6 hL (by omega)).mpr (by omega)) cc)
    refine lv_iconst (v := 1) hx hb dl_1677 (by decide) ?_
    refine W.widen (k := 600000) (n := 7302250) (by omega) (by omega) ?_
    exact lw_ret hx hb hr hlocks dl_1678
  | succ M ih =>
    intro N cells slots n c0 T I J P Iz Jz hM hN hF hn hc hs H ls hS hP hz' hl
    refine lv_iload_n hx hb dl_18 rfl (lv_at hl 3 rfl) ?_
    refine lv_aload_n hx hb dl_19 rfl (lv_at hl 0 rfl) ?_
    refine va_slen (A := fun q => s.heap.size ≤ q) hx hb hX hbl (Nat.not_le.mpr hbl) hS dl_20 ?_
    refine lv_bipush (v := 6) hx hb dl_21 (by decide) ?_
    refine lv_isub hx hb dl_23 ?_
    refine lv_icmp_gt (tgt := 1677) hx hb dl_24 (by decide) (fun _ => ?_) (fun cc => ?_)
    · refine lv_iconst (v := 1) hx hb dl_1677 (by decide) ?_
      refine W.widen (k := 600000) (n := 7302250) (by omega) (by omega) ?_
      exact lw_ret hx hb hr hlocks dl_1678
    · have hk : 6 * N + 5 < L := by
        have h6 : ¬ L < 6 * N + 6 := fun h => cc ((sub6 hL (by omega)).mpr h)
        omega
      refine lv_aload_n hx hb dl_27 rfl (lv_at hl 0 rfl) ?_
      refine lv_iload_n hx hb dl_28 rfl (lv_at hl 3 rfl) ?_
      refine va_sld (i := nI (6 * N)) (A := fun q => s.heap.size ≤ q) hx hb hX hbl (Nat.not_le.mpr hbl) hS (vp_in_nI (by omega) (by omega)) dl_29 ?_
      refine lv_bipush (v := 63) hx hb dl_30 (by decide) ?_
      refine lv_iand hx hb dl_32 ?_
      obtain ⟨v, hv, e⟩ := six3 (xs (nI (6 * N)).toNatClampNeg)
      rw [e]
      refine law_switch X hL hsz hz hF (by omega) hn hc hs hk ?_ hv H ls hS hP hz' hl
      intro cells' slots' n' c' T' I' J' P' Iz' Jz' hF' hn' hc' hs' H ls hS hP hz' hl
      refine lv_iinc (v := nI (6 * (N + 1))) (lv' := [(3, .int (nI (6 * (N + 1)))), (0, .ref b), (1, .ref x), (2, .ref z)]) hx hb dl_1671 hl (k := 3) rfl (by rw [show Int32.ofInt 6 = nI 6 from rfl, nI_add]; rfl) (by decide) rfl (fun ls hl => ?_)
      refine lv_goto (tgt := 18) hx hb dl_1674 (by decide) ?_
      exact ih (N + 1) cells' slots' n' c' T' I' J' P' Iz' Jz' (by omega) (by omega) hF' hn' hc' hs' H ls hS hP hz' (lv_sub hl [1, 2, 3, 0] rfl)
end
