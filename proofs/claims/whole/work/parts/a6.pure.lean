/-! the law from its entry: the two are made -/
section
variable {p : Program} {l : Launch} {e : Env} {s : State} {m : MethodId} {below : List Frame} {meth : Method} {c : Code} {b L : Nat} {xs : Nat → Int32} {D : va_G} {E : Nat → ClassId} {cells slots pc k x z n N c0 : Nat} {B : Nat → Prop} {H : Heap} {ls : Array Slot} {st rest : List Value} {T : Nat → Option (Nat × Nat)} {I : Nat → Nat → Int32} {J : Nat → Nat → Int64} {P : Nat → Nat → Option Nat} {Tz : Nat → Option (Nat × Nat)} {Iz : Nat → Nat → Int32} {Jz : Nat → Nat → Int64} {Pz : Nat → Nat → Option Nat}
theorem law_new {idx ci NN : Nat} {Qs : State → Prop} (X : LE p s m meth c b L xs D E) (F : NL RL idx ci NN) (hd : decode code pc = .ok (.new idx, 3)) (hci : ci < 20) (hc : cells + 1 ≤ 600000) (hs : slots + NN ≤ 7302250) (hBn : B n) (hP : PIC D E B (n, T, I, J, P) H)
    (kk : ∀ H1 : Heap, PIC D E B (n + 1, va_up T n (some (ci, 0)), zI I n, zJ J n, zP P n) H1 → (∀ q, q < n → H1[q]? = H[q]?) → W p l e room_1 s m #[Value.ref b] below meth c H1 [] (cells + 1) (slots + NN) Qs (F0 m (pc + 3) ls (.ref n :: st))) : W p l e room_1 s m #[Value.ref b] below meth c H [] cells slots Qs (F0 m pc ls st) := by
  obtain ⟨C, Tt, ty0, ⟨f1, f2, f3, f4⟩, w1, w2, w3, hdf⟩ := F
  have hts := law_tbl X
  have hKn := X.2.1.1 ci _ f1
  have hsz : H.size = n := hP.1
  refine W.newcK X.1.1 X.1.2.1 (own := RL) X.1.2.2.2.2.1 (hts _ w1) (hts _ w2) (hts _ w3) rfl hd hc hs hKn.2.1 hsz fun H1 kC hkC e1 z1 o1 => ?_
  refine kk H1 (hP.push hBn z1 o1 (fun q h => va_up_ne _ _ h) (fun q h => va_up_ne _ _ h) (fun q h => va_up_ne _ _ h) ?_) o1
  rw [cel_obj hci]
  refine ⟨_, f1, (u_born ty0 hts f2 hKn hkC e1 f3).to ?_⟩
  intro j hj
  rw [hdf j hj]
  unfold zI zJ zP
  rw [va_up_self, va_up_self, va_up_self]
theorem law_ini {idx bb nL2 d2 mc2 ms2 : Nat} {y2 : MethodName} {cc2 : ByteArray} {Q2 : Option Value → HT → Prop} {Qs : State → Prop} (X : LE p s m meth c b L xs D E) (hB : ∀ q, B q → s.heap.size ≤ q) (hBn : ∀ q, H.size ≤ q → B q) (F : CN RL idx y2 cc2 nL2 0) (hM : Ct l D E B y2 cc2 nL2 none d2 mc2 ms2 [.ref bb] (n, T, I, J, P) Q2) (hd : decode code pc = .ok (.invokespecial idx, 3)) (hW : (rest.map fun v => v.category).sum ≤ 8) (hdd : d2 ≤ 300) (hn : nL2 ≤ 40) (hc : cells + mc2 ≤ 600000) (hs : slots + ms2 ≤ 7302250) (hl : ls.size = 4) (hP : PIC D E B (n, T, I, J, P) H) (hS : va_S (fun q => s.heap.size ≤ q) s.heap H [])
    (kk : ∀ (v : Option Value) (h' : HT) (H1 : Heap), Q2 v h' → PIC D E B h' H1 → va_S (fun q => s.heap.size ≤ q) s.heap H1 [] → H.size ≤ H1.size → (∀ q, q < H.size → ¬ B q → H1[q]? = H[q]?) → W p l e room_1 s m #[Value.ref b] below meth c H1 [] (cells + mc2) (slots + ms2) Qs (F0 m (pc + 3) ls (v.toList ++ rest))) : W p l e room_1 s m #[Value.ref b] below meth c H [] cells slots Qs (F0 m pc ls (.ref bb :: rest)) := by
  obtain ⟨w1, w2, w4, w5, n1, n2, n3, n4⟩ := F
  obtain ⟨hx, hb, hr, hml, hown, hts0, hX, hbl, hlocks, hgv⟩ := id X.1
  have hts := law_tbl X
  have hK := X.2.1
  have hNW := X.2.2 B hB
  have hroom : (rm d2 mc2 ms2).frames + 1 ≤ room_1.frames ∧ 8 + (nL2 + 11) + (rm d2 mc2 ms2).locals ≤ room_1.locals := ⟨by show d2 + 1 ≤ 2048; omega, by show 8 + (nL2 + 11) + 64 * d2 ≤ 84000; omega⟩
  have go : va_Run p l e room_1 s m #[Value.ref b] below meth c H [] cells slots mc2 ms2 (F0 m pc ls (.ref bb :: rest)) rest (QQ D E B Q2 (Value.ref bb :: []).toArray) B := by
    rcases w1 with w1 | ⟨host, w1⟩
    · exact va_runI (As := []) (rest := rest) ⟨hx, hb, hml, hown, hts⟩ hM (cwI 0 hts (good_code w5) rfl rfl rfl (hts _ w4) (hts _ w1) (hts _ w2) n4 ⟨n1, n2, n3⟩ hroom) ⟨blind, law_pre hP hK hNW hBn hS⟩ rfl rfl hl rfl (by show 2 * 0 + _ ≤ 8; omega) hd ⟨hc, hs⟩
    · exact va_runIN (As := []) (rest := rest) ⟨hx, hb, hml, hown, hts⟩ hM ⟨va_cnB 0 hts (good_code w5) rfl rfl rfl (hNW.1 _ w1 rfl) (hts _ w4) ⟨n1, n2, n3⟩ hroom, n4, hts _ w2⟩ ⟨blind, law_pre hP hK hNW hBn hS⟩ rfl rfl hl rfl (by show 2 * 0 + _ ≤ 8; omega) hd ⟨hc, hs⟩
  exact law_run go hB hS kk
end
set_option maxHeartbeats 1000000 in
theorem law_start {p : Program} {e : Env} {s : State} {m : MethodId} {below : List Frame} {meth : Method} {c : Code} (l : Launch) {b L : Nat} {xs : Nat → Int32} (hL : L ≤ 3072) (C0 : lw_At p s m meth c b L xs) : W p l e room_1 s m #[Value.ref b] below meth c s.heap [] 0 0 (lw_Z below #[Value.ref b] s) (entryFrame m ([Value.ref b] : List Value).toArray 4) := by
  obtain ⟨D, E, hK, hNW⟩ := start_env C0
  have X : LE p s m meth c b L xs D E := ⟨C0, hK, hNW⟩
  obtain ⟨hx, hb, hr, hml, hown, hts0, hX, hbl, hlocks, hgv⟩ := id C0
  have hl := lv_entry ([.ref b]) (n := 4) (Nat.le_of_ble_eq_true rfl)
  rw [lg_entry_eq]
  generalize (lg_sl ([.ref b]) ++ List.replicate (4 - (lg_sl ([.ref b])).length) Slot.unset).toArray = ls at hl ⊢
  have hl : lv_has ls 4 [(0, .ref b)] := hl
  obtain ⟨x, hxx⟩ : ∃ x, s.heap.size = x := ⟨_, rfl⟩
  have hS0 : va_S (fun q => s.heap.size ≤ q) s.heap s.heap [] := va_S.rf
  have hP0 : PIC D E (fun q => s.heap.size ≤ q) (x, fun _ => none, fun _ _ => 0, fun _ _ => 0, fun _ _ => none) s.heap := ⟨hxx, fun a sh h => by cases h⟩
  refine law_new X nl_L_7 dl_0 (by decide) (by omega) (by omega) (by show s.heap.size ≤ x; omega) hP0 fun H1 hP1 o1 => ?_
  refine lv_dup hx hb dl_3 rfl ?_
  have hs1 : H1.size = x + 1 := hP1.1
  have hS1 : va_S (fun q => s.heap.size ≤ q) s.heap H1 [] := ⟨by omega, fun q h1 h2 => o1 q (by omega), fun _ h => by cases h⟩
  refine law_ini X (fun q hq => hq) (fun q hq => by show s.heap.size ≤ q; omega) cn_L_9 (k_X11 (Gb.born 11 0 rfl)) dl_4 (by show (1 + 0 : Nat) ≤ 8; omega) (by decide) (by decide) (by omega) (by omega) hl.1 hP1 hS1 fun v h' H2 hq hP2 hS2 hle2 hk2 => ?_
  obtain ⟨rfl, g⟩ := hq
  obtain ⟨z, T, I, J, P⟩ := h'
  have hzz : z = x + 224 := g.1
  have hs2 : H2.size = z := hP2.1
  refine lv_astore_n (lv' := [(1, .ref x), (0, .ref b)]) hx hb dl_7 rfl hl (by decide) rfl (fun ls hl => ?_)
  have hPz : PIC D E (fun q => z ≤ q) (z, fun _ => none, fun _ _ => 0, fun _ _ => 0, fun _ _ => none) H2 := ⟨hs2, fun a sh h => by cases h⟩
  refine law_new X nl_L_10 dl_8 (by decide) (by omega) (by omega) (by show z ≤ z; omega) hPz fun H3 hP3 o3 => ?_
  refine lv_dup hx hb dl_11 rfl ?_
  have hs3 : H3.size = z + 1 := hP3.1
  have hS3 : va_S (fun q => s.heap.size ≤ q) s.heap H3 [] := ⟨by omega, fun q h1 h2 => (o3 q (by omega)).trans (hS2.2.1 q h1 h2), fun _ h => by cases h⟩
  refine law_ini (B := fun q => z ≤ q) X (fun q hq => by have hq : z ≤ q := hq; omega) (fun q hq => by show z ≤ q; omega) cn_L_12 (k_X12 (Gb.born 12 0 rfl)) dl_12 (by show (1 + 0 : Nat) ≤ 8; omega) (by decide) (by decide) (by omega) (by omega) hl.1 hP3 hS3 fun v h' H4 hq hP4 hS4 hle4 hk4 => ?_
  obtain ⟨rfl, gz⟩ := hq
  obtain ⟨n4, Tz, Iz, Jz, Pz⟩ := h'
  have hn4 : n4 = z + 21 := gz.1
  subst hn4
  have hs4 : H4.size = z + 21 := hP4.1
  refine lv_astore_n (lv' := [(2, .ref z), (1, .ref x), (0, .ref b)]) hx hb dl_15 rfl hl (by decide) rfl (fun ls hl => ?_)
  refine lv_iconst (v := nI 0) hx hb dl_16 (by decide) ?_
  refine lv_istore_n (lv' := [(3, .int (nI 0)), (2, .ref z), (1, .ref x), (0, .ref b)]) hx hb dl_17 rfl hl (by decide) rfl (fun ls hl => ?_)
  have hF := first_inv (nn := z + 21) g gz (by omega)
  refine law_loop X hL (by omega) (md_cut (md_new gz) (Nat.le_refl _)) 512 0 _ _ (z + 21) (x + 4) _ I J P Iz Jz (by omega) (by omega) hF (Nat.le_refl _) (by omega) (by omega) H4 ls hS4 ⟨hs4, fun a sh h => ?_⟩ ⟨hs4, fun a sh h => ?_⟩ (lv_sub hl [3, 2, 1, 0] rfl)
  · have h : cutT T (z + 21) a = some sh := h
    have hT : T a = some sh := cut_tx a sh h
    obtain ⟨q1, q2⟩ := hP2.2 a sh hT
    have q1 : s.heap.size ≤ a := q1
    have ha : a < z := by have := q2.lt; have this : a < H2.size := this; omega
    exact ⟨⟨q1, fun hc => by omega⟩, q2.kept ((hk4 a (by omega) (fun hc => by have hc : z ≤ a := hc; omega)).trans (o3 a ha))⟩
  · have h : cutT Tz (z + 21) a = some sh := h
    have hlt : a < z + 21 := cut_lt a sh h
    obtain ⟨q1, q2⟩ := hP4.2 a sh (cut_tx a sh h)
    exact ⟨⟨q1, hlt⟩, q2⟩
