/-! THE PURE PART. Small numbers, bits of a set of at most six -/
theorem lit_nI (k : Nat) : (OfNat.ofNat k : Int32) = nI (OfNat.ofNat k) := rfl
theorem chk_nI {α : Type} {k N : Nat} {b : Option α} (h : k < N) (hN : N < 2147483648) : chk (nI k) N b = b := chk_in (vp_in_nI h hN)
theorem nI_cl {n : Nat} (h : n < 2147483648) : (nI n).toNatClampNeg = n := nI_clamp h
theorem nI_LE {a b : Nat} (ha : a < 2147483648) (hb : b < 2147483648) : (nI a ≤ nI b) = (a ≤ b) := propext (nI_leI ha hb)
theorem nI_LT {a b : Nat} (ha : a < 2147483648) (hb : b < 2147483648) : (nI a < nI b) = (a < b) := propext (nI_ltI ha hb)
theorem nI_EQ {a b : Nat} (ha : a < 2147483648) (hb : b < 2147483648) : (nI a = nI b) = (a = b) := propext (nI_eq ha hb)
theorem nI_SB {a b : Nat} (h : b ≤ a) : nI a - nI b = nI (a - b) := pk_sub h
theorem uI_get (I : Nat → Nat → Int32) (a k q j : Nat) (v : Int32) : uI I a k v q j = if q = a ∧ j = k then v else I q j := by
  unfold uI
  by_cases h : q = a
  · by_cases h2 : j = k <;> simp [h, h2, upd]
  · simp [h]
theorem uI_row (I : Nat → Nat → Int32) (a k q : Nat) (v : Int32) (h : q ≠ a) : uI I a k v q = I q := uI_n I k v h
theorem uI_e (I : Nat → Nat → Int32) (a k : Nat) (v : Int32) : uI I a k v a k = v := by rw [uI_s]; exact pk_us
theorem uI_o (I : Nat → Nat → Int32) (a k q j : Nat) (v : Int32) (h : q ≠ a) : uI I a k v q j = I q j := by rw [uI_n _ _ _ h]
theorem uI_k (I : Nat → Nat → Int32) (a k j : Nat) (v : Int32) (h : j ≠ k) : uI I a k v a j = I a j := by rw [uI_s]; exact pk_un h
/-- bit p of a set -/
def ub (u p : Nat) : Bool := u.testBit p
def clr (u p : Nat) : Nat := if u.testBit p then u - 2 ^ p else u
def pcn (u : Nat) : Nat := (if u.testBit 0 then 1 else 0) + (if u.testBit 1 then 1 else 0) + (if u.testBit 2 then 1 else 0) + (if u.testBit 3 then 1 else 0) + (if u.testBit 4 then 1 else 0) + (if u.testBit 5 then 1 else 0)
def b2 (b : Bool) : Int32 := if b then 1 else 0
theorem b2_t : b2 true = 1 := rfl
theorem b2_f : b2 false = 0 := rfl
theorem b2_n0 (b : Bool) : (b2 b = nI 0) = (b = false) := by cases b <;> simp [b2, nI] <;> decide
theorem b2_0 (b : Bool) : (b2 b = 0) = (b = false) := by cases b <;> simp [b2]
theorem isUp_tab : ∀ u, u < 64 → ∀ p, p < 6 → (if (((nI u) >>> (nI p &&& 31)) &&& 1) = 0 then (0 : Int32) else 1) = b2 (ub u p) := by decide +kernel
theorem isIn_tab : ∀ u, u < 64 → ∀ p, p < 6 → r_isIn (Int32.toInt64 (nI u)) (nI p) = b2 (ub u p) := by decide +kernel
theorem clr_tab : ∀ u, u < 64 → ∀ p, p < 6 → (nI u &&& ((1 <<< (nI p &&& 31)) ^^^ (-1))) = nI (clr u p) := by decide +kernel
theorem bit_tab : ∀ p, p < 6 → (1 : Int32) <<< (nI p &&& 31) = nI (2 ^ p) := by decide +kernel
theorem full_tab : ∀ n, n < 7 → ((1 : Int32) <<< (nI n &&& 31)) - 1 = nI (2 ^ n - 1) := by decide +kernel
theorem bitCount_tab : ∀ u, u < 64 → bitCount (nI u) = nI (pcn u) := by decide +kernel
theorem bitsOf_tab : ∀ u, u < 64 → r_bitsOf 2000 (nI u) = some (nI (pcn u)) := by decide +kernel
theorem clr_ub : ∀ u, u < 64 → ∀ p, p < 6 → ∀ q, q < 6 → ub (clr u p) q = (ub u q && !(p == q)) := by decide +kernel
theorem clr_lt : ∀ u, u < 64 → ∀ p, p < 6 → clr u p < 64 := by decide +kernel
theorem clr_le : ∀ u, u < 64 → ∀ p, p < 6 → clr u p ≤ u := by decide +kernel
theorem clr_pcn : ∀ u, u < 64 → ∀ p, p < 6 → pcn (clr u p) + (if ub u p then 1 else 0) = pcn u := by decide +kernel
theorem full_ub : ∀ n, n < 7 → ∀ p, p < 6 → ub (2 ^ n - 1) p = decide (p < n) := by decide +kernel
theorem pcn_le : ∀ u, u < 64 → pcn u ≤ 6 := by decide +kernel
theorem ub_out {u n p : Nat} (hu : u < 2 ^ n) (h : n ≤ p) : ub u p = false := Nat.testBit_lt_two_pow (Nat.lt_of_lt_of_le hu (Nat.pow_le_pow_right (by decide) h))
theorem lt64 {u n : Nat} (hn : n ≤ 6) (h : u < 2 ^ n) : u < 64 := Nat.lt_of_lt_of_le h (Nat.pow_le_pow_right (by decide) hn)
theorem s_isUp_is {I : Nat → Nat → Int32} {a u p : Nat} (h : I a 1 = nI u) (hu : u < 64) (hp : p < 6) : s_isUp I a (nI p) = b2 (ub u p) := by
  unfold s_isUp
  rw [h]
  exact isUp_tab u hu p hp
theorem isb_b2 {α : Type} (b : Bool) (r : Option α) : isb (b2 b) r = r := by
  unfold isb
  cases b <;> simp [b2]
theorem r_isUp_is {I : Nat → Nat → Int32} {z u p : Nat} (h : I (z + 1) 32 = nI u) (hu : u < 64) (hp : p < 6) : r_isUp I z (nI p) = some (b2 (ub u p)) := by
  unfold r_isUp
  rw [show Int32.toNatClampNeg 32 = 32 from rfl, h, isIn_tab u hu p hp, isb_b2]
theorem wide_lt (a b : Int32) : a.toInt64 < b.toInt64 ↔ a < b := by rw [Int64.lt_iff_toInt_lt, Int32.lt_iff_toInt_lt, Int32.toInt_toInt64, Int32.toInt_toInt64]
theorem wide_le (a b : Int32) : a.toInt64 ≤ b.toInt64 ↔ a ≤ b := by rw [Int64.le_iff_toInt_le, Int32.le_iff_toInt_le, Int32.toInt_toInt64, Int32.toInt_toInt64]
theorem wide_eq (a b : Int32) : a.toInt64 = b.toInt64 ↔ a = b := by rw [← Int64.toInt_inj, ← Int32.toInt_inj, Int32.toInt_toInt64, Int32.toInt_toInt64]
theorem within_i (v a b : Int32) : r_within (Int32.toInt64 v) (Int32.toInt64 a) (Int32.toInt64 b) = b2 (decide (a ≤ v) && decide (v ≤ b)) := by
  unfold r_within
  by_cases h1 : v < a
  · rw [if_pos ((lg_cmp_lt _ _).mpr ((wide_lt _ _).mpr h1))]
    have : ¬ a ≤ v := fun h => by rw [Int32.le_iff_toInt_le] at h; rw [Int32.lt_iff_toInt_lt] at h1; omega
    simp [this, b2]
  · rw [if_neg (fun h => h1 ((wide_lt _ _).mp ((lg_cmp_lt _ _).mp h)))]
    have ha : a ≤ v := Int32.not_lt.mp h1
    by_cases h2 : b < v
    · rw [if_pos ((lg_cmp_gt _ _).mpr ((wide_lt _ _).mpr h2))]
      have : ¬ v ≤ b := fun h => by rw [Int32.le_iff_toInt_le] at h; rw [Int32.lt_iff_toInt_lt] at h2; omega
      simp [this, b2]
    · rw [if_neg (fun h => h2 ((wide_lt _ _).mp ((lg_cmp_gt _ _).mp h)))]
      have hb : v ≤ b := Int32.not_lt.mp h2
      simp [ha, hb, b2]
/-- an argument: below 0, too great, or one of n -/
theorem arg_cases (v : Int32) (n : Nat) (hn : n < 2147483648) : (v < 0 ∨ nI n ≤ v) ∨ ∃ j : Nat, j < n ∧ v = nI j := by
  rcases pk_ix v hn with h | h | h
  · exact Or.inl (Or.inl h)
  · exact Or.inl (Or.inr h)
  · exact Or.inr h
theorem i32_le {a b : Int32} : a ≤ b ↔ a.toInt ≤ b.toInt := Int32.le_iff_toInt_le
theorem i32_lt {a b : Int32} : a < b ↔ a.toInt < b.toInt := Int32.lt_iff_toInt_lt
theorem i32_eq {a b : Int32} : a = b ↔ a.toInt = b.toInt := ⟨fun h => by rw [h], fun h => Int32.toInt_inj.mp h⟩
theorem within_p (v : Int32) (n : Nat) (hn : n < 1000) : r_within (Int32.toInt64 v) 0 (Int32.toInt64 (nI n - 1)) = b2 (decide (0 ≤ v) && decide (v < nI n)) := by
  have h0 : (0 : Int64) = Int32.toInt64 0 := by decide
  rw [h0, within_i]
  congr 2
  have e : (nI n - 1).toInt = (n : Int) - 1 := pk_sub_toInt (a := n) (b := 1) (by omega) (by decide)
  have e2 : (nI n).toInt = (n : Int) := nI_toInt (by omega)
  apply decide_eq_decide.mpr
  rw [i32_le, i32_lt, e, e2]
  omega
theorem within_bad {v : Int32} {n : Nat} (hn : n < 1000) (h : v < 0 ∨ nI n ≤ v) : r_within (Int32.toInt64 v) 0 (Int32.toInt64 (nI n - 1)) = 0 := by
  rw [within_p v n hn]
  have e2 : (nI n).toInt = (n : Int) := nI_toInt (by omega)
  rcases h with h | h
  · have : ¬ 0 ≤ v := fun h2 => by rw [i32_le] at h2; rw [i32_lt] at h; omega
    simp [this, b2]
  · have : ¬ v < nI n := fun h2 => by rw [i32_le] at h; rw [i32_lt] at h2; omega
    simp [this, b2]
theorem within_ok {j n : Nat} (hn : n < 1000) (h : j < n) : r_within (Int32.toInt64 (nI j)) 0 (Int32.toInt64 (nI n - 1)) = 1 := by
  rw [within_p (nI j) n hn]
  have h1 : 0 ≤ nI j := nI_pos' (by omega)
  have h2 : nI j < nI n := nI_lt h (by omega)
  simp [h1, h2, b2]
