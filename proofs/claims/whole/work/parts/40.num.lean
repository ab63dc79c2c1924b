/-! NUMBERS: ints as whole numbers -/
def iF (F : Nat → Int) : Nat → Int32 := fun k => iI (F k)
def upI (F : Nat → Int) (k : Nat) (z : Int) : Nat → Int := fun j => if j = k then z else F j
theorem iI_t {z : Int} (h0 : -2147483648 ≤ z) (h1 : z < 2147483648) : (iI z).toInt = z := Int32.toInt_ofInt_of_le h0 h1
theorem lI_t {z : Int} (h0 : -9223372036854775808 ≤ z) (h1 : z < 9223372036854775808) : (lI z).toInt = z := Int64.toInt_ofInt_of_le h0 h1
theorem iI_x (x : Int32) : ∃ z : Int, x = iI z ∧ -2147483648 ≤ z ∧ z < 2147483648 := ⟨x.toInt, (Int32.ofInt_toInt x).symm, Int32.le_toInt x, Int32.toInt_lt x⟩
theorem iF_x (f : Nat → Int32) : ∃ F : Nat → Int, f = iF F ∧ ∀ k, -2147483648 ≤ F k ∧ F k < 2147483648 := ⟨fun k => (f k).toInt, funext fun k => (Int32.ofInt_toInt (f k)).symm, fun k => ⟨Int32.le_toInt _, Int32.toInt_lt _⟩⟩
theorem iI_add (a b : Int) : iI a + iI b = iI (a + b) := (Int32.ofInt_add a b).symm
theorem iI_sub (a b : Int) : iI a - iI b = iI (a - b) := (Int32.ofInt_sub a b).symm
theorem iI_mul (a b : Int) : iI a * iI b = iI (a * b) := (Int32.ofInt_mul a b).symm
theorem iI_neg (a : Int) : -iI a = iI (-a) := (Int32.ofInt_neg a).symm
theorem lI_add (a b : Int) : lI a + lI b = lI (a + b) := (Int64.ofInt_add a b).symm
theorem lI_sub (a b : Int) : lI a - lI b = lI (a - b) := (Int64.ofInt_sub a b).symm
theorem lI_mul (a b : Int) : lI a * lI b = lI (a * b) := (Int64.ofInt_mul a b).symm
theorem lI_neg (a : Int) : -lI a = lI (-a) := (Int64.ofInt_neg a).symm
theorem iI_le {a b : Int} (h0 : -2147483648 ≤ a) (h1 : a < 2147483648) (h2 : -2147483648 ≤ b) (h3 : b < 2147483648) : iI a ≤ iI b ↔ a ≤ b := by rw [Int32.le_iff_toInt_le, iI_t h0 h1, iI_t h2 h3]
theorem iI_lt {a b : Int} (h0 : -2147483648 ≤ a) (h1 : a < 2147483648) (h2 : -2147483648 ≤ b) (h3 : b < 2147483648) : iI a < iI b ↔ a < b := by rw [Int32.lt_iff_toInt_lt, iI_t h0 h1, iI_t h2 h3]
theorem iI_eq {a b : Int} (h0 : -2147483648 ≤ a) (h1 : a < 2147483648) (h2 : -2147483648 ≤ b) (h3 : b < 2147483648) : iI a = iI b ↔ a = b := by rw [← Int32.toInt_inj, iI_t h0 h1, iI_t h2 h3]
theorem lI_le {a b : Int} (h0 : -9223372036854775808 ≤ a) (h1 : a < 9223372036854775808) (h2 : -9223372036854775808 ≤ b) (h3 : b < 9223372036854775808) : lI a ≤ lI b ↔ a ≤ b := by rw [Int64.le_iff_toInt_le, lI_t h0 h1, lI_t h2 h3]
theorem lI_lt {a b : Int} (h0 : -9223372036854775808 ≤ a) (h1 : a < 9223372036854775808) (h2 : -9223372036854775808 ≤ b) (h3 : b < 9223372036854775808) : lI a < lI b ↔ a < b := by rw [Int64.lt_iff_toInt_lt, lI_t h0 h1, lI_t h2 h3]
theorem lI_eq {a b : Int} (h0 : -9223372036854775808 ≤ a) (h1 : a < 9223372036854775808) (h2 : -9223372036854775808 ≤ b) (h3 : b < 9223372036854775808) : lI a = lI b ↔ a = b := by rw [← Int64.toInt_inj, lI_t h0 h1, lI_t h2 h3]
theorem iI_cl {z : Int} (h0 : -2147483648 ≤ z) (h1 : z < 2147483648) : (iI z).toNatClampNeg = z.toNat := Int32.toNatClampNeg_ofInt_of_le h0 h1
theorem iI_l {z : Int} (h0 : -2147483648 ≤ z) (h1 : z < 2147483648) : Int32.toInt64 (iI z) = lI z := by
  have h2 : Int32.maxValue.toInt = 2147483647 := by decide
  exact Int32.toInt64_ofInt h0 (by omega)
theorem lI_i (z : Int) : Int64.toInt32 (lI z) = iI z := Int64.toInt32_ofInt
theorem iI_n (n : Nat) : Int32.ofNat n = iI n := (Int32.ofInt_eq_ofNat).symm
theorem iF_at (F : Nat → Int) (k : Nat) : iF F k = iI (F k) := rfl
theorem iF_up (F : Nat → Int) (k : Nat) (z : Int) : upd (iF F) k (iI z) = iF (upI F k z) := funext fun j => by
  show upd (iF F) k (iI z) j = iI (if j = k then z else F j)
  by_cases h : j = k
  · rw [if_pos h, h]; exact pk_us
  · rw [if_neg h]; exact pk_un h
theorem upI_s (F : Nat → Int) (k : Nat) (z : Int) : upI F k z k = z := if_pos rfl
theorem upI_n {F : Nat → Int} {k j : Nat} {z : Int} (h : j ≠ k) : upI F k z j = F j := if_neg h
/-- the literals of the listing -/
theorem iI_0 : (0 : Int32) = iI 0 := rfl
theorem iI_1 : (1 : Int32) = iI 1 := rfl
theorem iI_m1 : (-1 : Int32) = iI (-1) := by decide
def atI (n : Int) (F : Nat → Int) (z : Int) : Int := if 0 ≤ z ∧ z < n then F z.toNat else -1
def puI (n : Int) (z v : Int) (F : Nat → Int) : Nat → Int := if 0 ≤ z ∧ z < n then upI F z.toNat v else F
theorem at_iI {n : Nat} (hn : n < 2000000000) {z : Int} (h0 : -2147483648 ≤ z) (h1 : z < 2147483648) (F : Nat → Int) : mX9_at n (iI z) (iF F) = iI (atI n F z) := by
  rw [mX9_at, iI_0, iI_n]
  by_cases hz : z < 0
  · rw [if_pos ((iI_lt h0 h1 (by omega) (by omega)).mpr hz), atI, if_neg (by omega)]
  · rw [if_neg (fun h => hz ((iI_lt h0 h1 (by omega) (by omega)).mp h))]
    by_cases hz2 : z < n
    · rw [if_neg (fun h => by have := (iI_le (by omega) (by omega) h0 h1).mp h; omega), iI_cl h0 h1, atI, if_pos (by omega)]
      rfl
    · rw [if_pos ((iI_le (by omega) (by omega) h0 h1).mpr (by omega)), atI, if_neg (by omega)]
theorem pu_iI {n : Nat} (hn : n < 2000000000) {z : Int} (h0 : -2147483648 ≤ z) (h1 : z < 2147483648) (v : Int) (F : Nat → Int) : mX9_put n (iI z) (iI v) (iF F) = iF (puI n z v F) := by
  rw [mX9_put, iI_0, iI_n]
  by_cases hz : z < 0
  · rw [if_pos ((iI_lt h0 h1 (by omega) (by omega)).mpr hz), puI, if_neg (by omega)]
  · rw [if_neg (fun h => hz ((iI_lt h0 h1 (by omega) (by omega)).mp h))]
    by_cases hz2 : z < n
    · rw [if_neg (fun h => by have := (iI_le (by omega) (by omega) h0 h1).mp h; omega), iI_cl h0 h1, puI, if_pos (by omega), iF_up]
    · rw [if_pos ((iI_le (by omega) (by omega) h0 h1).mpr (by omega)), puI, if_neg (by omega)]
/-- 'within', on both sides -/
def inI (z a b : Int) : Int := if a ≤ z ∧ z ≤ b then 1 else 0
theorem within_iI {z a b : Int} (h0 : -2147483648 ≤ z) (h1 : z < 2147483648) (h2 : -2147483648 ≤ a) (h3 : a < 2147483648) (h4 : -2147483648 ≤ b) (h5 : b < 2147483648) : mX9_isWithin (iI z) (iI a) (iI b) = iI (inI z a b) := by
  rw [mX9_isWithin]
  by_cases ha : z < a
  · rw [if_pos ((iI_lt h0 h1 h2 h3).mpr ha), inI, if_neg (by omega)]
  · rw [if_neg (fun h => ha ((iI_lt h0 h1 h2 h3).mp h))]
    by_cases hb : b < z
    · rw [if_pos ((iI_lt h4 h5 h0 h1).mpr hb), inI, if_neg (by omega)]
    · rw [if_neg (fun h => hb ((iI_lt h4 h5 h0 h1).mp h)), inI, if_pos (by omega)]
theorem in_iI {z a b : Int} (h0 : -2147483648 ≤ z) (h1 : z < 2147483648) (h2 : -2147483648 ≤ a) (h3 : a < 2147483648) (h4 : -2147483648 ≤ b) (h5 : b < 2147483648) : mX10_in (lI z) (lI a) (lI b) = iI (inI z a b) := by
  rw [mX10_in]
  by_cases ha : z < a
  · rw [if_pos ((lg_cmp_lt _ _).mpr ((lI_lt (by omega) (by omega) (by omega) (by omega)).mpr ha)), inI, if_neg (by omega)]
  · rw [if_neg (fun h => ha ((lI_lt (by omega) (by omega) (by omega) (by omega)).mp ((lg_cmp_lt _ _).mp h)))]
    by_cases hb : b < z
    · rw [if_pos ((lg_cmp_gt _ _).mpr ((lI_lt (by omega) (by omega) (by omega) (by omega)).mpr hb)), inI, if_neg (by omega)]
    · rw [if_neg (fun h => hb ((lI_lt (by omega) (by omega) (by omega) (by omega)).mp ((lg_cmp_gt _ _).mp h))), inI, if_pos (by omega)]
