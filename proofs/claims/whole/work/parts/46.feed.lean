/-! THE TAPE: bytes (the first rows are the kit's rows on bits, given for pasting) -/
/-! ===== Int32 by its bits: bt x i ===== -/
def bt (x : Int32) (i : Nat) : Bool := x.toBitVec.getLsbD i
theorem b_ext {x y : Int32} (h : ∀ i, i < 32 → bt x i = bt y i) : x = y := Int32.toBitVec_inj.mp (BitVec.eq_of_getLsbD_eq (fun i hi => h i hi))
theorem b_or (x y : Int32) (i : Nat) : bt (x ||| y) i = (bt x i || bt y i) := by unfold bt; rw [Int32.toBitVec_or, BitVec.getLsbD_or]
theorem b_and (x y : Int32) (i : Nat) : bt (x &&& y) i = (bt x i && bt y i) := by unfold bt; rw [Int32.toBitVec_and, BitVec.getLsbD_and]
theorem b_xor (x y : Int32) (i : Nat) : bt (x ^^^ y) i = (bt x i ^^ bt y i) := by unfold bt; rw [Int32.toBitVec_xor, BitVec.getLsbD_xor]
theorem b_big {x : Int32} {i : Nat} (h : 32 ≤ i) : bt x i = false := BitVec.getLsbD_of_ge _ _ h
theorem b_255 (i : Nat) : bt 255 i = decide (i < 8) := by
  rcases Nat.lt_or_ge i 32 with h | h
  · exact (by decide +kernel : ∀ i, i < 32 → bt 255 i = decide (i < 8)) i h
  · rw [b_big h, decide_eq_false (by omega)]
theorem b_65535 (i : Nat) : bt 65535 i = decide (i < 16) := by
  rcases Nat.lt_or_ge i 32 with h | h
  · exact (by decide +kernel : ∀ i, i < 32 → bt 65535 i = decide (i < 16)) i h
  · rw [b_big h, decide_eq_false (by omega)]
theorem b_m1 : ∀ i, i < 32 → bt (-1) i = true := by decide +kernel
theorem b_0 (i : Nat) : bt 0 i = false := BitVec.getLsbD_zero
theorem s_l : ∀ n, n < 32 → ((nI n &&& 31).toBitVec.smod 32).toNat = n := by decide +kernel
theorem s_u : ∀ n, n < 32 → (((nI n).toUInt32 &&& Int32.toUInt32 31).toBitVec % 32).toNat = n := by decide +kernel
theorem b_shl (n : Nat) (hn : n < 32) (x : Int32) {i : Nat} (hi : i < 32) : bt (x <<< (nI n &&& 31)) i = (decide (n ≤ i) && bt x (i - n)) := by
  unfold bt
  rw [Int32.toBitVec_shiftLeft]
  show (x.toBitVec <<< ((nI n &&& 31).toBitVec.smod 32).toNat).getLsbD i = _
  rw [s_l n hn, BitVec.getLsbD_shiftLeft]
  rcases Nat.lt_or_ge i n with h | h
  · simp [h, Nat.not_le.mpr h]
  · simp [hi, h, Nat.not_lt.mpr h]
theorem b_ushr (n : Nat) (hn : n < 32) (x : Int32) (i : Nat) : bt ((x.toUInt32 >>> ((nI n).toUInt32 &&& Int32.toUInt32 31)).toInt32) i = bt x (n + i) := by
  show (x.toUInt32 >>> ((nI n).toUInt32 &&& Int32.toUInt32 31)).toBitVec.getLsbD i = x.toUInt32.toBitVec.getLsbD (n + i)
  rw [UInt32.toBitVec_shiftRight]
  show (x.toUInt32.toBitVec >>> (((nI n).toUInt32 &&& Int32.toUInt32 31).toBitVec % 32).toNat).getLsbD i = _
  rw [s_u n hn, BitVec.getLsbD_ushiftRight]
theorem b_sshr (n : Nat) (hn : n < 32) (x : Int32) {i : Nat} (hi : i < 32) : bt (x >>> (nI n &&& 31)) i = if n + i < 32 then bt x (n + i) else bt x 31 := by
  unfold bt
  rw [Int32.toBitVec_shiftRight]
  show (x.toBitVec.sshiftRight ((nI n &&& 31).toBitVec.smod 32).toNat).getLsbD i = _
  rw [s_l n hn, BitVec.getLsbD_sshiftRight, BitVec.msb_eq_getLsbD_last]
  simp [hi]
theorem b_shl8 (x : Int32) {i : Nat} (hi : i < 32) : bt (x <<< ((8 : Int32) &&& 31)) i = (decide (8 ≤ i) && bt x (i - 8)) := b_shl 8 (by omega) x hi
/-- a byte of a number, the k-th from behind -/
def byI (x : Int32) (n : Nat) : Int := (((x.toUInt32 >>> ((nI n).toUInt32 &&& Int32.toUInt32 31)).toInt32 &&& nI 255).toBitVec.toNat : Int)
theorem by_same (x : Int32) (n : Nat) (hn : n = 0 ∨ n = 8 ∨ n = 16 ∨ n = 24) : (x >>> (nI n &&& 31)) &&& nI 255 = (x.toUInt32 >>> ((nI n).toUInt32 &&& Int32.toUInt32 31)).toInt32 &&& nI 255 := by
  refine b_ext (fun i hi => ?_)
  have h32 : n < 32 := by omega
  have e255 : (nI 255) = 255 := rfl
  rw [b_and, b_and, b_sshr n h32 x hi, b_ushr n h32 x i, e255, b_255]
  by_cases h : i < 8
  · rw [if_pos (by omega)]
  · simp [h]
theorem by_iI (x : Int32) (n : Nat) : (x.toUInt32 >>> ((nI n).toUInt32 &&& Int32.toUInt32 31)).toInt32 &&& nI 255 = iI (byI x n) := by
  have h := pk_and ((x.toUInt32 >>> ((nI n).toUInt32 &&& Int32.toUInt32 31)).toInt32) (m := nI 255) 8 (by decide)
  have h2 : ((x.toUInt32 >>> ((nI n).toUInt32 &&& Int32.toUInt32 31)).toInt32 &&& nI 255).toBitVec.toNat = (x.toUInt32 >>> ((nI n).toUInt32 &&& Int32.toUInt32 31)).toInt32.toBitVec.toNat % 2 ^ 8 := by
    rw [h]; exact pk_tn (by omega)
  rw [byI, h2, h]
  exact iI_n _
theorem by_in (x : Int32) (n : Nat) : 0 ≤ byI x n ∧ byI x n ≤ 255 := by
  have h := pk_and ((x.toUInt32 >>> ((nI n).toUInt32 &&& Int32.toUInt32 31)).toInt32) (m := nI 255) 8 (by decide)
  have h2 : ((x.toUInt32 >>> ((nI n).toUInt32 &&& Int32.toUInt32 31)).toInt32 &&& nI 255).toBitVec.toNat = (x.toUInt32 >>> ((nI n).toUInt32 &&& Int32.toUInt32 31)).toInt32.toBitVec.toNat % 2 ^ 8 := by
    rw [h]; exact pk_tn (by omega)
  rw [byI, h2]
  omega
theorem four_go {x : Int32} {t : Int} {B : Nat → Int} (ht : 0 ≤ t ∧ t + 4 ≤ 400) (hB : ∀ k, 0 ≤ B k ∧ B k ≤ 255) : ∃ B' : Nat → Int, mX6_append x (iI t) (iF B) = some (iI (t + 4), iF B') ∧ mX10_four x (iI t) (iF B) = some (iI (t + 4), iF B') ∧ ∀ k, 0 ≤ B' k ∧ B' k ≤ 255 := by
  obtain ⟨t0, t1⟩ := ht
  obtain ⟨m, hm⟩ : ∃ m, kF = m + 1 + 1 + 1 + 1 + 1 := ⟨kF - 5, by have := kF_ge; omega⟩
  refine ⟨upI (upI (upI (upI B t.toNat (byI x 24)) (t + 1).toNat (byI x 16)) (t + 2).toNat (byI x 8)) (t + 3).toNat (byI x 0), ?_, ?_, ?_⟩
  · have e24 : iI 24 = nI 24 := rfl
    have e16 : iI 16 = nI 16 := rfl
    have e8 : iI 8 = nI 8 := rfl
    have e0 : iI 0 = nI 0 := rfl
    have f24 : iI 24 + iI (-8) = iI 16 := by decide
    have f16 : iI 16 + iI (-8) = iI 8 := by decide
    have f8 : iI 8 + iI (-8) = iI 0 := by decide
    have f0 : iI 0 + iI (-8) = iI (-8) := by decide
    have g24 : ¬ iI 24 < 0 := by decide
    have g16 : ¬ iI 16 < 0 := by decide
    have g8 : ¬ iI 8 < 0 := by decide
    have g0 : ¬ iI 0 < 0 := by decide
    have gm : iI (-8) < 0 := by decide
    rw [mX6_append, hm, mX6_append_L3, if_neg g24, f24, mX6_append_L3, if_neg g16, f16, mX6_append_L3, if_neg g8, f8, mX6_append_L3, if_neg g0, f0, mX6_append_L3, if_pos gm, e24, e16, e8, e0, show iI 255 = nI 255 from rfl, by_iI, by_iI, by_iI, by_iI, iI_add, iI_add, iI_add, iI_add]
    simp (disch := omega) only [pu_iI, pu_in]
    have a1 : t + 1 + 1 = t + 2 := by omega
    have a2 : t + 2 + 1 = t + 3 := by omega
    have a3 : t + 3 + 1 = t + 4 := by omega
    simp only [a1, a2, a3]
  · have e24 : iI 24 = nI 24 := rfl
    have e16 : iI 16 = nI 16 := rfl
    have e8 : iI 8 = nI 8 := rfl
    have e0 : iI 0 = nI 0 := rfl
    have f24 : iI 24 + iI (-8) = iI 16 := by decide
    have f16 : iI 16 + iI (-8) = iI 8 := by decide
    have f8 : iI 8 + iI (-8) = iI 0 := by decide
    have f0 : iI 0 + iI (-8) = iI (-8) := by decide
    have g24 : ¬ iI 24 < 0 := by decide
    have g16 : ¬ iI 16 < 0 := by decide
    have g8 : ¬ iI 8 < 0 := by decide
    have g0 : ¬ iI 0 < 0 := by decide
    have gm : iI (-8) < 0 := by decide
    have gg : ∀ z : Int, 0 ≤ z → z < 400 → ¬ (iI z < 0 ∨ 400 ≤ (iI z).toNatClampNeg) := fun z h1 h2 h => by
      rw [gd (by omega) (by omega)] at h
      omega
    rw [mX10_four, hm, mX10_four_L3, if_neg g24, if_neg (gg t (by omega) (by omega)), f24, iI_add, mX10_four_L3, if_neg g16, if_neg (gg (t + 1) (by omega) (by omega)), f16, iI_add, mX10_four_L3, if_neg g8, if_neg (gg (t + 1 + 1) (by omega) (by omega)), f8, iI_add, mX10_four_L3, if_neg g0, if_neg (gg (t + 1 + 1 + 1) (by omega) (by omega)), f0, iI_add, mX10_four_L3, if_pos gm, e24, e16, e8, e0, show iI 255 = nI 255 from rfl, by_same x 24 (by omega), by_same x 16 (by omega), by_same x 8 (by omega), by_same x 0 (by omega), by_iI, by_iI, by_iI, by_iI]
    simp (disch := omega) only [wr]
    have a1 : t + 1 + 1 = t + 2 := by omega
    have a2 : t + 2 + 1 = t + 3 := by omega
    have a3 : t + 3 + 1 = t + 4 := by omega
    simp only [a1, a2, a3]
  · have up : ∀ (F : Nat → Int) (i : Nat) (v : Int), (∀ k, 0 ≤ F k ∧ F k ≤ 255) → (0 ≤ v ∧ v ≤ 255) → ∀ k, 0 ≤ upI F i v k ∧ upI F i v k ≤ 255 := fun F i v hF hv k => by
      by_cases hk : k = i
      · rw [hk, upI_s]; exact hv
      · rw [upI_n hk]; exact hF k
    exact up _ _ _ (up _ _ _ (up _ _ _ (up _ _ _ hB (by_in x 24)) (by_in x 16)) (by_in x 8)) (by_in x 0)
theorem sim_feed {a b c d e : Int32} {t : Int} {B : Nat → Int} (ht : 0 ≤ t ∧ t ≤ 400) (hB : ∀ k, 0 ≤ B k ∧ B k ≤ 255) : ∃ (r t' : Int) (B' : Nat → Int), mX9_feed a b c d e (iI t) (iF B) = some (iI r, iI t', iF B') ∧ mX10_feed a b c d e (iI t) (iF B) = some (iI r, iI 0, iI t', iF B') ∧ (0 ≤ t' ∧ t' ≤ 400) ∧ ∀ k, 0 ≤ B' k ∧ B' k ≤ 255 := by
  obtain ⟨t0, t1⟩ := ht
  by_cases h : t + 20 ≤ 400
  · obtain ⟨B1, x1, y1, h1⟩ := four_go (x := a) (t := t) (B := B) ⟨t0, by omega⟩ hB
    obtain ⟨B2, x2, y2, h2⟩ := four_go (x := b) (t := t + 4) (B := B1) ⟨by omega, by omega⟩ h1
    obtain ⟨B3, x3, y3, h3⟩ := four_go (x := c) (t := t + 4 + 4) (B := B2) ⟨by omega, by omega⟩ h2
    obtain ⟨B4, x4, y4, h4⟩ := four_go (x := d) (t := t + 4 + 4 + 4) (B := B3) ⟨by omega, by omega⟩ h3
    obtain ⟨B5, x5, y5, h5⟩ := four_go (x := e) (t := t + 4 + 4 + 4 + 4) (B := B4) ⟨by omega, by omega⟩ h4
    refine ⟨t + 4 + 4 + 4 + 4 + 4, t + 4 + 4 + 4 + 4 + 4, B5, ?_, ?_, ⟨by omega, by omega⟩, h5⟩
    · have h' : ¬ 400 < t + 20 := by omega
      simp (disch := omega) [mX9_feed, mX6_hasRoomFor, iI_add, iI_lt, h', iI_eq0, x1, x2, x3, x4, x5]
    · simp (disch := omega) only [mX10_feed, iI_add, iI_le, h, if_true, Option.bind_some, y1, y2, y3, y4, y5]
  · refine ⟨-1, t, B, ?_, ?_, ⟨t0, t1⟩, hB⟩
    · have h' : 400 < t + 20 := by omega
      simp (disch := omega) [mX9_feed, mX6_hasRoomFor, iI_add, iI_lt, h', iI_eq0]
    · simp (disch := omega) [mX10_feed, iI_add, iI_le, h]
