/-! SIMPLE CALLS: class and reference, side by side -/
theorem inI_0 {z a b : Int} : (iI (inI z a b) = 0) ↔ ¬ (a ≤ z ∧ z ≤ b) := by
  rw [inI]
  by_cases h : a ≤ z ∧ z ≤ b
  · rw [if_pos h]; simp only [h, not_true_eq_false, iff_false, and_self]; decide
  · rw [if_neg h]; simp only [h, not_false_eq_true, iff_true]; rfl
theorem iI_lt0 {a : Int} (h0 : -2147483648 ≤ a) (h1 : a < 2147483648) : iI a < 0 ↔ a < 0 := by rw [iI_0]; exact iI_lt h0 h1 (by omega) (by omega)
theorem iI_ge0 {a : Int} (h0 : -2147483648 ≤ a) (h1 : a < 2147483648) : 0 ≤ iI a ↔ 0 ≤ a := by rw [iI_0]; exact iI_le (by omega) (by omega) h0 h1
theorem iI_gt0 {a : Int} (h0 : -2147483648 ≤ a) (h1 : a < 2147483648) : 0 < iI a ↔ 0 < a := by rw [iI_0]; exact iI_lt (by omega) (by omega) h0 h1
theorem iI_le0 {a : Int} (h0 : -2147483648 ≤ a) (h1 : a < 2147483648) : iI a ≤ 0 ↔ a ≤ 0 := by rw [iI_0]; exact iI_le h0 h1 (by omega) (by omega)
theorem iI_eq0 {a : Int} (h0 : -2147483648 ≤ a) (h1 : a < 2147483648) : iI a = 0 ↔ a = 0 := by rw [iI_0]; exact iI_eq h0 h1 (by omega) (by omega)
theorem within0 {z a b : Int} (h0 : -2147483648 ≤ z) (h1 : z < 2147483648) (h2 : -2147483648 ≤ a) (h3 : a < 2147483648) (h4 : -2147483648 ≤ b) (h5 : b < 2147483648) : (mX9_isWithin (iI z) (iI a) (iI b) = 0) ↔ ¬ (a ≤ z ∧ z ≤ b) := by rw [within_iI h0 h1 h2 h3 h4 h5, inI_0]
theorem in0 {z a b : Int} (h0 : -2147483648 ≤ z) (h1 : z < 2147483648) (h2 : -2147483648 ≤ a) (h3 : a < 2147483648) (h4 : -2147483648 ≤ b) (h5 : b < 2147483648) : (mX10_in (lI z) (lI a) (lI b) = 0) ↔ ¬ (a ≤ z ∧ z ≤ b) := by rw [in_iI h0 h1 h2 h3 h4 h5, inI_0]
theorem place0 {z : Int} (h0 : -2147483648 ≤ z) (h1 : z < 2147483648) : (mX9_isPlace (iI z) = 0) ↔ ¬ (0 ≤ z ∧ z ≤ 15) := within0 h0 h1 (by omega) (by omega) (by omega) (by omega)
theorem hour0 {z : Int} (h0 : -2147483648 ≤ z) (h1 : z < 2147483648) : (mX9_isHour (iI z) = 0) ↔ ¬ (0 ≤ z ∧ z ≤ 120) := within0 h0 h1 (by omega) (by omega) (by omega) (by omega)
theorem place10 {z : Int} (h0 : -2147483648 ≤ z) (h1 : z < 2147483648) : (mX10_isPlace (iI z) = 0) ↔ ¬ (0 ≤ z ∧ z ≤ 15) := by rw [mX10_isPlace, iI_l h0 h1]; exact in0 h0 h1 (by omega) (by omega) (by omega) (by omega)
theorem hour10 {z : Int} (h0 : -2147483648 ≤ z) (h1 : z < 2147483648) : (mX10_isHour (iI z) = 0) ↔ ¬ (0 ≤ z ∧ z ≤ 120) := by rw [mX10_isHour, iI_l h0 h1]; exact in0 h0 h1 (by omega) (by omega) (by omega) (by omega)
theorem isT_aux {z n : Int} (h0 : -2147483648 ≤ z) (h1 : z < 2147483648) (h2 : 0 ≤ n) (h3 : n < 2000000000) : ((if iI z < 0 then iI 0 else (if iI n ≤ iI z then iI 0 else iI 1)) = (0 : Int32)) ↔ ¬ (0 ≤ z ∧ z < n) := by
  rw [iI_0]
  by_cases ha : z < 0
  · rw [if_pos ((iI_lt h0 h1 (by omega) (by omega)).mpr ha)]; simp only [true_iff]; omega
  · rw [if_neg (fun h => ha ((iI_lt h0 h1 (by omega) (by omega)).mp h))]
    by_cases hb : n ≤ z
    · rw [if_pos ((iI_le (by omega) (by omega) h0 h1).mpr hb)]; simp only [true_iff]; omega
    · rw [if_neg (fun h => hb ((iI_le (by omega) (by omega) h0 h1).mp h)), iI_eq (by omega) (by omega) (by omega) (by omega)]; omega
theorem isT0 {z n : Int} (h0 : -2147483648 ≤ z) (h1 : z < 2147483648) (h2 : 0 ≤ n) (h3 : n < 2000000000) : (mX0_isThere (iI z) (iI n) = 0) ↔ ¬ (0 ≤ z ∧ z < n) := isT_aux h0 h1 h2 h3
theorem isT1 {z n : Int} (h0 : -2147483648 ≤ z) (h1 : z < 2147483648) (h2 : 0 ≤ n) (h3 : n < 2000000000) : (mX1_isThere (iI z) (iI n) = 0) ↔ ¬ (0 ≤ z ∧ z < n) := isT_aux h0 h1 h2 h3
theorem isT8 {z n : Int} (h0 : -2147483648 ≤ z) (h1 : z < 2147483648) (h2 : 0 ≤ n) (h3 : n < 2000000000) : (mX8_isThere (iI z) (iI n) = 0) ↔ ¬ (0 ≤ z ∧ z < n) := isT_aux h0 h1 h2 h3
theorem told_iI {r : Int} (h0 : -2147483648 ≤ r) (h1 : r < 2147483648) : mX10_told (iI r) = some (iI r, iI (min r 0)) := by
  rw [mX10_told, iI_0]
  by_cases h : 0 ≤ r
  · rw [if_pos ((iI_le (by omega) (by omega) h0 h1).mpr h), show min r 0 = 0 by omega]
  · rw [if_neg (fun g => h ((iI_le (by omega) (by omega) h0 h1).mp g)), show min r 0 = r by omega]
theorem ans_iI {r : Int} (h0 : -2147483648 ≤ r) (h1 : r < 2147483648) : mX9_answered (iI r) = some (iI r, iI (min r 0)) := by
  rw [mX9_answered]
  by_cases h : 0 < r
  · rw [if_pos ((iI_lt (by omega) (by omega) h0 h1).mpr h), show min r 0 = 0 by omega]
  · rw [if_neg (fun g => h ((iI_lt (by omega) (by omega) h0 h1).mp g)), show min r 0 = r by omega]
theorem gd {z : Int} {n : Nat} (h0 : -2147483648 ≤ z) (h1 : z < 2147483648) : (iI z < 0 ∨ n ≤ (iI z).toNatClampNeg) ↔ ¬ (0 ≤ z ∧ z < n) := by
  rw [iI_0, iI_lt h0 h1 (by omega) (by omega), iI_cl h0 h1]
  omega
theorem rd {z : Int} (h0 : -2147483648 ≤ z) (h1 : z < 2147483648) (F : Nat → Int) : iF F (iI z).toNatClampNeg = iI (F z.toNat) := by rw [iI_cl h0 h1]; rfl
theorem wr {z : Int} (h0 : -2147483648 ≤ z) (h1 : z < 2147483648) (F : Nat → Int) (v : Int) : upd (iF F) (iI z).toNatClampNeg (iI v) = iF (upI F z.toNat v) := by rw [iI_cl h0 h1, iF_up]
theorem pu_in {n z v : Int} {F : Nat → Int} (h : 0 ≤ z) (h2 : z < n) : puI n z v F = upI F z.toNat v := if_pos ⟨h, h2⟩
theorem at_in {n z : Int} {F : Nat → Int} (h : 0 ≤ z) (h2 : z < n) : atI n F z = F z.toNat := if_pos ⟨h, h2⟩
abbrev I32 (z : Int) : Prop := -2147483648 ≤ z ∧ z < 2147483648
theorem sim_gangs {p g : Int} (hp : I32 p) (hg : 0 ≤ g ∧ g ≤ 99) : ∃ r g' : Int, mX9_gangs (iI p) (iI g) = some (iI r, iI g', iI (min r 0)) ∧ mX10_gangs (iI p) (iI g) = some (iI r, iI 0, iI (min r 0), iI g') ∧ 0 ≤ g' ∧ g' ≤ 99 := by
  obtain ⟨p0, p1⟩ := hp
  obtain ⟨g0, g1⟩ := hg
  by_cases h : 0 ≤ p ∧ p ≤ 99
  · refine ⟨g, p, ?_, ?_, h.1, h.2⟩ <;> simp (disch := omega) [mX9_gangs, mX10_gangs, within0, in0, iI_l, told_iI, ans_iI, h]
  · refine ⟨-1, g, ?_, ?_, g0, g1⟩ <;> simp (disch := omega) [mX9_gangs, mX10_gangs, within0, in0, iI_l, told_iI, ans_iI, h]
theorem sim_transfer {p g : Int} (hp : I32 p) (hg : 0 ≤ g ∧ g ≤ 12) : ∃ r g' : Int, mX9_transfer (iI p) (iI g) = some (iI r, iI (min r 0), iI g') ∧ mX10_transfer (iI p) (iI g) = some (iI r, iI 0, iI (min r 0), iI g') ∧ 0 ≤ g' ∧ g' ≤ 12 := by
  obtain ⟨p0, p1⟩ := hp
  obtain ⟨g0, g1⟩ := hg
  by_cases h : 0 ≤ p ∧ p ≤ 12
  · refine ⟨g, p, ?_, ?_, h.1, h.2⟩ <;> simp (disch := omega) [mX9_transfer, mX7_setTransfer, mX10_transfer, within0, in0, iI_l, told_iI, ans_iI, h]
  · refine ⟨-1, g, ?_, ?_, g0, g1⟩ <;> simp (disch := omega) [mX9_transfer, mX7_setTransfer, mX10_transfer, within0, in0, iI_l, told_iI, ans_iI, h]
theorem sim_end {p t : Int} (hp : I32 p) (ht : 0 ≤ t ∧ t ≤ 400) : ∃ r t' : Int, mX9_end (iI p) (iI t) = some (iI r, iI t') ∧ mX10_end (iI p) (iI t) = some (iI r, iI 0, iI t') ∧ 0 ≤ t' ∧ t' ≤ 400 := by
  obtain ⟨p0, p1⟩ := hp
  obtain ⟨g0, g1⟩ := ht
  by_cases h : p < 0
  · refine ⟨-1, t, ?_, ?_, g0, g1⟩ <;> simp (disch := omega) [mX9_end, mX6_cut, mX10_end, iI_lt0, iI_ge0, iI_gt0, iI_le0, iI_eq0, iI_lt, iI_le, iI_eq, h]
  · by_cases h2 : p ≤ t
    · refine ⟨p, p, ?_, ?_, by omega, by omega⟩ <;> simp (disch := omega) [mX9_end, mX6_cut, mX10_end, iI_lt0, iI_ge0, iI_gt0, iI_le0, iI_eq0, iI_lt, iI_le, iI_eq, h, h2]
    · refine ⟨-1, t, ?_, ?_, g0, g1⟩ <;> simp (disch := omega) [mX9_end, mX6_cut, mX10_end, iI_lt0, iI_ge0, iI_gt0, iI_le0, iI_eq0, iI_lt, iI_le, iI_eq, h, h2]
theorem sim_car {p q n : Int} {P H : Nat → Int} (S : Nat → Int) (hp : I32 p) (hq : I32 q) (hn : 0 ≤ n ∧ n ≤ 30) :
    ∃ (r n' : Int) (P' H' S' : Nat → Int), mX9_car (iI p) (iI q) (iI n) (iF H) (iF P) = some (iI r, iI (min r 0), iI n', iF H', iF P') ∧ mX10_car (iI p) (iI q) (iI n) (iF H) (iF P) (iF S) = some (iI r, iI 0, iI (min r 0), iI n', iF H', iF P', iF S') ∧
      ((n' = n ∧ P' = P ∧ H' = H ∧ S' = S) ∨ (n < 30 ∧ n' = n + 1 ∧ 0 ≤ p ∧ p ≤ 15 ∧ 0 ≤ q ∧ q ≤ 120 ∧ P' = upI P n.toNat p ∧ H' = upI H n.toNat q ∧ S' = upI S n.toNat (-1))) := by
  obtain ⟨p0, p1⟩ := hp
  obtain ⟨q0, q1⟩ := hq
  obtain ⟨n0, n1⟩ := hn
  by_cases h : 0 ≤ p ∧ p ≤ 15
  · by_cases h2 : 0 ≤ q ∧ q ≤ 120
    · by_cases h3 : n < 30
      · refine ⟨n, n + 1, upI P n.toNat p, upI H n.toNat q, upI S n.toNat (-1), ?_, ?_, Or.inr ⟨h3, rfl, h.1, h.2, h2.1, h2.2, rfl, rfl, rfl⟩⟩
        · simp (disch := omega) [mX9_car, mX0_add, place0, hour0, ans_iI, iI_lt, iI_add, iI_sub, pu_iI, pu_in, h, h2, h3]
        · have h4 : ¬ n = 30 := by omega
          simp (disch := omega) [mX10_car, place10, hour10, told_iI, iI_eq, iI_add, iI_sub, gd, wr, h, h2, h3, h4, n0]
      · have h4 : n = 30 := by omega
        refine ⟨-5, n, P, H, S, ?_, ?_, Or.inl ⟨rfl, rfl, rfl, rfl⟩⟩
        · simp (disch := omega) [mX9_car, mX0_add, place0, hour0, ans_iI, iI_lt, h, h2, h3]
        · simp (disch := omega) [mX10_car, place10, hour10, told_iI, iI_eq, h, h2, h4]
    · refine ⟨-1, n, P, H, S, ?_, ?_, Or.inl ⟨rfl, rfl, rfl, rfl⟩⟩
      · simp (disch := omega) [mX9_car, mX0_add, place0, hour0, ans_iI, h, h2]
      · simp (disch := omega) [mX10_car, place10, hour10, told_iI, h, h2]
  · refine ⟨-1, n, P, H, S, ?_, ?_, Or.inl ⟨rfl, rfl, rfl, rfl⟩⟩
    · simp (disch := omega) [mX9_car, mX0_add, place0, ans_iI, h]
    · simp (disch := omega) [mX10_car, place10, told_iI, h]
theorem sim_shop {p q : Int} {P : Nat → Int} (hp : I32 p) (hq : I32 q) (hP : ∀ k, k < 16 → 0 ≤ P k ∧ P k ≤ 9) :
    ∃ (r : Int) (P' : Nat → Int), mX9_shop (iI p) (iI q) (iF P) = some (iI r, iI (min r 0), iF P') ∧ mX10_shop (iI p) (iI q) (iF P) = some (iI r, iI 0, iI (min r 0), iF P') ∧ ∀ k, k < 16 → 0 ≤ P' k ∧ P' k ≤ 9 := by
  obtain ⟨p0, p1⟩ := hp
  obtain ⟨q0, q1⟩ := hq
  by_cases h : 0 ≤ p ∧ p ≤ 15
  · by_cases h2 : 0 ≤ q ∧ q ≤ 9
    · have h3 := hP p.toNat (by omega)
      have h5 : p < 16 := by omega
      refine ⟨P p.toNat, upI P p.toNat q, ?_, ?_, fun k hk => ?_⟩
      · simp (disch := omega) [mX9_shop, mX5_setPushers, place0, within0, ans_iI, at_iI, at_in, pu_iI, pu_in, h, h2]
      · simp (disch := omega) [mX10_shop, place10, in0, iI_l, told_iI, gd, wr, rd, h, h2, h5]
      · by_cases hk2 : k = p.toNat
        · rw [hk2, upI_s]; exact h2
        · rw [upI_n hk2]; exact hP k hk
    · refine ⟨-1, P, ?_, ?_, hP⟩
      · simp (disch := omega) [mX9_shop, mX5_setPushers, place0, within0, ans_iI, h, h2]
      · simp (disch := omega) [mX10_shop, place10, in0, iI_l, told_iI, h, h2]
  · refine ⟨-1, P, ?_, ?_, hP⟩
    · simp (disch := omega) [mX9_shop, mX5_setPushers, place0, ans_iI, h]
    · simp (disch := omega) [mX10_shop, place10, told_iI, h]
theorem in_n {z n : Int} (h0 : -2147483648 ≤ z) (h1 : z < 2147483648) (h2 : 0 ≤ n) (h3 : n < 2000000000) : (mX10_in (lI z) (lI 0) (lI n - lI 1) = 0) ↔ ¬ (0 ≤ z ∧ z < n) := by
  rw [lI_sub, in0 h0 h1 (by omega) (by omega) (by omega) (by omega)]
  omega
theorem sim_wheel {p c n : Int} {C : Nat → Int} (hp : I32 p) (hc : 0 ≤ c ∧ c ≤ 30) (hn : 0 ≤ n ∧ n ≤ 60) :
    ∃ (r n' : Int) (C' : Nat → Int), mX9_wheel (iI p) (iI c) (iI n) (iF C) = some (iI r, iI (min r 0), iI n', iF C') ∧ mX10_wheel (iI p) (iI c) (iI n) (iF C) = some (iI r, iI 0, iI (min r 0), iI n', iF C') ∧ ((n' = n ∧ C' = C) ∨ (n < 60 ∧ n' = n + 1 ∧ 0 ≤ p ∧ p < c ∧ C' = upI C n.toNat p)) := by
  obtain ⟨p0, p1⟩ := hp
  obtain ⟨c0, c1⟩ := hc
  obtain ⟨n0, n1⟩ := hn
  by_cases h : 0 ≤ p ∧ p < c
  · by_cases h3 : n < 60
    · have h4 : ¬ n = 60 := by omega
      refine ⟨n, n + 1, upI C n.toNat p, ?_, ?_, Or.inr ⟨h3, rfl, h.1, h.2, rfl⟩⟩
      · simp (disch := omega) [mX9_wheel, mX8_add, isT0, ans_iI, iI_lt, iI_add, iI_sub, pu_iI, pu_in, h, h3]
      · simp (disch := omega) [mX10_wheel, iI_l, in_n, told_iI, iI_eq, iI_add, iI_sub, gd, wr, h, h3, h4, n0]
    · have h4 : n = 60 := by omega
      refine ⟨-5, n, C, ?_, ?_, Or.inl ⟨rfl, rfl⟩⟩
      · simp (disch := omega) [mX9_wheel, mX8_add, isT0, ans_iI, iI_lt, h, h3]
      · simp (disch := omega) [mX10_wheel, iI_l, in_n, told_iI, iI_eq, h, h4]
  · refine ⟨-2, n, C, ?_, ?_, Or.inl ⟨rfl, rfl⟩⟩
    · simp (disch := omega) [mX9_wheel, mX8_add, isT0, ans_iI, h]
    · simp (disch := omega) [mX10_wheel, iI_l, in_n, told_iI, h]
theorem sim_see {p q u v c n m : Int} {C H K L : Nat → Int} (hp : I32 p) (hq : I32 q) (hu : I32 u) (hv : I32 v) (hc : 0 ≤ c ∧ c ≤ 30) (hn : 0 ≤ n ∧ n ≤ 60) (hm : 0 ≤ m ∧ m ≤ 200) :
    ∃ (r m' : Int) (C' H' K' L' : Nat → Int), mX9_see (iI p) (iI q) (iI u) (iI v) (iI c) (iI n) (iI m) (iF C) (iF H) (iF K) (iF L) = some (iI r, iI (min r 0), iI m', iF C', iF H', iF K', iF L') ∧ mX10_see (iI p) (iI q) (iI u) (iI v) (iI c) (iI n) (iI m) (iF C) (iF H) (iF K) (iF L) = some (iI r, iI 0, iI (min r 0), iI m', iF C', iF H', iF K', iF L') ∧
      ((m' = m ∧ C' = C ∧ H' = H ∧ K' = K ∧ L' = L) ∨ (m < 200 ∧ m' = m + 1 ∧ 0 ≤ u ∧ u ≤ 120 ∧ 0 ≤ v ∧ v ≤ 1000 ∧ 0 ≤ p ∧ p < n ∧ 0 ≤ q ∧ q < c ∧ C' = upI C m.toNat q ∧ H' = upI H m.toNat u ∧ K' = upI K m.toNat v ∧ L' = upI L m.toNat p)) := by
  obtain ⟨p0, p1⟩ := hp
  obtain ⟨q0, q1⟩ := hq
  obtain ⟨u0, u1⟩ := hu
  obtain ⟨v0, v1⟩ := hv
  obtain ⟨c0, c1⟩ := hc
  obtain ⟨n0, n1⟩ := hn
  obtain ⟨m0, m1⟩ := hm
  by_cases h : 0 ≤ u ∧ u ≤ 120
  · by_cases h2 : 0 ≤ v ∧ v ≤ 1000
    · by_cases h3 : 0 ≤ p ∧ p < n
      · by_cases h4 : 0 ≤ q ∧ q < c
        · by_cases h5 : m < 200
          · have h6 : ¬ m = 200 := by omega
            refine ⟨m + 1, m + 1, upI C m.toNat q, upI H m.toNat u, upI K m.toNat v, upI L m.toNat p, ?_, ?_, Or.inr ⟨h5, rfl, h.1, h.2, h2.1, h2.2, h3.1, h3.2, h4.1, h4.2, rfl, rfl, rfl, rfl⟩⟩
            · simp (disch := omega) [mX9_see, mX8_tell, hour0, within0, isT0, isT8, ans_iI, iI_lt, iI_add, iI_sub, pu_iI, pu_in, h, h2, h3, h4, h5]
            · simp (disch := omega) [mX10_see, hour10, in0, iI_l, in_n, told_iI, iI_eq, iI_add, iI_sub, gd, wr, h, h2, h3, h4, h5, h6, m0]
          · have h6 : m = 200 := by omega
            refine ⟨-5, m, C, H, K, L, ?_, ?_, Or.inl ⟨rfl, rfl, rfl, rfl, rfl⟩⟩
            · simp (disch := omega) [mX9_see, mX8_tell, hour0, within0, isT0, isT8, ans_iI, iI_lt, h, h2, h3, h4, h5]
            · simp (disch := omega) [mX10_see, hour10, in0, iI_l, in_n, told_iI, iI_eq, h, h2, h3, h4, h6]
        · refine ⟨-2, m, C, H, K, L, ?_, ?_, Or.inl ⟨rfl, rfl, rfl, rfl, rfl⟩⟩
          · simp (disch := omega) [mX9_see, mX8_tell, hour0, within0, isT0, isT8, ans_iI, h, h2, h3, h4]
          · simp (disch := omega) [mX10_see, hour10, in0, iI_l, in_n, told_iI, h, h2, h3, h4]
      · refine ⟨-2, m, C, H, K, L, ?_, ?_, Or.inl ⟨rfl, rfl, rfl, rfl, rfl⟩⟩
        · simp (disch := omega) [mX9_see, mX8_tell, hour0, within0, isT0, isT8, ans_iI, h, h2, h3]
        · simp (disch := omega) [mX10_see, hour10, in0, iI_l, in_n, told_iI, h, h2, h3]
    · refine ⟨-1, m, C, H, K, L, ?_, ?_, Or.inl ⟨rfl, rfl, rfl, rfl, rfl⟩⟩
      · simp (disch := omega) [mX9_see, mX8_tell, hour0, within0, ans_iI, h, h2]
      · simp (disch := omega) [mX10_see, hour10, in0, iI_l, told_iI, h, h2]
  · refine ⟨-1, m, C, H, K, L, ?_, ?_, Or.inl ⟨rfl, rfl, rfl, rfl, rfl⟩⟩
    · simp (disch := omega) [mX9_see, mX8_tell, hour0, ans_iI, h]
    · simp (disch := omega) [mX10_see, hour10, told_iI, h]
theorem nar01 {v : Int} (h : v = 0 ∨ v = 1) : vp_nar .boolean (iI v) = iI v := by rcases h with rfl | rfl <;> rfl
theorem sim_line {a b mi ho se n : Int} {A B M Ho Se : Nat → Int} (ha : I32 a) (hb : I32 b) (hmi : I32 mi) (hho : I32 ho) (hse : se = 0 ∨ se = 1) (hn : 0 ≤ n ∧ n ≤ 30) :
    ∃ (r n' : Int) (A' B' M' Ho' Se' : Nat → Int), mX9_line (iI a) (iI b) (iI mi) (iI ho) (iI se) (iI n) (iF Ho) (iF M) (iF A) (iF B) (iF Se) = some (iI r, iI (min r 0), iI n', iF Ho', iF M', iF A', iF B', iF Se') ∧ mX10_line (iI a) (iI b) (iI mi) (iI ho) (iI se) (iI n) (iF A) (iF B) (iF Ho) (iF M) (iF Se) = some (iI r, iI 0, iI (min r 0), iI n', iF A', iF B', iF Ho', iF M', iF Se') ∧
      ((n' = n ∧ A' = A ∧ B' = B ∧ M' = M ∧ Ho' = Ho ∧ Se' = Se) ∨ (n < 30 ∧ n' = n + 1 ∧ 0 ≤ a ∧ a ≤ 15 ∧ 0 ≤ b ∧ b ≤ 15 ∧ a ≠ b ∧ 1 ≤ mi ∧ mi ≤ 200 ∧ 1 ≤ ho ∧ ho ≤ 12 ∧ A' = upI A n.toNat a ∧ B' = upI B n.toNat b ∧ M' = upI M n.toNat mi ∧ Ho' = upI Ho n.toNat ho ∧ Se' = upI Se n.toNat se)) := by
  obtain ⟨a0, a1⟩ := ha
  obtain ⟨b0, b1⟩ := hb
  obtain ⟨m0, m1⟩ := hmi
  obtain ⟨h0, h1⟩ := hho
  obtain ⟨n0, n1⟩ := hn
  have hnar := nar01 hse
  have hse0 : (iI se = 0) ↔ se = 0 := by rcases hse with rfl | rfl <;> decide
  have hse2 : ∀ (f : Nat → Int32), (if se = 0 then upd f n.toNat (iI 0) else upd f n.toNat (iI 1)) = upd f n.toNat (iI se) := by rcases hse with rfl | rfl <;> intro f <;> rfl
  by_cases c1 : 0 ≤ a ∧ a ≤ 15
  · by_cases c2 : 0 ≤ b ∧ b ≤ 15
    · by_cases c3 : a = b
      · refine ⟨-1, n, A, B, M, Ho, Se, ?_, ?_, Or.inl ⟨rfl, rfl, rfl, rfl, rfl, rfl⟩⟩
        · simp (disch := omega) [mX9_line, mX1_add, place0, ans_iI, iI_eq, c1, c2, c3]
        · simp (disch := omega) [mX10_line, place10, told_iI, iI_eq, c1, c2, c3]
      · by_cases c4 : 1 ≤ mi ∧ mi ≤ 200
        · by_cases c5 : 1 ≤ ho ∧ ho ≤ 12
          · by_cases c6 : n < 30
            · have c7 : ¬ n = 30 := by omega
              refine ⟨n, n + 1, upI A n.toNat a, upI B n.toNat b, upI M n.toNat mi, upI Ho n.toNat ho, upI Se n.toNat se, ?_, ?_, Or.inr ⟨c6, rfl, c1.1, c1.2, c2.1, c2.2, c3, c4.1, c4.2, c5.1, c5.2, rfl, rfl, rfl, rfl, rfl⟩⟩
              · rcases hse with rfl | rfl
                · simp (disch := omega) [mX9_line, mX1_add, mX1_add_J124, place0, within0, ans_iI, iI_eq, iI_lt, iI_add, iI_sub, pu_iI, pu_in, hse0, c1, c2, c3, c4, c5, c6]
                · simp (disch := omega) [mX9_line, mX1_add, mX1_add_J124, place0, within0, ans_iI, iI_eq, iI_lt, iI_add, iI_sub, pu_iI, pu_in, hse0, c1, c2, c3, c4, c5, c6]
              · simp (disch := omega) [mX10_line, place10, in0, iI_l, told_iI, iI_eq, iI_add, iI_sub, gd, wr, hnar, c1, c2, c3, c4, c5, c6, c7, n0]
            · have c7 : n = 30 := by omega
              refine ⟨-5, n, A, B, M, Ho, Se, ?_, ?_, Or.inl ⟨rfl, rfl, rfl, rfl, rfl, rfl⟩⟩
              · simp (disch := omega) [mX9_line, mX1_add, place0, within0, ans_iI, iI_eq, iI_lt, c1, c2, c3, c4, c5, c6]
              · simp (disch := omega) [mX10_line, place10, in0, iI_l, told_iI, iI_eq, c1, c2, c3, c4, c5, c7]
          · refine ⟨-1, n, A, B, M, Ho, Se, ?_, ?_, Or.inl ⟨rfl, rfl, rfl, rfl, rfl, rfl⟩⟩
            · simp (disch := omega) [mX9_line, mX1_add, place0, within0, ans_iI, iI_eq, c1, c2, c3, c4, c5]
            · simp (disch := omega) [mX10_line, place10, in0, iI_l, told_iI, iI_eq, c1, c2, c3, c4, c5]
        · refine ⟨-1, n, A, B, M, Ho, Se, ?_, ?_, Or.inl ⟨rfl, rfl, rfl, rfl, rfl, rfl⟩⟩
          · simp (disch := omega) [mX9_line, mX1_add, place0, within0, ans_iI, iI_eq, c1, c2, c3, c4]
          · simp (disch := omega) [mX10_line, place10, in0, iI_l, told_iI, iI_eq, c1, c2, c3, c4]
    · refine ⟨-1, n, A, B, M, Ho, Se, ?_, ?_, Or.inl ⟨rfl, rfl, rfl, rfl, rfl, rfl⟩⟩
      · simp (disch := omega) [mX9_line, mX1_add, place0, ans_iI, c1, c2]
      · simp (disch := omega) [mX10_line, place10, told_iI, c1, c2]
  · refine ⟨-1, n, A, B, M, Ho, Se, ?_, ?_, Or.inl ⟨rfl, rfl, rfl, rfl, rfl, rfl⟩⟩
    · simp (disch := omega) [mX9_line, mX1_add, place0, ans_iI, c1]
    · simp (disch := omega) [mX10_line, place10, told_iI, c1]
