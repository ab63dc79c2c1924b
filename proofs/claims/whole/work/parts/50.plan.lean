/-! OF, IS, BUSY, LACK, COUNT, RATES -/
/-- of each line: no order, or an order's gangs and hours -/
def PF (wi bg dn : F1) : Prop := ∀ l : Nat, l < 30 → (wi l = 0 ∧ bg l = 1000000 ∧ dn l = 1000000) ∨ (1 ≤ wi l ∧ wi l ≤ 99 ∧ 0 ≤ bg l ∧ bg l < dn l ∧ dn l ≤ 9000)
section PL
variable {n no : Int} {A B M Ho Se oL af hr wi rL rA rH rW bg dn : F1} {rs ro : Int}
theorem ordered_or (hp : PV n no oL af hr wi) (l : Nat) : (∀ j : Nat, (j : Int) < no → (oL j).toNat ≠ l) ∨ ∃ j : Nat, (j : Int) < no ∧ (oL j).toNat = l := by
  by_cases h : ∀ j : Nat, (j : Int) < no → (oL j).toNat ≠ l
  · exact Or.inl h
  · simp only [Classical.not_forall, not_imp, Classical.not_not] at h
    obtain ⟨j, hj, e⟩ := h
    exact Or.inr ⟨j, hj, e⟩
theorem pf_rk (hl : LV n A B M Ho Se rs ro) (hp : PV n no oL af hr wi) : PF wi (rk oL af hr wi M Se rs ro no.toNat NV).1 (rk oL af hr wi M Se rs ro no.toNat NV).2 := by
  intro l hl2
  have h0 := hp.1
  have h30 := hp.2.1
  obtain ⟨i1, i2⟩ := rk_ok hl hp no.toNat (by omega)
  rcases ordered_or hp l with h | ⟨j, hj, e⟩
  · refine Or.inl ⟨hp.2.2.2 l hl2 (fun k hk e => h k hk (by omega)), ?_⟩
    exact i2 l (fun j hj => h j (by omega))
  · have h1 := i1 j (by omega)
    obtain ⟨-, -, -, -, w0, w1, -, -⟩ := hp.2.2.1 j hj
    rw [e] at h1 w0 w1
    exact Or.inr ⟨w0, w1, by omega, by omega, by omega⟩
theorem pf_ord (hp : PV n no oL af hr wi) {l : Nat} (hl : l < 30) (hw : 1 ≤ wi l) : ∃ j : Nat, (j : Int) < no ∧ (oL j).toNat = l := by
  rcases ordered_or hp l with h | h
  · have := hp.2.2.2 l hl (fun k hk e => h k hk (by omega))
    omega
  · exact h
/-- all that both sides hold of the plan in force -/
def PI (n no : Int) (A B M Ho Se oL af hr wi rL rA rH rW BG DN : F1) (rs ro : Int) : Prop := LV n A B M Ho Se rs ro ∧ PV n no oL af hr wi ∧ RV no oL af hr wi rL rA rH rW ∧ ∀ l : Nat, l < 30 → BG l = (rk oL af hr wi M Se rs ro no.toNat NV).1 l ∧ DN l = (rk oL af hr wi M Se rs ro no.toNat NV).2 l
variable {BG DN : F1}
theorem PI.pf (h : PI n no A B M Ho Se oL af hr wi rL rA rH rW BG DN rs ro) : PF wi BG DN := by
  intro l hl
  rw [(h.2.2.2 l hl).1, (h.2.2.2 l hl).2]
  exact pf_rk h.1 h.2.1 l hl
theorem PI.reckon (h : PI n no A B M Ho Se oL af hr wi rL rA rH rW BG DN rs ro) (X Y W : F1) : ∃ X' Y' W' : F1, mX10_reckon (iI rs) (iI ro) (iI no) (iF X) (iF Y) (iF M) (iF Se) (iF rA) (iF rH) (iF rL) (iF rW) (iF W) = some (iF X', iF Y', iF W') ∧ ∀ l : Nat, l < 30 → X' l = BG l ∧ Y' l = DN l ∧ W' l = wi l := by
  obtain ⟨X', Y', W', e1, e2⟩ := reckon10 h.1 h.2.1 h.2.2.1 X Y W
  refine ⟨X', Y', W', e1, fun l hl => ?_⟩
  rw [(h.2.2.2 l hl).1, (h.2.2.2 l hl).2]
  exact e2 l hl
theorem isLine0 {z n : Int} (h0 : -2147483648 ≤ z) (h1 : z < 2147483648) (h2 : 0 ≤ n) (h3 : n < 2000000000) : (mX10_isLine (iI z) (iI n) = 0) ↔ ¬ (0 ≤ z ∧ z < n) := by
  rw [mX10_isLine, iI_l h0 h1, iI_l (by omega) (by omega)]
  exact in_n h0 h1 h2 h3
theorem hasO {l : Nat} (hl : l < 30) (hf : PF wi BG DN) : (mX2_hasOrder (iI (l : Int)) (iF wi) = 0) ↔ wi l = 0 := by
  have hh := hf l hl
  have e : (l : Int).toNat = l := by omega
  rw [mX2_hasOrder, at_iI (by omega) (by omega) (by omega), at_in (by omega) (by omega), e]
  by_cases c : wi l ≤ 0
  · rw [if_pos ((iI_le0 (by omega) (by omega)).mpr c)]
    have : wi l = 0 := by omega
    simp [this, iI_0]
  · rw [if_neg (fun g => c ((iI_le0 (by omega) (by omega)).mp g)), iI_eq0 (by omega) (by omega)]
    omega
theorem sim_of {p q : Int} (hp : I32 p) (hq : I32 q) (h : PI n no A B M Ho Se oL af hr wi rL rA rH rW BG DN rs ro) (X Y W : F1) :
    ∃ (r : Int) (X' Y' W' : F1), mX9_of (iI p) (iI q) (iI n) (iF BG) (iF DN) (iF wi) = iI r ∧ mX10_of (iI p) (iI q) (iI n) (iI rs) (iI ro) (iI no) (iF X) (iF Y) (iF M) (iF Se) (iF rA) (iF rH) (iF rL) (iF rW) (iF W) = some (iI r, iI 0, iF X', iF Y', iF W') := by
  have hf := h.pf
  obtain ⟨p0, p1⟩ := hp
  obtain ⟨q0, q1⟩ := hq
  have n0 := h.1.1
  have n1 := h.1.2.1
  by_cases c : 0 ≤ p ∧ p < n
  · obtain ⟨X', Y', W', e1, e2⟩ := h.reckon X Y W
    obtain ⟨l, rfl⟩ := Int.eq_ofNat_of_zero_le c.1
    have hl : l < 30 := by omega
    have ll : (l : Int).toNat = l := by omega
    obtain ⟨x1, x2, x3⟩ := e2 l hl
    have hh := hf l hl
    have ho := hasO hl hf
    have g := gdn (z := (l : Int)) (n := 30) (by omega) (by omega) (by omega)
    have hc : ¬ ¬ (0 ≤ (l : Int) ∧ (l : Int) < n) := fun k => k c
    have b1 : ∀ F : F1, mX9_at 30 (iI (l : Int)) (iF F) = iI (F l) := fun F => by rw [at_iI (by omega) (by omega) (by omega), at_in (by omega) (by omega), ll]
    have b2 : ∀ F : F1, iF F (iI (l : Int)).toNatClampNeg = iI (F l) := fun F => by rw [rd (by omega) (by omega), ll]
    have a1 : mX9_of (iI (l : Int)) (iI q) (iI n) (iF BG) (iF DN) (iF wi) = (if iI q = iI 0 then mX2_beginsOf (iI (l : Int)) (iF BG) (iF wi) else if iI q = iI 1 then mX2_doneOf (iI (l : Int)) (iF DN) (iF wi) else if iI q = iI 2 then mX2_gangsOf (iI (l : Int)) (iF wi) else iI (-1)) := by
      rw [mX9_of, if_neg (fun k => hc ((isT1 (by omega) (by omega) n0 (by omega)).mp k))]
    have a2 : mX10_of (iI (l : Int)) (iI q) (iI n) (iI rs) (iI ro) (iI no) (iF X) (iF Y) (iF M) (iF Se) (iF rA) (iF rH) (iF rL) (iF rW) (iF W) = (if iI q = iI 2 then some (iI (wi l), iI 0, iF X', iF Y', iF W') else if iI (wi l) = 0 then some (iI (-1), iI 0, iF X', iF Y', iF W') else if iI q = 0 then some (iI (BG l), iI 0, iF X', iF Y', iF W') else if iI q = iI 1 then some (iI (DN l), iI 0, iF X', iF Y', iF W') else some (iI (-1), iI 0, iF X', iF Y', iF W')) := by
      rw [mX10_of, if_neg (fun k => hc ((isLine0 (by omega) (by omega) n0 (by omega)).mp k)), e1]
      simp only [Option.bind_some, if_neg g, b2, x1, x2, x3]
    rw [a1, a2]
    by_cases k2 : q = 2
    · refine ⟨wi l, X', Y', W', ?_, ?_⟩
      · simp (disch := omega) [k2, iI_eq, mX2_gangsOf, b1]
      · simp [k2]
    · by_cases kw : wi l = 0
      · refine ⟨-1, X', Y', W', ?_, ?_⟩
        · have ho2 := ho.mpr kw
          simp (disch := omega) [iI_eq, k2, mX2_beginsOf, mX2_doneOf, ho2]
        · simp (disch := omega) [iI_eq, k2, kw, iI_eq0]
      · have ho2 : ¬ mX2_hasOrder (iI (l : Int)) (iF wi) = 0 := fun k => kw (ho.mp k)
        by_cases k0 : q = 0
        · refine ⟨BG l, X', Y', W', ?_, ?_⟩
          · simp [k0, mX2_beginsOf, ho2, b1]
          · simp (disch := omega) [k0, kw, iI_eq0, iI_eq]
        · by_cases k1 : q = 1
          · refine ⟨DN l, X', Y', W', ?_, ?_⟩
            · simp (disch := omega) [k1, mX2_doneOf, ho2, b1, iI_eq]
            · simp (disch := omega) [k1, kw, iI_eq0, iI_eq]
          · refine ⟨-1, X', Y', W', ?_, ?_⟩
            · simp (disch := omega) [k0, k1, k2, iI_eq]
            · simp (disch := omega) [k0, k1, k2, kw, iI_eq0, iI_eq]
  · refine ⟨-1, X, Y, W, ?_, ?_⟩
    · rw [mX9_of, if_pos ((isT1 p0 p1 n0 (by omega)).mpr c)]
    · rw [mX10_of, if_pos ((isLine0 p0 p1 n0 (by omega)).mpr c)]
theorem state_iI {l : Nat} {h : Int} (hl : l < 30) (hh : 0 ≤ h ∧ h ≤ 120) (hf : PF wi BG DN) : mX2_stateOf (iI (l : Int)) (iI h) (iF BG) (iF DN) = iI (if BG l ≤ h then (if DN l ≤ h then 2 else 1) else 0) := by
  have ll : (l : Int).toNat = l := by omega
  have hx := hf l hl
  rw [mX2_stateOf, at_iI (by omega) (by omega) (by omega), at_in (by omega) (by omega), ll, at_iI (by omega) (by omega) (by omega), at_in (by omega) (by omega), ll]
  by_cases c : BG l ≤ h
  · rw [if_pos ((iI_le (by omega) (by omega) (by omega) (by omega)).mpr c), if_pos c]
    by_cases d : DN l ≤ h
    · rw [if_pos ((iI_le (by omega) (by omega) (by omega) (by omega)).mpr d), if_pos d]
    · rw [if_neg (fun k => d ((iI_le (by omega) (by omega) (by omega) (by omega)).mp k)), if_neg d]
  · rw [if_neg (fun k => c ((iI_le (by omega) (by omega) (by omega) (by omega)).mp k)), if_neg c]
theorem sim_is {p q : Int} (hp : I32 p) (hq : I32 q) (h : PI n no A B M Ho Se oL af hr wi rL rA rH rW BG DN rs ro) (X Y W : F1) :
    ∃ (r : Int) (X' Y' W' : F1), mX9_is (iI p) (iI q) (iI n) (iF BG) (iF DN) = iI r ∧ mX10_is (iI p) (iI q) (iI n) (iI rs) (iI ro) (iI no) (iF X) (iF Y) (iF M) (iF Se) (iF rA) (iF rH) (iF rL) (iF rW) (iF W) = some (iI r, iI 0, iF X', iF Y', iF W') := by
  have hf := h.pf
  obtain ⟨p0, p1⟩ := hp
  obtain ⟨q0, q1⟩ := hq
  have n0 := h.1.1
  have n1 := h.1.2.1
  by_cases c : 0 ≤ p ∧ p < n
  · by_cases d : 0 ≤ q ∧ q ≤ 120
    · obtain ⟨X', Y', W', e1, e2⟩ := h.reckon X Y W
      obtain ⟨l, rfl⟩ := Int.eq_ofNat_of_zero_le c.1
      have hl : l < 30 := by omega
      have ll : (l : Int).toNat = l := by omega
      obtain ⟨x1, x2, x3⟩ := e2 l hl
      have hh := hf l hl
      have g := gdn (z := (l : Int)) (n := 30) (by omega) (by omega) (by omega)
      have hc : ¬ ¬ (0 ≤ (l : Int) ∧ (l : Int) < n) := fun k => k c
      have hd : ¬ ¬ (0 ≤ q ∧ q ≤ 120) := fun k => k d
      have b2 : ∀ F : F1, iF F (iI (l : Int)).toNatClampNeg = iI (F l) := fun F => by rw [rd (by omega) (by omega), ll]
      refine ⟨if BG l ≤ q then (if DN l ≤ q then 2 else 1) else 0, X', Y', W', ?_, ?_⟩
      · rw [mX9_is, if_neg (fun k => hc ((isT1 (by omega) (by omega) n0 (by omega)).mp k)), if_neg (fun k => hd ((hour0 q0 q1).mp k)), state_iI hl d hf]
      · rw [mX10_is, if_neg (fun k => hc ((isLine0 (by omega) (by omega) n0 (by omega)).mp k)), if_neg (fun k => hd ((hour10 q0 q1).mp k)), e1]
        simp only [Option.bind_some, if_neg g, b2, x1, x2]
        by_cases k1 : BG l ≤ q
        · by_cases k2 : DN l ≤ q
          · simp (disch := omega) [iI_le, k1, k2]
          · simp (disch := omega) [iI_le, k1, k2]
        · simp (disch := omega) [iI_le, k1]
    · refine ⟨-1, X, Y, W, ?_, ?_⟩
      · rw [mX9_is, if_neg (fun k => (isT1 p0 p1 n0 (by omega)).mp k c), if_pos ((hour0 q0 q1).mpr d)]
      · rw [mX10_is, if_neg (fun k => (isLine0 p0 p1 n0 (by omega)).mp k c), if_pos ((hour10 q0 q1).mpr d)]
  · refine ⟨-1, X, Y, W, ?_, ?_⟩
    · rw [mX9_is, if_pos ((isT1 p0 p1 n0 (by omega)).mpr c)]
    · rw [mX10_is, if_pos ((isLine0 p0 p1 n0 (by omega)).mpr c)]
end PL
