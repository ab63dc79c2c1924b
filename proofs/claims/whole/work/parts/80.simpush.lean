/-! PUSHED: answers -/
section P9
variable {T : Nat → F1} {PU : F1} {E : Int} {N : Nat} {S M : F1}
theorem fillm_go (kk : (Nat → Int32) → Option (Int32 × (Nat → Int32) × (Nat → Int32) × (Nat → Int32) × (Nat → Int32))) {Z : Nat} (hZ : Z = 1920) : ∀ (d i m : Nat) (C : F1), i + d = Z → d < m → ∃ C' : F1, mX10_place_L2 kk m (iI (i : Int)) (iF C) = kk (iF C') ∧ ∀ v : Nat, v < Z → (i ≤ v → C' v = -1) ∧ (v < i → C' v = C v) := by
  intro d
  induction d with
  | zero =>
    intro i m C hi hm
    obtain ⟨m, rfl⟩ : ∃ a, m = a + 1 := ⟨m - 1, by omega⟩
    refine ⟨C, ?_, fun v hv => ⟨fun h => by omega, fun _ => rfl⟩⟩
    rw [mX10_place_L2, if_pos ((iI_le (by omega) (by omega) (by omega) (by omega)).mpr (by omega))]
  | succ d ih =>
    intro i m C hi hm
    obtain ⟨m, rfl⟩ : ∃ a, m = a + 1 := ⟨m - 1, by omega⟩
    have ei : (i : Int).toNat = i := by omega
    have g := gdn (z := (i : Int)) (n := 1920) (by omega) (by omega) (by omega)
    obtain ⟨C', x1, x2⟩ := ih (i + 1) m (upI C i (-1)) (by omega) (by omega)
    refine ⟨C', ?_, fun v hv => ⟨fun h => ?_, fun h => ?_⟩⟩
    · rw [mX10_place_L2, if_neg (fun k => by have := (iI_le (by omega) (by omega) (by omega) (by omega)).mp k; omega), if_neg g, wr (by omega) (by omega), ei, iI_add]
      exact x1
    · by_cases e : v = i
      · rw [(x2 v hv).2 (by omega), e, upI_s]
      · exact (x2 v hv).1 (by omega)
    · rw [(x2 v hv).2 (by omega), upI_n (by omega)]
theorem fill0_go (kk : (Nat → Int32) → Option (Int32 × Int32 × Int32 × Int32 × (Nat → Int32) × (Nat → Int32) × (Nat → Int32) × (Nat → Int32) × (Nat → Int32) × (Nat → Int32) × (Nat → Int32) × (Nat → Int32))) {Z : Nat} (hZ : Z = 1920) : ∀ (d i m : Nat) (C : F1), i + d = Z → d < m → ∃ C' : F1, mX10_pushed_L24 kk m (iI (i : Int)) (iF C) = kk (iF C') ∧ ∀ v : Nat, v < Z → (i ≤ v → C' v = 0) ∧ (v < i → C' v = C v) := by
  intro d
  induction d with
  | zero =>
    intro i m C hi hm
    obtain ⟨m, rfl⟩ : ∃ a, m = a + 1 := ⟨m - 1, by omega⟩
    refine ⟨C, ?_, fun v hv => ⟨fun h => by omega, fun _ => rfl⟩⟩
    rw [mX10_pushed_L24, if_pos ((iI_le (by omega) (by omega) (by omega) (by omega)).mpr (by omega))]
  | succ d ih =>
    intro i m C hi hm
    obtain ⟨m, rfl⟩ : ∃ a, m = a + 1 := ⟨m - 1, by omega⟩
    have ei : (i : Int).toNat = i := by omega
    have g := gdn (z := (i : Int)) (n := 1920) (by omega) (by omega) (by omega)
    obtain ⟨C', x1, x2⟩ := ih (i + 1) m (upI C i 0) (by omega) (by omega)
    refine ⟨C', ?_, fun v hv => ⟨fun h => ?_, fun h => ?_⟩⟩
    · rw [mX10_pushed_L24, if_neg (fun k => by have := (iI_le (by omega) (by omega) (by omega) (by omega)).mp k; omega), if_neg g, wr (by omega) (by omega), ei, iI_add]
      exact x1
    · by_cases e : v = i
      · rw [(x2 v hv).2 (by omega), e, upI_s]
      · exact (x2 v hv).1 (by omega)
    · rw [(x2 v hv).2 (by omega), upI_n (by omega)]
end P9
