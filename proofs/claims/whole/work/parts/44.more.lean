/-! STEP, HAS, UNDER, FEED -/
theorem sim_step {p st : Int} {R : Nat → Int} (hp : I32 p) (hs : -1 ≤ st ∧ st ≤ 31) : ∃ r : Int, mX9_step (iI p) (iI st) (iF R) = iI r ∧ mX10_step (iI p) (iI st) (iF R) = some (iI r, iI 0) := by
  obtain ⟨p0, p1⟩ := hp
  obtain ⟨s0, s1⟩ := hs
  by_cases h : p = -1
  · by_cases h2 : 0 ≤ st
    · refine ⟨st, ?_, ?_⟩ <;> simp (disch := omega) [mX9_step, mX7_stepOfLatest, mX10_step, iI_lt0, iI_ge0, iI_gt0, iI_le0, iI_eq0, iI_eq, iI_le, h, h2]
    · have h3 : st = -1 := by omega
      refine ⟨-1, ?_, ?_⟩ <;> simp (disch := omega) [mX9_step, mX7_stepOfLatest, mX10_step, iI_lt0, iI_ge0, iI_gt0, iI_le0, iI_eq0, iI_eq, iI_le, h, h3]
  · by_cases h2 : 0 ≤ st
    · by_cases h3 : 0 ≤ p ∧ p < st
      · have h4 : ¬ p < 0 := by omega
        have h5 : ¬ st ≤ p := by omega
        have h6 : p < 32 := by omega
        refine ⟨R p.toNat, ?_, ?_⟩
        · simp (disch := omega) [mX9_step, mX7_stepOfLatest, iI_lt0, iI_ge0, iI_gt0, iI_le0, iI_eq0, iI_eq, iI_le, iI_lt, at_iI, at_in, h, h4, h5]
        · simp (disch := omega) [mX10_step, in_n, iI_l, iI_lt0, iI_ge0, iI_gt0, iI_le0, iI_eq0, iI_eq, iI_le, iI_lt, iI_cl, iF_at, h, h2, h3, h4] <;> omega
      · refine ⟨-1, ?_, ?_⟩
        · by_cases h4 : p < 0
          · simp (disch := omega) [mX9_step, mX7_stepOfLatest, iI_lt0, iI_ge0, iI_gt0, iI_le0, iI_eq0, iI_eq, iI_lt, h, h4]
          · have h5 : st ≤ p := by omega
            simp (disch := omega) [mX9_step, mX7_stepOfLatest, iI_lt0, iI_ge0, iI_gt0, iI_le0, iI_eq0, iI_eq, iI_le, iI_lt, h, h4, h5]
        · simp (disch := omega) [mX10_step, in_n, iI_l, iI_lt0, iI_ge0, iI_gt0, iI_le0, iI_eq0, iI_eq, iI_le, h, h2] <;> omega
    · have h3 : st = -1 := by omega
      refine ⟨-1, ?_, ?_⟩
      · by_cases h4 : p < 0
        · simp (disch := omega) [mX9_step, mX7_stepOfLatest, iI_lt0, iI_ge0, iI_gt0, iI_le0, iI_eq0, iI_eq, iI_lt, h, h4]
        · have h5 : st ≤ p := by omega
          simp (disch := omega) [mX9_step, mX7_stepOfLatest, iI_lt0, iI_ge0, iI_gt0, iI_le0, iI_eq0, iI_eq, iI_le, iI_lt, h, h4, h5]
      · simp (disch := omega) [mX10_step, iI_lt0, iI_ge0, iI_gt0, iI_le0, iI_eq0, iI_le, h3]
/-- what is known of the latest PUSHED on both sides -/
def HAS (n hl pc : Int) (cs ds : Nat → Int) : Prop := (hl = 0 ∧ pc = -1) ∨ (hl = 1 ∧ 0 ≤ pc ∧ pc ≤ n ∧ (∀ k : Nat, (k : Int) < pc → (cs k = -1 ↔ ds k = -1)) ∧ ∀ k : Nat, k < 30 → pc ≤ (k : Int) → cs k = -1)
theorem sim_has {p n hl pc : Int} {cs ds : Nat → Int} (hp : I32 p) (hn : 0 ≤ n ∧ n ≤ 30) (hc : ∀ k, I32 (cs k)) (hd : ∀ k, I32 (ds k)) (hh : HAS n hl pc cs ds) : ∃ r : Int, mX9_has (iI p) (iI n) (iI hl) (iF cs) = iI r ∧ mX10_has (iI p) (iI n) (iI pc) (iF ds) = some (iI r, iI 0) := by
  obtain ⟨p0, p1⟩ := hp
  obtain ⟨n0, n1⟩ := hn
  by_cases h : 0 ≤ p ∧ p < n
  · obtain ⟨c0, c1⟩ := hc p.toNat
    obtain ⟨d0, d1⟩ := hd p.toNat
    rcases hh with ⟨rfl, rfl⟩ | ⟨rfl, q0, q1, q2, q3⟩
    · refine ⟨-1, ?_, ?_⟩ <;> simp (disch := omega) [mX9_has, mX5_isInLatest, mX10_has, isT0, iI_lt0, iI_ge0, iI_gt0, iI_le0, iI_eq0, iI_eq, iI_lt, h]
    · have hq : ¬ pc < 0 := by omega
      by_cases h2 : pc ≤ p
      · have h3 := q3 p.toNat (by omega) (by omega)
        refine ⟨0, ?_, ?_⟩
        · simp (disch := omega) [mX9_has, mX5_isInLatest, isT0, iI_lt0, iI_ge0, iI_gt0, iI_le0, iI_eq0, iI_eq, at_iI, at_in, h, h3]
        · simp (disch := omega) [mX10_has, in_n, iI_l, iI_lt0, iI_ge0, iI_gt0, iI_le0, iI_eq0, iI_lt, iI_le, hq, h, h2]
      · have h3 := q2 p.toNat (by omega)
        by_cases h4 : cs p.toNat = -1
        · have h5 := h3.mp h4
          refine ⟨0, ?_, ?_⟩
          · simp (disch := omega) [mX9_has, mX5_isInLatest, isT0, iI_lt0, iI_ge0, iI_gt0, iI_le0, iI_eq0, iI_eq, at_iI, at_in, h, h4]
          · simp (disch := omega) [mX10_has, in_n, iI_l, iI_lt0, iI_ge0, iI_gt0, iI_le0, iI_eq0, iI_lt, iI_le, iI_eq, iI_cl, iF_at, hq, h, h2, h5] <;> omega
        · have h5 : ¬ ds p.toNat = -1 := fun e => h4 (h3.mpr e)
          refine ⟨1, ?_, ?_⟩
          · simp (disch := omega) [mX9_has, mX5_isInLatest, isT0, iI_lt0, iI_ge0, iI_gt0, iI_le0, iI_eq0, iI_eq, at_iI, at_in, h, h4]
          · simp (disch := omega) [mX10_has, in_n, iI_l, iI_lt0, iI_ge0, iI_gt0, iI_le0, iI_eq0, iI_lt, iI_le, iI_eq, iI_cl, iF_at, hq, h, h2, h5] <;> omega
  · refine ⟨-1, ?_, ?_⟩
    · simp (disch := omega) [mX9_has, isT0, h]
    · have hq : I32 pc := by rcases hh with ⟨rfl, rfl⟩ | ⟨rfl, q0, q1, -⟩ <;> (constructor <;> omega)
      obtain ⟨e0, e1⟩ := hq
      by_cases h2 : pc < 0
      · simp (disch := omega) [mX10_has, iI_lt0, iI_ge0, iI_gt0, iI_le0, iI_eq0, iI_lt, h2]
      · simp (disch := omega) [mX10_has, in_n, iI_l, iI_lt0, iI_ge0, iI_gt0, iI_le0, iI_eq0, iI_lt, h, h2]
theorem under_go {p h k m w0 : Int} {C H K L : Nat → Int} (hp : I32 p) (hh : I32 h) (hk : I32 k) (hm : 0 ≤ m ∧ m ≤ 200) (hH : ∀ i : Nat, (i : Int) < m → 0 ≤ H i ∧ H i ≤ 120) (hK : ∀ i : Nat, (i : Int) < m → 0 ≤ K i ∧ K i ≤ 1000) (hL : ∀ i : Nat, (i : Int) < m → 0 ≤ L i ∧ L i ≤ 60) (kk : Int32 → Option (Int32 × Int32)) :
    ∀ (d : Nat) (i its car lat : Int) (n1 n2 : Nat), 0 ≤ i → i + d = m → d < n1 → d < n2 → ((its = -1 ∧ car = w0 ∧ lat = -1) ∨ (0 ≤ its ∧ its < i ∧ car = C its.toNat ∧ lat = H its.toNat)) →
      ∃ r its' : Int, mX8_carOver_L44 (iI p) (iI h) (iI k) (iI m) (iF C) (iF H) (iF K) (iF L) n1 (iI car) (iI lat) (iI i) = some (iI r) ∧ mX10_under_L48 (iI p) (iI h) (iI k) (iI 0) (iI m) (iF H) (iF K) (iF L) kk n2 (iI its) (iI i) = kk (iI its') ∧ ((its' = -1 ∧ r = w0) ∨ (0 ≤ its' ∧ its' < m ∧ r = C its'.toNat)) := by
  obtain ⟨p0, p1⟩ := hp
  obtain ⟨h0, h1⟩ := hh
  obtain ⟨k0, k1⟩ := hk
  obtain ⟨m0, m1⟩ := hm
  intro d
  induction d with
  | zero =>
    intro i its car lat n1 n2 hi he hn1 hn2 hr
    obtain ⟨n1, rfl⟩ : ∃ a, n1 = a + 1 := ⟨n1 - 1, by omega⟩
    obtain ⟨n2, rfl⟩ : ∃ a, n2 = a + 1 := ⟨n2 - 1, by omega⟩
    have hc : m ≤ i := by omega
    refine ⟨car, its, ?_, ?_, ?_⟩
    · rw [mX8_carOver_L44]
      simp (disch := omega) [iI_le, hc]
    · rw [mX10_under_L48]
      simp (disch := omega) [iI_le, hc]
    · rcases hr with ⟨a, b, c⟩ | ⟨a, b, c, -⟩
      · exact Or.inl ⟨a, b⟩
      · exact Or.inr ⟨a, by omega, c⟩
  | succ d ih =>
    intro i its car lat n1 n2 hi he hn1 hn2 hr
    obtain ⟨n1, rfl⟩ : ∃ a, n1 = a + 1 := ⟨n1 - 1, by omega⟩
    obtain ⟨n2, rfl⟩ : ∃ a, n2 = a + 1 := ⟨n2 - 1, by omega⟩
    have hc : ¬ m ≤ i := by omega
    obtain ⟨a0, a1⟩ := hH i.toNat (by omega)
    obtain ⟨b0, b1⟩ := hK i.toNat (by omega)
    obtain ⟨e0, e1⟩ := hL i.toNat (by omega)
    have hlat : -1 ≤ lat ∧ lat ≤ 120 := by
      rcases hr with ⟨-, -, rfl⟩ | ⟨q0, q1, -, rfl⟩
      · omega
      · have := hH its.toNat (by omega)
        omega
    obtain ⟨l0, l1⟩ := hlat
    have hits : -1 ≤ its ∧ its < i := by
      rcases hr with ⟨rfl, -⟩ | ⟨q0, q1, -⟩ <;> omega
    have i1 : ¬ i < 0 := by omega
    have i2 : ¬ 200 ≤ i := by omega
    have hr' : (its = -1 ∧ car = w0 ∧ lat = -1) ∨ (0 ≤ its ∧ its < i + 1 ∧ car = C its.toNat ∧ lat = H its.toNat) := by
      rcases hr with ⟨a, b, c⟩ | ⟨a, b, c⟩
      · exact Or.inl ⟨a, b, c⟩
      · exact Or.inr ⟨a, by omega, c⟩
    by_cases c1 : L i.toNat = p
    · by_cases c2 : k < K i.toNat
      · by_cases c3 : h < H i.toNat
        · obtain ⟨r, its', e1, e2, e3⟩ := ih (i + 1) its _ _ n1 n2 (by omega) (by omega) (by omega) (by omega) hr'
          refine ⟨r, its', ?_, ?_, e3⟩
          · rw [mX8_carOver_L44]
            simp (disch := omega) [mX8_carOver_J84, mX10_under_J95, iI_le, iI_lt, iI_eq, iI_lt0, iI_eq0, iI_cl, iF_at, at_iI, at_in, iI_add, within0, hc, i1, i2, c1, c2, c3, e1]
          · rw [mX10_under_L48]
            simp (disch := omega) [mX8_carOver_J84, mX10_under_J95, iI_le, iI_lt, iI_eq, iI_lt0, iI_eq0, iI_cl, iF_at, at_iI, at_in, iI_add, within0, hc, i1, i2, c1, c2, c3, e2]
        · obtain ⟨r, its', e1, e2, e3⟩ := ih (i + 1) its _ _ n1 n2 (by omega) (by omega) (by omega) (by omega) hr'
          refine ⟨r, its', ?_, ?_, e3⟩
          · rw [mX8_carOver_L44]
            simp (disch := omega) [mX8_carOver_J84, mX10_under_J95, iI_le, iI_lt, iI_eq, iI_lt0, iI_eq0, iI_cl, iF_at, at_iI, at_in, iI_add, within0, hc, i1, i2, c1, c2, c3, e1]
          · rw [mX10_under_L48]
            simp (disch := omega) [mX8_carOver_J84, mX10_under_J95, iI_le, iI_lt, iI_eq, iI_lt0, iI_eq0, iI_cl, iF_at, at_iI, at_in, iI_add, within0, hc, i1, i2, c1, c2, c3, e2]
      · by_cases c3 : h < H i.toNat
        · have c4 : ¬ (lat ≤ H i.toNat ∧ H i.toNat ≤ h) := by omega
          obtain ⟨r, its', e1, e2, e3⟩ := ih (i + 1) its _ _ n1 n2 (by omega) (by omega) (by omega) (by omega) hr'
          refine ⟨r, its', ?_, ?_, e3⟩
          · rw [mX8_carOver_L44]
            simp (disch := omega) [mX8_carOver_J84, mX10_under_J95, iI_le, iI_lt, iI_eq, iI_lt0, iI_eq0, iI_cl, iF_at, at_iI, at_in, iI_add, within0, hc, i1, i2, c1, c2, c3, c4, e1]
          · rw [mX10_under_L48]
            simp (disch := omega) [mX8_carOver_J84, mX10_under_J95, iI_le, iI_lt, iI_eq, iI_lt0, iI_eq0, iI_cl, iF_at, at_iI, at_in, iI_add, within0, hc, i1, i2, c1, c2, c3, c4, e2]
        · rcases hr with ⟨rfl, rfl, rfl⟩ | ⟨q0, q1, rfl, rfl⟩
          · have c4 : (-1 ≤ H i.toNat ∧ H i.toNat ≤ h) := by omega
            obtain ⟨r, its', e1, e2, e3⟩ := ih (i + 1) i (C i.toNat) (H i.toNat) n1 n2 (by omega) (by omega) (by omega) (by omega) (Or.inr ⟨hi, by omega, rfl, rfl⟩)
            refine ⟨r, its', ?_, ?_, e3⟩
            · rw [mX8_carOver_L44]
              simp (disch := omega) [mX8_carOver_J84, mX10_under_J95, iI_le, iI_lt, iI_eq, iI_lt0, iI_eq0, iI_cl, iF_at, at_iI, at_in, iI_add, within0, hc, i1, i2, c1, c2, c3, c4, e1]
            · rw [mX10_under_L48]
              simp (disch := omega) [mX8_carOver_J84, mX10_under_J95, iI_le, iI_lt, iI_eq, iI_lt0, iI_eq0, iI_cl, iF_at, at_iI, at_in, iI_add, within0, hc, i1, i2, c1, c2, c3, c4, e2]
          · obtain ⟨f0, f1⟩ := hH its.toNat (by omega)
            have c5 : ¬ its < 0 := by omega
            have g2 : ¬ 200 ≤ its := by omega
            by_cases c6 : H i.toNat < H its.toNat
            · have c4 : ¬ (H its.toNat ≤ H i.toNat ∧ H i.toNat ≤ h) := by omega
              obtain ⟨r, its', e1, e2, e3⟩ := ih (i + 1) its _ _ n1 n2 (by omega) (by omega) (by omega) (by omega) hr'
              refine ⟨r, its', ?_, ?_, e3⟩
              · rw [mX8_carOver_L44]
                simp (disch := omega) [mX8_carOver_J84, mX10_under_J95, iI_le, iI_lt, iI_eq, iI_lt0, iI_eq0, iI_cl, iF_at, at_iI, at_in, iI_add, within0, hc, i1, i2, c1, c2, c3, c4, c5, c6, g2, e1]
              · rw [mX10_under_L48]
                simp (disch := omega) [mX8_carOver_J84, mX10_under_J95, iI_le, iI_lt, iI_eq, iI_lt0, iI_eq0, iI_cl, iF_at, at_iI, at_in, iI_add, within0, hc, i1, i2, c1, c2, c3, c4, c5, c6, g2, e2]
            · have c4 : (H its.toNat ≤ H i.toNat ∧ H i.toNat ≤ h) := by omega
              obtain ⟨r, its', e1, e2, e3⟩ := ih (i + 1) i (C i.toNat) (H i.toNat) n1 n2 (by omega) (by omega) (by omega) (by omega) (Or.inr ⟨hi, by omega, rfl, rfl⟩)
              refine ⟨r, its', ?_, ?_, e3⟩
              · rw [mX8_carOver_L44]
                simp (disch := omega) [mX8_carOver_J84, mX10_under_J95, iI_le, iI_lt, iI_eq, iI_lt0, iI_eq0, iI_cl, iF_at, at_iI, at_in, iI_add, within0, hc, i1, i2, c1, c2, c3, c4, c5, c6, g2, e1]
              · rw [mX10_under_L48]
                simp (disch := omega) [mX8_carOver_J84, mX10_under_J95, iI_le, iI_lt, iI_eq, iI_lt0, iI_eq0, iI_cl, iF_at, at_iI, at_in, iI_add, within0, hc, i1, i2, c1, c2, c3, c4, c5, c6, g2, e2]
    · obtain ⟨r, its', e1, e2, e3⟩ := ih (i + 1) its _ _ n1 n2 (by omega) (by omega) (by omega) (by omega) hr'
      refine ⟨r, its', ?_, ?_, e3⟩
      · rw [mX8_carOver_L44]
        simp (disch := omega) [mX8_carOver_J84, mX10_under_J95, iI_le, iI_lt, iI_eq, iI_lt0, iI_eq0, iI_cl, iF_at, at_iI, at_in, iI_add, within0, hc, i1, i2, c1, e1]
      · rw [mX10_under_L48]
        simp (disch := omega) [mX8_carOver_J84, mX10_under_J95, iI_le, iI_lt, iI_eq, iI_lt0, iI_eq0, iI_cl, iF_at, at_iI, at_in, iI_add, within0, hc, i1, i2, c1, e2]
theorem sim_under {p h k n m : Int} {C H K L W : Nat → Int} (hp : I32 p) (hh : I32 h) (hk : I32 k) (hn : 0 ≤ n ∧ n ≤ 60) (hm : 0 ≤ m ∧ m ≤ 200) (hH : ∀ i : Nat, (i : Int) < m → 0 ≤ H i ∧ H i ≤ 120) (hK : ∀ i : Nat, (i : Int) < m → 0 ≤ K i ∧ K i ≤ 1000) (hL : ∀ i : Nat, (i : Int) < m → 0 ≤ L i ∧ L i ≤ 60) :
    ∃ r : Int, mX9_under (iI p) (iI h) (iI k) (iI n) (iI m) (iF C) (iF H) (iF K) (iF L) (iF W) = some (iI r) ∧ mX10_under (iI p) (iI h) (iI k) (iI n) (iI m) (iF C) (iF H) (iF K) (iF L) (iF W) = some (iI r, iI 0) := by
  have hp' := hp
  have hh' := hh
  have hk' := hk
  obtain ⟨p0, p1⟩ := hp
  obtain ⟨h0, h1⟩ := hh
  obtain ⟨k0, k1⟩ := hk
  obtain ⟨n0, n1⟩ := hn
  obtain ⟨m0, m1⟩ := hm
  by_cases c1 : 0 ≤ p ∧ p < n
  · by_cases c2 : 0 ≤ h ∧ h ≤ 120
    · by_cases c3 : 0 ≤ k ∧ k ≤ 1000
      · have hF := kF_ge
        obtain ⟨r, its, e1, e2, e3⟩ := under_go (w0 := W p.toNat) (C := C) hp' hh' hk' ⟨m0, m1⟩ hH hK hL (fun (v4_23 : Int32) => (if 0 ≤ v4_23 then (if v4_23 < 0 ∨ 200 ≤ Int32.toNatClampNeg v4_23 then none else some (((iF C) (Int32.toNatClampNeg v4_23)), (iI 0))) else (if (iI p) < 0 ∨ 60 ≤ Int32.toNatClampNeg (iI p) then none else some (((iF W) (Int32.toNatClampNeg (iI p))), (iI 0))))) m.toNat 0 (-1) (W p.toNat) (-1) kF kF (by omega) (by omega) (by omega) (by omega) (Or.inl ⟨rfl, rfl, rfl⟩)
        refine ⟨r, ?_, ?_⟩
        · simp (disch := omega) [mX9_under, mX8_carOver, isT8, hour0, within0, at_iI, at_in, c1, c2, c3, e1]
        · have gp : ¬ p < 0 := by omega
          have gp2 : ¬ 60 ≤ p := by omega
          rcases e3 with ⟨rfl, rfl⟩ | ⟨q0, q1, rfl⟩
          · refine Eq.trans ?_ (e2.trans ?_)
            · simp (disch := omega) [mX10_under, in_n, iI_l, hour10, in0, c1, c2, c3]
            · simp (disch := omega) [iI_ge0, iI_lt0, iI_cl, iF_at, gp, gp2]
          · have gi : ¬ its < 0 := by omega
            have gi2 : ¬ 200 ≤ its := by omega
            refine Eq.trans ?_ (e2.trans ?_)
            · simp (disch := omega) [mX10_under, in_n, iI_l, hour10, in0, c1, c2, c3]
            · simp (disch := omega) [iI_ge0, iI_lt0, iI_cl, iF_at, gi, gi2, q0]
      · refine ⟨-1, ?_, ?_⟩
        · simp (disch := omega) [mX9_under, mX8_carOver, isT8, hour0, within0, c1, c2, c3]
        · simp (disch := omega) [mX10_under, in_n, iI_l, hour10, in0, c1, c2, c3]
    · refine ⟨-1, ?_, ?_⟩
      · simp (disch := omega) [mX9_under, mX8_carOver, isT8, hour0, c1, c2]
      · simp (disch := omega) [mX10_under, in_n, iI_l, hour10, c1, c2]
  · refine ⟨-1, ?_, ?_⟩
    · simp (disch := omega) [mX9_under, mX8_carOver, isT8, c1]
    · simp (disch := omega) [mX10_under, in_n, iI_l, c1]
