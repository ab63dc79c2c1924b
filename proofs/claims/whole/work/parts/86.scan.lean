/-! WAY: how few steps, as the reference reckons -/
section WS
variable {X : Nat → F1} {to : Nat}
/-- what is known after k layers -/
def GR (X : Nat → F1) (to k : Nat) (c f : Int) : Prop := (c = 1000000 ∧ f = 0 ∧ ∀ j : Nat, j < k → gm (X j) to = 1000000) ∨ (0 ≤ c ∧ c ≤ 120 ∧ 0 ≤ f ∧ f < k ∧ gm (X f.toNat) to = c ∧ (∀ j : Nat, (j : Int) < f → c < gm (X j) to) ∧ ∀ j : Nat, j < k → c ≤ gm (X j) to)
theorem scan_one {E : F1} {k v m : Nat} {c f x : Int} (kk : Int32 → Int32 → Option (Int32 × Int32 × Int32 × Int32 × (Nat → Int32) × (Nat → Int32) × (Nat → Int32) × (Nat → Int32) × (Nat → Int32) × (Nat → Int32))) (hk : k < 33) (hv : v < 32) (hx : E (32 * k + v) = x) (h1 : 0 ≤ x ∧ x ≤ 1000000) (h2 : 0 ≤ c ∧ c ≤ 1000000) : mX10_way_L79 (iF E) (iI (k : Int)) kk (m + 1) (iI c) (iI f) (iI (v : Int)) = if c ≤ x then mX10_way_L79 (iF E) (iI (k : Int)) kk m (iI c) (iI f) (iI ((v + 16 : Nat) : Int)) else mX10_way_L79 (iF E) (iI (k : Int)) kk m (iI x) (iI (k : Int)) (iI ((v + 16 : Nat) : Int)) := by
  have g := gdn (z := 32 * (k : Int) + v) (n := 1056) (by omega) (by omega) (by omega)
  have ei : (32 * (k : Int) + v).toNat = 32 * k + v := by omega
  have b1 : iF E (iI (32 * (k : Int) + v)).toNatClampNeg = iI x := by rw [rd (by omega) (by omega), ei, hx]
  rw [mX10_way_L79, if_neg (fun y => by have := (iI_le (by omega) (by omega) (by omega) (by omega)).mp y; omega), iI_mul, iI_add, iI_add, if_neg g, if_neg g, b1]
  by_cases q : c ≤ x
  · rw [if_pos ((iI_le (by omega) (by omega) (by omega) (by omega)).mpr q), if_pos q]; rfl
  · rw [if_neg (fun y => q ((iI_le (by omega) (by omega) (by omega) (by omega)).mp y)), if_neg q]; rfl
theorem scan_two {E : F1} {k : Nat} {c f : Int} (kk : Int32 → Int32 → Option (Int32 × Int32 × Int32 × Int32 × (Nat → Int32) × (Nat → Int32) × (Nat → Int32) × (Nat → Int32) × (Nat → Int32) × (Nat → Int32))) (hk : k < 33) (ht : to < 16) (hr : HR (row32 k E)) (h2 : 0 ≤ c ∧ c ≤ 1000000) : ∃ c2 f2 : Int, mX10_way_L79 (iF E) (iI (k : Int)) kk kF (iI c) (iI f) (iI (to : Int)) = kk (iI c2) (iI f2) ∧ ((c ≤ gm (row32 k E) to ∧ c2 = c ∧ f2 = f) ∨ (gm (row32 k E) to < c ∧ c2 = gm (row32 k E) to ∧ f2 = (k : Int))) := by
  obtain ⟨m, hm⟩ : ∃ m, kF = m + 1 + 1 + 1 := ⟨kF - 3, by have := kF_ge; omega⟩
  have r1 : 0 ≤ row32 k E to ∧ row32 k E to ≤ 1000000 := by have := hr to (by omega); omega
  have r2 : 0 ≤ row32 k E (to + 16) ∧ row32 k E (to + 16) ≤ 1000000 := by have := hr (to + 16) (by omega); omega
  have fin : ∀ c2 f2 : Int, mX10_way_L79 (iF E) (iI (k : Int)) kk (m + 1) (iI c2) (iI f2) (iI ((to + 16 + 16 : Nat) : Int)) = kk (iI c2) (iI f2) := fun c2 f2 => by
    rw [mX10_way_L79, if_pos ((iI_le (by omega) (by omega) (by omega) (by omega)).mpr (by omega))]
  rw [hm, scan_one kk hk (by omega) (x := row32 k E to) rfl r1 h2]
  by_cases q : c ≤ row32 k E to
  · rw [if_pos q, scan_one kk hk (by omega) (x := row32 k E (to + 16)) rfl r2 h2]
    by_cases q2 : c ≤ row32 k E (to + 16)
    · rw [if_pos q2, fin]
      exact ⟨c, f, rfl, Or.inl ⟨by unfold gm; split <;> omega, rfl, rfl⟩⟩
    · rw [if_neg q2, fin]
      have e : gm (row32 k E) to = row32 k E (to + 16) := if_pos (by omega)
      exact ⟨_, _, rfl, Or.inr ⟨by rw [e]; omega, e.symm, rfl⟩⟩
  · rw [if_neg q, scan_one kk hk (by omega) (x := row32 k E (to + 16)) rfl r2 r1]
    by_cases q2 : row32 k E to ≤ row32 k E (to + 16)
    · rw [if_pos q2, fin]
      have e : gm (row32 k E) to = row32 k E to := if_neg (by omega)
      exact ⟨_, _, rfl, Or.inr ⟨by rw [e]; omega, e.symm, rfl⟩⟩
    · rw [if_neg q2, fin]
      have e : gm (row32 k E) to = row32 k E (to + 16) := if_pos (by omega)
      exact ⟨_, _, rfl, Or.inr ⟨by rw [e]; omega, e.symm, rfl⟩⟩
theorem scan_go {E : F1} (kk : Int32 → Int32 → Option (Int32 × Int32 × Int32 × Int32 × (Nat → Int32) × (Nat → Int32) × (Nat → Int32) × (Nat → Int32) × (Nat → Int32) × (Nat → Int32))) (ht : to < 16) (hr : ∀ j : Nat, j ≤ 32 → HR (row32 j E)) : ∀ (d k m : Nat) (c f : Int), k + d = 33 → d < m → GR (fun j => row32 j E) to k c f → ∃ c' f' : Int, mX10_way_L68 (iI (to : Int)) (iF E) kk m (iI c) (iI f) (iI (k : Int)) = kk (iI c') (iI f') ∧ GR (fun j => row32 j E) to 33 c' f' := by
  intro d
  induction d with
  | zero =>
    intro k m c f hi hm h
    obtain ⟨m, rfl⟩ : ∃ a, m = a + 1 := ⟨m - 1, by omega⟩
    have e : k = 33 := by omega
    subst e
    refine ⟨c, f, ?_, h⟩
    rw [mX10_way_L68, if_pos ((iI_lt (by omega) (by omega) (by omega) (by omega)).mpr (by omega))]
  | succ d ih =>
    intro k m c f hi hm h
    obtain ⟨m, rfl⟩ : ∃ a, m = a + 1 := ⟨m - 1, by omega⟩
    have hc : 0 ≤ c ∧ c ≤ 1000000 := by rcases h with ⟨h1, -⟩ | ⟨h1, h2, -⟩ <;> omega
    obtain ⟨c2, f2, x1, x2⟩ := scan_two (f := f) (fun (v6_17 : Int32) (v7_17 : Int32) => (mX10_way_L68 (iI (to : Int)) (iF E) kk m v6_17 v7_17 ((iI (k : Int)) + (iI 1)))) (by omega) ht (hr k (by omega)) hc
    have rg := gm_hr ht (hr k (by omega))
    have h2 : GR (fun j => row32 j E) to (k + 1) c2 f2 := by
      rcases x2 with ⟨y1, rfl, rfl⟩ | ⟨y1, y2, rfl⟩
      · rcases h with ⟨z1, z2, z3⟩ | ⟨z0, z1, z2, z3, z4, z5, z6⟩
        · refine Or.inl ⟨z1, z2, fun j hj => ?_⟩
          by_cases q : j = k
          · subst q; show gm (row32 j E) to = 1000000; omega
          · exact z3 j (by omega)
        · refine Or.inr ⟨z0, z1, z2, by omega, z4, z5, fun j hj => ?_⟩
          by_cases q : j = k
          · subst q; exact y1
          · exact z6 j (by omega)
      · have r3 : 0 ≤ c2 ∧ c2 ≤ 120 := by omega
        have old : ∀ j : Nat, j < k → c ≤ gm (row32 j E) to := fun j hj => by
          rcases h with ⟨z1, z2, z3⟩ | ⟨z0, z1, z2, z3, z4, z5, z6⟩
          · have : gm (row32 j E) to = 1000000 := z3 j hj
            omega
          · exact z6 j hj
        refine Or.inr ⟨r3.1, r3.2, by omega, by omega, ?_, fun j hj => ?_, fun j hj => ?_⟩
        · rw [Int.toNat_natCast]; exact y2.symm
        · have := old j (by omega)
          show c2 < gm (row32 j E) to
          omega
        · show c2 ≤ gm (row32 j E) to
          by_cases q : j = k
          · subst q; omega
          · have := old j (by omega)
            omega
    obtain ⟨c', f', y1, y2⟩ := ih (k + 1) m c2 f2 (by omega) (by omega) h2
    refine ⟨c', f', ?_, y2⟩
    rw [mX10_way_L68, if_neg (fun y => by have := (iI_lt (by omega) (by omega) (by omega) (by omega)).mp y; omega)]
    refine x1.trans ?_
    show mX10_way_L68 _ _ kk m (iI c2) (iI f2) (iI (k : Int) + iI 1) = _
    rw [iI_add]
    exact y1
theorem gmY_le (X : Nat → F1) (to : Nat) {k j : Nat} (h : j ≤ k) : gm (mnY X k) to ≤ gm (X j) to := gm_mono fun v => mnY_le X v k j h
theorem gmY_ex (X : Nat → F1) (to k : Nat) : ∃ j : Nat, j ≤ k ∧ gm (mnY X k) to = gm (X j) to := by
  have key : ∀ v : Nat, (v = to ∨ v = to + 16) → gm (mnY X k) to = mnY X k v → ∃ j : Nat, j ≤ k ∧ gm (mnY X k) to = gm (X j) to := fun v hv e => by
    obtain ⟨j, hj, e2⟩ := mnY_ex X v k
    refine ⟨j, hj, ?_⟩
    have h1 := gmY_le X to hj
    have h2 := gm_le (X j) to
    rcases hv with rfl | rfl <;> omega
  rcases gm_or (mnY X k) to with e | e
  · exact key to (Or.inl rfl) e
  · exact key (to + 16) (Or.inr rfl) e
/-- both say the same -/
theorem few_same (ht : to < 16) {f c f' c' : Int} (h : FS X to 32 f c) (h2 : GR X to 33 c' f') : (c = 1000000 ∧ f = -1 ∧ c' = 1000000) ∨ (c' = c ∧ f' = f ∧ 0 ≤ c ∧ c ≤ 120 ∧ 0 ≤ f ∧ f ≤ 31 ∧ gm (X f.toNat) to = c) := by
  obtain ⟨j, hj, ej⟩ := gmY_ex X to 32
  have hc := h.1
  rcases h2 with ⟨z1, z2, z3⟩ | ⟨z0, z1, z2, z3, z4, z5, z6⟩
  · have e := z3 j (by omega)
    rcases h.2 with ⟨y1, y2⟩ | ⟨y1, -⟩
    · exact Or.inl ⟨y1, y2, z1⟩
    · omega
  · have h3 := z6 j (by omega)
    have h4 := gmY_le X to (k := 32) (j := f'.toNat) (by omega)
    have ec : c' = c := by omega
    rcases h.2 with ⟨y1, y2⟩ | ⟨y1, y2, y3, y4, y5⟩
    · omega
    · have ef : f' = f := by
        rcases Int.lt_trichotomy f f' with q | q | q
        · obtain ⟨i, hi, ei⟩ := gmY_ex X to f.toNat
          have := z5 i (by omega)
          omega
        · exact q.symm
        · have h5 := y5 f'.toNat (by omega)
          have h6 := gmY_le X to (k := f'.toNat) (j := f'.toNat) (Nat.le_refl _)
          omega
      subst ef
      exact Or.inr ⟨ec, rfl, by omega, y1, y2, y3, z4.trans ec⟩
end WS
