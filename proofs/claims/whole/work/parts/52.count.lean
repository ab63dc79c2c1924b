/-! COUNT, RATES -/
section CT
variable {n no : Int} {A B M Ho Se oL af hr wi rL rA rH rW BG DN : F1} {rs ro : Int}
theorem done2_go (hp : PV n no oL af hr wi) (hn : n ≤ 30) (hf : PF wi BG DN) : ∀ (d i m : Nat) (v : Int), (i : Int) + d = no → d < m → 0 ≤ v → v ≤ 9000 → (∀ j : Nat, j < i → DN (oL j).toNat ≤ v) → (v = 0 ∨ ∃ j : Nat, (j : Int) < no ∧ v = DN (oL j).toNat) →
    ∃ r : Int, mX2_allDone_L4 (iI no) (iF DN) (iF wi) (iF oL) m (iI v) (iI (i : Int)) = some (iI r) ∧ 0 ≤ r ∧ r ≤ 9000 ∧ (∀ j : Nat, (j : Int) < no → DN (oL j).toNat ≤ r) ∧ (r = 0 ∨ ∃ j : Nat, (j : Int) < no ∧ r = DN (oL j).toNat)
  | 0, i, 0, _, _, hm, _, _, _, _ => absurd hm (Nat.not_lt_zero _)
  | 0, i, m + 1, v, hi, _, v0, v1, h1, h2 => by
    have h30 := hp.2.1
    refine ⟨v, ?_, v0, v1, fun j hj => h1 j (by omega), h2⟩
    rw [mX2_allDone_L4, if_pos ((iI_le (by omega) (by omega) (by omega) (by omega)).mpr (by omega))]
  | d + 1, i, 0, _, _, hm, _, _, _, _ => absurd hm (Nat.not_lt_zero _)
  | d + 1, i, m + 1, v, hi, hm, v0, v1, h1, h2 => by
    have h30 := hp.2.1
    obtain ⟨q0, q1, -, -, w0, w1, -, -⟩ := hp.2.2.1 i (by omega)
    obtain ⟨L, hLd⟩ : ∃ L : Nat, (oL i) = (L : Int) := ⟨(oL i).toNat, by omega⟩
    have hLt : (oL i).toNat = L := by omega
    have hLb : L < 30 := by omega
    rw [hLt] at w0 w1
    have hii : (i : Int).toNat = i := by omega
    have hLL : (L : Int).toNat = L := by omega
    have hx := hf L hLb
    have a1 : mX9_at 30 (iI (i : Int)) (iF oL) = iI (L : Int) := by rw [at_iI (by omega) (by omega) (by omega), at_in (by omega) (by omega), hii, hLd]
    have a3 : mX2_doneOf (iI (L : Int)) (iF DN) (iF wi) = iI (DN L) := by
      rw [mX2_doneOf, if_neg (fun k => by have := (hasO hLb hf).mp k; omega), at_iI (by omega) (by omega) (by omega), at_in (by omega) (by omega), hLL]
    rw [mX2_allDone_L4, if_neg (fun k => by have := (iI_le (by omega) (by omega) (by omega) (by omega)).mp k; omega), a1, a3, iI_add]
    by_cases c : v < DN L
    · rw [if_pos ((iI_lt (by omega) (by omega) (by omega) (by omega)).mpr c)]
      exact done2_go hp hn hf d (i + 1) m (DN L) (by omega) (by omega) (by omega) (by omega) (fun j hj => by
        by_cases e : j = i
        · rw [e, hLt]; exact Int.le_refl _
        · have := h1 j (by omega)
          omega) (Or.inr ⟨i, by omega, by rw [hLt]⟩)
    · rw [if_neg (fun k => c ((iI_lt (by omega) (by omega) (by omega) (by omega)).mp k))]
      exact done2_go hp hn hf d (i + 1) m v (by omega) (by omega) v0 v1 (fun j hj => by
        by_cases e : j = i
        · rw [e, hLt]; omega
        · exact h1 j (by omega)) h2
theorem done10_go {n : Int} (hn : 0 ≤ n ∧ n ≤ 30) {X Y W : F1} (hf : PF wi BG DN) (hx : ∀ l : Nat, l < 30 → X l = BG l ∧ Y l = DN l ∧ W l = wi l) : ∀ (d i m : Nat) (v : Int), (i : Int) + d = n → d < m → 0 ≤ v → v ≤ 9000 → (∀ j : Nat, j < i → 1 ≤ wi j → DN j ≤ v) → (v = 0 ∨ ∃ j : Nat, (j : Int) < n ∧ 1 ≤ wi j ∧ v = DN j) →
    ∃ r : Int, mX10_count_L86 (iI 0) (iI n) (iF X) (iF Y) (iF W) m (iI v) (iI (i : Int)) = some (iI r, iI 0, iF X, iF Y, iF W) ∧ 0 ≤ r ∧ r ≤ 9000 ∧ (∀ j : Nat, (j : Int) < n → 1 ≤ wi j → DN j ≤ r) ∧ (r = 0 ∨ ∃ j : Nat, (j : Int) < n ∧ 1 ≤ wi j ∧ r = DN j)
  | 0, i, 0, _, _, hm, _, _, _, _ => absurd hm (Nat.not_lt_zero _)
  | 0, i, m + 1, v, hi, _, v0, v1, h1, h2 => by
    refine ⟨v, ?_, v0, v1, fun j hj => h1 j (by omega), h2⟩
    rw [mX10_count_L86, if_pos ((iI_le (by omega) (by omega) (by omega) (by omega)).mpr (by omega))]
  | d + 1, i, 0, _, _, hm, _, _, _, _ => absurd hm (Nat.not_lt_zero _)
  | d + 1, i, m + 1, v, hi, hm, v0, v1, h1, h2 => by
    have hii : (i : Int).toNat = i := by omega
    have g := gdn (z := (i : Int)) (n := 30) (by omega) (by omega) (by omega)
    have hq := hf i (by omega)
    obtain ⟨x1, x2, x3⟩ := hx i (by omega)
    have b : ∀ F : F1, iF F (iI (i : Int)).toNatClampNeg = iI (F i) := fun F => by rw [rd (by omega) (by omega), hii]
    rw [mX10_count_L86, if_neg (fun k => by have := (iI_le (by omega) (by omega) (by omega) (by omega)).mp k; omega), if_neg g, if_neg g, if_neg g, b, b, x2, x3, iI_add]
    by_cases c : wi i ≤ 0
    · rw [if_pos ((iI_le0 (by omega) (by omega)).mpr c)]
      exact done10_go hn hf hx d (i + 1) m v (by omega) (by omega) v0 v1 (fun j hj hw => by
        by_cases e : j = i
        · rw [e] at hw; omega
        · exact h1 j (by omega) hw) h2
    · rw [if_neg (fun k => c ((iI_le0 (by omega) (by omega)).mp k))]
      by_cases c2 : DN i ≤ v
      · rw [if_pos ((iI_le (by omega) (by omega) (by omega) (by omega)).mpr c2)]
        exact done10_go hn hf hx d (i + 1) m v (by omega) (by omega) v0 v1 (fun j hj hw => by
          by_cases e : j = i
          · rw [e]; exact c2
          · exact h1 j (by omega) hw) h2
      · rw [if_neg (fun k => c2 ((iI_le (by omega) (by omega) (by omega) (by omega)).mp k))]
        exact done10_go hn hf hx d (i + 1) m (DN i) (by omega) (by omega) (by omega) (by omega) (fun j hj hw => by
          by_cases e : j = i
          · rw [e]; exact Int.le_refl _
          · have := h1 j (by omega) hw
            omega) (Or.inr ⟨i, by omega, by omega, rfl⟩)
theorem sim_count {p c t w s : Int} (hp : I32 p) (h : PI n no A B M Ho Se oL af hr wi rL rA rH rW BG DN rs ro) (X Y W : F1) :
    ∃ (r : Int) (X' Y' W' : F1), mX9_count (iI p) (iI c) (iI n) (iI no) (iF DN) (iF wi) (iF oL) (iI t) (iI w) (iI s) = some (iI r) ∧ mX10_count (iI p) (iI n) (iI rs) (iI ro) (iI no) (iI t) (iI c) (iI w) (iI s) (iF X) (iF Y) (iF M) (iF Se) (iF rA) (iF rH) (iF rL) (iF rW) (iF W) = some (iI r, iI 0, iF X', iF Y', iF W') := by
  obtain ⟨p0, p1⟩ := hp
  have hF := kF_ge
  by_cases c0 : p = 0
  · exact ⟨n, X, Y, W, by simp [mX9_count, c0], by simp [mX10_count, c0]⟩
  by_cases c1 : p = 1
  · exact ⟨no, X, Y, W, by simp (disch := omega) [mX9_count, c1, iI_eq], by simp (disch := omega) [mX10_count, c1, iI_eq]⟩
  by_cases c2 : p = 2
  · exact ⟨c, X, Y, W, by simp (disch := omega) [mX9_count, c2, iI_eq], by simp (disch := omega) [mX10_count, c2, iI_eq]⟩
  by_cases c3 : p = 3
  · exact ⟨w, X, Y, W, by simp (disch := omega) [mX9_count, c3, iI_eq], by simp (disch := omega) [mX10_count, c3, iI_eq]⟩
  by_cases c4 : p = 4
  · exact ⟨s, X, Y, W, by simp (disch := omega) [mX9_count, c4, iI_eq], by simp (disch := omega) [mX10_count, c4, iI_eq]⟩
  by_cases c5 : p = 5
  · exact ⟨t, X, Y, W, by simp (disch := omega) [mX9_count, c5, iI_eq], by simp (disch := omega) [mX10_count, c5, iI_eq]⟩
  by_cases c6 : p = 6
  · have hf := h.pf
    have n0 := h.1.1
    have n1 := h.1.2.1
    have o0 := h.2.1.1
    have o1 := h.2.1.2.1
    obtain ⟨X', Y', W', e1, e2⟩ := h.reckon X Y W
    obtain ⟨r, a1, a2, a3, a4, a5⟩ := done2_go h.2.1 n1 hf no.toNat 0 kF 0 (by omega) (by omega) (by omega) (by omega) (fun j hj => absurd hj (Nat.not_lt_zero j)) (Or.inl rfl)
    obtain ⟨r', b1, b2, b3, b4, b5⟩ := done10_go ⟨n0, n1⟩ hf e2 n.toNat 0 kF 0 (by omega) (by omega) (by omega) (by omega) (fun j hj => absurd hj (Nat.not_lt_zero j)) (Or.inl rfl)
    have hrr : r = r' := by
      have u1 : r ≤ r' := by
        rcases a5 with a5 | ⟨j, hj, a5⟩
        · omega
        · obtain ⟨q0, q1, -, -, w0, -⟩ := h.2.1.2.2.1 j hj
          have := b4 (oL j).toNat (by omega) w0
          omega
      have u2 : r' ≤ r := by
        rcases b5 with b5 | ⟨j, hj, hw, b5⟩
        · omega
        · obtain ⟨k, hk, e⟩ := pf_ord h.2.1 (l := j) (by omega) hw
          have := a4 k hk
          rw [e] at this
          omega
      omega
    subst hrr
    refine ⟨r, X', Y', W', ?_, ?_⟩
    · simp (disch := omega) only [mX9_count, c6, iI_eq, mX2_allDone]
      rw [show mX2_allDone_L4 (iI no) (iF DN) (iF wi) (iF oL) kF (iI 0) (iI 0) = some (iI r) from a1]
      rfl
    · have key : mX10_count (iI p) (iI n) (iI rs) (iI ro) (iI no) (iI t) (iI c) (iI w) (iI s) (iF X) (iF Y) (iF M) (iF Se) (iF rA) (iF rH) (iF rL) (iF rW) (iF W) = (Option.bind (mX10_reckon (iI rs) (iI ro) (iI no) (iF X) (iF Y) (iF M) (iF Se) (iF rA) (iF rH) (iF rL) (iF rW) (iF W)) (fun o8 => mX10_count_L86 (iI 0) (iI n) o8.1 o8.2.1 o8.2.2 kF (iI 0) (iI 0))) := by
        subst c6
        rw [mX10_count, if_neg (by decide), if_neg (by decide), if_neg (by decide), if_neg (by decide), if_neg (by decide), if_neg (by decide), if_pos rfl]
      rw [key, e1]
      exact b1
  · refine ⟨-1, X, Y, W, ?_, ?_⟩
    · simp (disch := omega) [mX9_count, iI_eq, c0, c1, c2, c3, c4, c5, c6]
    · simp (disch := omega) [mX10_count, iI_eq, c0, c1, c2, c3, c4, c5, c6]
theorem sim_rates {p q : Int} (hp : I32 p) (hq : I32 q) (h : PI n no A B M Ho Se oL af hr wi rL rA rH rW BG DN rs ro) :
    ∃ (r rs' ro' : Int) (BG' DN' : F1), mX9_rates (iI p) (iI q) (iI rs) (iI ro) (iF M) (iF Se) (iI no) (iF af) (iF BG) (iF DN) (iF wi) (iF hr) (iF oL) = some (iI r, iI (min r 0), iI rs', iI ro', iF BG', iF DN') ∧ mX10_rates (iI p) (iI q) (iI rs) (iI ro) = some (iI r, iI 0, iI (min r 0), iI rs', iI ro') ∧ PI n no A B M Ho Se oL af hr wi rL rA rH rW BG' DN' rs' ro' := by
  obtain ⟨p0, p1⟩ := hp
  obtain ⟨q0, q1⟩ := hq
  obtain ⟨hl, hpv, hrv, hbd⟩ := h
  have hpv' := hpv
  obtain ⟨l0, l1, r0, r1, r2, r3, hL⟩ := hl
  have o0 := hpv.1
  have key : ∀ rs' ro' : Int, 1 ≤ rs' → rs' ≤ 20 → 1 ≤ ro' → ro' ≤ 20 → ∃ BG' DN' : F1, mX2_reckon (iI no) (iF af) (iF BG) (iF DN) (iF wi) (iF hr) (iF oL) (iI rs') (iI ro') (iF M) (iF Se) = some (iF BG', iF DN') ∧ PI n no A B M Ho Se oL af hr wi rL rA rH rW BG' DN' rs' ro' := by
    intro rs' ro' a b c d
    have hl' : LV n A B M Ho Se rs' ro' := ⟨l0, l1, a, b, c, d, hL⟩
    obtain ⟨X', Y', e1, e2⟩ := reckon2 hl' hpv BG DN (fun l hl2 hj => by
      have := (rk_ok ⟨l0, l1, r0, r1, r2, r3, hL⟩ hpv no.toNat (by omega)).2 l (fun j hj2 => hj j (by omega))
      rw [(hbd l hl2).1, (hbd l hl2).2]
      exact this)
    exact ⟨X', Y', e1, hl', hpv, hrv, e2⟩
  by_cases c : 1 ≤ p ∧ p ≤ 20
  · by_cases d : 1 ≤ q ∧ q ≤ 20
    · obtain ⟨X', Y', e1, e2⟩ := key p q c.1 c.2 d.1 d.2
      refine ⟨0, p, q, X', Y', ?_, ?_, e2⟩
      · simp (disch := omega) [mX9_rates, mX3_changeRates, mX1_setRates, within0, c, d, e1, ans_iI]
      · simp (disch := omega) [mX10_rates, in0, iI_l, told_iI, c, d]
    · obtain ⟨X', Y', e1, e2⟩ := key rs ro r0 r1 r2 r3
      refine ⟨-1, rs, ro, X', Y', ?_, ?_, e2⟩
      · simp (disch := omega) [mX9_rates, mX3_changeRates, mX1_setRates, within0, c, d, e1, ans_iI]
      · simp (disch := omega) [mX10_rates, in0, iI_l, told_iI, c, d]
  · obtain ⟨X', Y', e1, e2⟩ := key rs ro r0 r1 r2 r3
    refine ⟨-1, rs, ro, X', Y', ?_, ?_, e2⟩
    · simp (disch := omega) [mX9_rates, mX3_changeRates, mX1_setRates, within0, c, e1, ans_iI]
    · simp (disch := omega) [mX10_rates, in0, iI_l, told_iI, c]
end CT
