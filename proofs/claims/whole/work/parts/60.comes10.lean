/-! COMES: the reference's rows, and both together -/
def rw16 (c : Nat) (C : F1) : F1 := fun v => C (16 * c + v)
theorem rw16_up (c b : Nat) (C : F1) (x : Int) : rw16 c (upI C (16 * c + b) x) = upI (rw16 c C) b x := funext fun v => by
  show upI C (16 * c + b) x (16 * c + v) = upI (rw16 c C) b x v
  by_cases e : v = b
  · rw [e, upI_s, upI_s]
  · rw [upI_n e, upI_n (by omega)]
    rfl
/-- outside the car's row all stays -/
def OUT (c : Nat) (C C' : F1) : Prop := ∀ j : Nat, (j < 16 * c ∨ 16 * c + 16 ≤ j) → C' j = C j
theorem OUT.rf (c : Nat) (C : F1) : OUT c C C := fun _ _ => rfl
theorem OUT.tr {c : Nat} {C C' C'' : F1} (h : OUT c C C') (h2 : OUT c C' C'') : OUT c C C'' := fun j hj => (h2 j hj).trans (h j hj)
section CX
variable {n : Int} {A B Ho BG DN X : F1}
theorem rpass {c l a b : Nat} {C : F1} (hc : c < 30) (hl : l < 30) (ha : a < 16) (hb : b < 16) (hF : FR (rw16 c C)) (hh : 1 ≤ Ho l ∧ Ho l ≤ 12) (hg : 0 ≤ BG l ∧ BG l ≤ 1000000) (hx : X l = BG l) :
    ∃ C' : F1, mX10_pass (iI (c : Int)) (iI (l : Int)) (iI (a : Int)) (iI (b : Int)) (iF X) (iF C) (iF Ho) = some (iI (fl Ho BG l a b (rw16 c C)), iF C') ∧ rw16 c C' = rel Ho BG l a b (rw16 c C) ∧ OUT c C C' := by
  have ll : (l : Int).toNat = l := by omega
  have ea : (16 * (c : Int) + (a : Int)).toNat = 16 * c + a := by omega
  have eb : (16 * (c : Int) + (b : Int)).toNat = 16 * c + b := by omega
  have fa : 0 ≤ C (16 * c + a) ∧ C (16 * c + a) ≤ 1000000 := hF a ha
  have fb : 0 ≤ C (16 * c + b) ∧ C (16 * c + b) ≤ 1000000 := hF b hb
  have g1 := gdn (z := 16 * (c : Int) + (a : Int)) (n := 480) (by omega) (by omega) (by omega)
  have g2 := gdn (z := (l : Int)) (n := 30) (by omega) (by omega) (by omega)
  have g3 := gdn (z := 16 * (c : Int) + (b : Int)) (n := 480) (by omega) (by omega) (by omega)
  have b1 : iF C (iI (16 * (c : Int) + (a : Int))).toNatClampNeg = iI (C (16 * c + a)) := by rw [rd (by omega) (by omega), ea]
  have b2 : iF C (iI (16 * (c : Int) + (b : Int))).toNatClampNeg = iI (C (16 * c + b)) := by rw [rd (by omega) (by omega), eb]
  have b3 : ∀ F : F1, iF F (iI (l : Int)).toNatClampNeg = iI (F l) := fun F => by rw [rd (by omega) (by omega), ll]
  have ua : rw16 c C a = C (16 * c + a) := rfl
  have ub : rw16 c C b = C (16 * c + b) := rfl
  rw [mX10_pass, iI_mul, iI_add, iI_add, if_neg g1, if_neg g2, if_neg g2, if_neg g3, if_neg g3, b1, b2, b3, b3, hx, iI_add]
  by_cases d1 : BG l < C (16 * c + a) + Ho l
  · have eg : gO Ho BG l (rw16 c C a) = 1000000 := if_neg (by rw [ua]; omega)
    have ef : ¬ gO Ho BG l (rw16 c C a) < rw16 c C b := by rw [eg, ub]; omega
    refine ⟨C, ?_, (if_neg ef).symm, OUT.rf c C⟩
    rw [if_pos ((iI_lt (by omega) (by omega) (by omega) (by omega)).mpr d1), fl, if_neg ef]
  · rw [if_neg (fun k => d1 ((iI_lt (by omega) (by omega) (by omega) (by omega)).mp k))]
    by_cases d2 : 120 < C (16 * c + a) + Ho l
    · have eg : gO Ho BG l (rw16 c C a) = 1000000 := if_neg (by rw [ua]; omega)
      have ef : ¬ gO Ho BG l (rw16 c C a) < rw16 c C b := by rw [eg, ub]; omega
      refine ⟨C, ?_, (if_neg ef).symm, OUT.rf c C⟩
      rw [if_pos ((iI_lt (by omega) (by omega) (by omega) (by omega)).mpr d2), fl, if_neg ef]
    · rw [if_neg (fun k => d2 ((iI_lt (by omega) (by omega) (by omega) (by omega)).mp k))]
      have eg : gO Ho BG l (rw16 c C a) = C (16 * c + a) + Ho l := if_pos (by rw [ua]; omega)
      by_cases d3 : C (16 * c + a) + Ho l < C (16 * c + b)
      · have ef : gO Ho BG l (rw16 c C a) < rw16 c C b := by rw [eg, ub]; exact d3
        refine ⟨upI C (16 * c + b) (C (16 * c + a) + Ho l), ?_, ?_, fun j hj => upI_n (by omega)⟩
        · rw [if_pos ((iI_lt (by omega) (by omega) (by omega) (by omega)).mpr d3), fl, if_pos ef, wr (by omega) (by omega), eb]
        · rw [rw16_up, rel, if_pos ef, eg]
      · have ef : ¬ gO Ho BG l (rw16 c C a) < rw16 c C b := by rw [eg, ub]; exact d3
        refine ⟨C, ?_, (if_neg ef).symm, OUT.rf c C⟩
        rw [if_neg (fun k => d3 ((iI_lt (by omega) (by omega) (by omega) (by omega)).mp k)), fl, if_neg ef]
theorem round10_go (hv : TV n A B Ho BG) (hx : ∀ l : Nat, l < 30 → X l = BG l) {c : Nat} (hc : c < 30) (kk : Int32 → (Nat → Int32) → Option (Nat → Int32)) : ∀ (d i m : Nat) (f : Int) (C : F1), (i : Int) + d = n → d < m → (f = 0 ∨ f = 1) → FR (rw16 c C) → ∃ (f' : Int) (C' : F1), mX10_findComing_L59 (iI (c : Int)) (iI n) (iF X) (iF A) (iF B) (iF Ho) kk m (iI f) (iI (i : Int)) (iF C) = kk (iI f') (iF C') ∧ rw16 c C' = rdd A B Ho BG d i (rw16 c C) ∧ OUT c C C' ∧ (f' = 0 ∨ f' = 1) ∧ (f' = 0 → f = 0 ∧ rdd A B Ho BG d i (rw16 c C) = rw16 c C) ∧ (f' = 1 → f = 1 ∨ ∃ v : Nat, v < 16 ∧ rdd A B Ho BG d i (rw16 c C) v < rw16 c C v)
  | 0, i, 0, _, _, _, hm, _, _ => absurd hm (Nat.not_lt_zero _)
  | 0, i, m + 1, f, C, hi, _, hf, _ => by
    have h30 := hv.2.1
    refine ⟨f, C, ?_, rfl, OUT.rf c C, hf, fun h => ⟨h, rfl⟩, fun h => Or.inl h⟩
    rw [mX10_findComing_L59, if_pos ((iI_le (by omega) (by omega) (by omega) (by omega)).mpr (by omega))]
  | d + 1, i, 0, _, _, _, hm, _, _ => absurd hm (Nat.not_lt_zero _)
  | d + 1, i, m + 1, f, C, hi, hm, hf, hF => by
    have h30 := hv.2.1
    obtain ⟨a0, a1, b0, b1, ne, h0, h1, g0, g1⟩ := hv.2.2 i (by omega)
    have ii : (i : Int).toNat = i := by omega
    obtain ⟨a, ea⟩ : ∃ a : Nat, A i = (a : Int) := ⟨(A i).toNat, by omega⟩
    obtain ⟨b, eb⟩ : ∃ b : Nat, B i = (b : Int) := ⟨(B i).toNat, by omega⟩
    have ta : (A i).toNat = a := by omega
    have tb : (B i).toNat = b := by omega
    have gi := gdn (z := (i : Int)) (n := 30) (by omega) (by omega) (by omega)
    have r1 : iF A (iI (i : Int)).toNatClampNeg = iI (a : Int) := by rw [rd (by omega) (by omega), ii, ea]
    have r2 : iF B (iI (i : Int)).toNatClampNeg = iI (b : Int) := by rw [rd (by omega) (by omega), ii, eb]
    obtain ⟨C1, p1, p2, p3⟩ := rpass (c := c) (l := i) (a := a) (b := b) hc (by omega) (by omega) (by omega) hF ⟨h0, h1⟩ ⟨g0, g1⟩ (hx i (by omega))
    have hF2 : FR (rw16 c C1) := by rw [p2]; exact rel_fr h0 (by omega) hF
    obtain ⟨C2, q1, q2, q3⟩ := rpass (c := c) (l := i) (a := b) (b := a) hc (by omega) (by omega) (by omega) hF2 ⟨h0, h1⟩ ⟨g0, g1⟩ (hx i (by omega))
    have el : rw16 c C2 = ls2 A B Ho BG i (rw16 c C) := by rw [q2, p2]; unfold ls2; rw [ta, tb]
    have hF3 : FR (rw16 c C2) := by rw [el]; exact ls2_fr hv (by omega) hF
    have hdn : ∀ v : Nat, rdd A B Ho BG d (i + 1) (rw16 c C2) v ≤ rw16 c C2 v := fun v => rdd_le d (i + 1) _ v
    have e0 : rdd A B Ho BG (d + 1) i (rw16 c C) = rdd A B Ho BG d (i + 1) (rw16 c C2) := by rw [el]; rfl
    -- the second half, with what was told so far
    have half : ∀ s : Int, (s = 0 ∨ s = 1) → (s = 0 → f = 0 ∧ rw16 c C1 = rw16 c C) → (s = 1 → f = 1 ∨ ∃ v : Nat, v < 16 ∧ rw16 c C1 v < rw16 c C v) →
        ∃ (f' : Int) (C' : F1), mX10_findComing_J97 (iI (c : Int)) (iF X) (iF A) (iF B) (iF Ho) (fun (v2_20 : Int32) (v3_20 : Int32) (t_come_20 : Nat → Int32) => (mX10_findComing_L59 (iI (c : Int)) (iI n) (iF X) (iF A) (iF B) (iF Ho) kk m v2_20 v3_20 t_come_20)) (iI s) (iI (i : Int)) (iF C1) = kk (iI f') (iF C') ∧ rw16 c C' = rdd A B Ho BG (d + 1) i (rw16 c C) ∧ OUT c C C' ∧ (f' = 0 ∨ f' = 1) ∧ (f' = 0 → f = 0 ∧ rdd A B Ho BG (d + 1) i (rw16 c C) = rw16 c C) ∧ (f' = 1 → f = 1 ∨ ∃ v : Nat, v < 16 ∧ rdd A B Ho BG (d + 1) i (rw16 c C) v < rw16 c C v) := by
      intro s hs hs0 hs1
      have go : ∀ t : Int, (t = 0 ∨ t = 1) → (t = 0 → s = 0 ∧ fl Ho BG i b a (rw16 c C1) = 0) → (t = 1 → s = 1 ∨ fl Ho BG i b a (rw16 c C1) = 1) → ∃ (f' : Int) (C' : F1), mX10_findComing_L59 (iI (c : Int)) (iI n) (iF X) (iF A) (iF B) (iF Ho) kk m (iI t) (iI ((i : Int) + 1)) (iF C2) = kk (iI f') (iF C') ∧ rw16 c C' = rdd A B Ho BG (d + 1) i (rw16 c C) ∧ OUT c C C' ∧ (f' = 0 ∨ f' = 1) ∧ (f' = 0 → f = 0 ∧ rdd A B Ho BG (d + 1) i (rw16 c C) = rw16 c C) ∧ (f' = 1 → f = 1 ∨ ∃ v : Nat, v < 16 ∧ rdd A B Ho BG (d + 1) i (rw16 c C) v < rw16 c C v) := by
        intro t ht ht0 ht1
        obtain ⟨f', C', x1, x2, x3, x4, x5, x6⟩ := round10_go hv hx hc kk d (i + 1) m t C2 (by omega) (by omega) ht hF3
        refine ⟨f', C', x1, by rw [e0]; exact x2, (p3.tr q3).tr x3, x4, fun h => ?_, fun h => ?_⟩
        · obtain ⟨y1, y2⟩ := x5 h
          obtain ⟨z1, z2⟩ := ht0 y1
          obtain ⟨w1, w2⟩ := hs0 z1
          refine ⟨w1, ?_⟩
          rw [e0, y2, q2, fl_0 z2, w2]
        · rcases x6 h with h2 | ⟨v, hv2, h2⟩
          · rcases ht1 h2 with h3 | h3
            · rcases hs1 h3 with h4 | ⟨v, hv2, h4⟩
              · exact Or.inl h4
              · refine Or.inr ⟨v, hv2, ?_⟩
                have u1 := hdn v
                have u2 : rw16 c C2 v ≤ rw16 c C1 v := by rw [q2]; exact rel_le v
                rw [e0]
                omega
            · refine Or.inr ⟨a, by omega, ?_⟩
              have u1 := hdn a
              have u2 : rw16 c C2 a < rw16 c C1 a := by rw [q2]; exact fl_1 h3
              have u3 : rw16 c C1 a ≤ rw16 c C a := by rw [p2]; exact rel_le a
              rw [e0]
              omega
          · refine Or.inr ⟨v, hv2, ?_⟩
            have u2 : rw16 c C2 v ≤ rw16 c C1 v := by rw [q2]; exact rel_le v
            have u3 : rw16 c C1 v ≤ rw16 c C v := by rw [p2]; exact rel_le v
            rw [e0]
            omega
      rw [mX10_findComing_J97, if_neg gi, if_neg gi, r1, r2, q1]
      show ∃ (f' : Int) (C' : F1), (if iI (fl Ho BG i b a (rw16 c C1)) = 0 then (if iI s = 0 then mX10_findComing_L59 _ _ _ _ _ _ _ m (iI 0) (iI (i : Int) + iI 1) (iF C2) else mX10_findComing_L59 _ _ _ _ _ _ _ m (iI 1) (iI (i : Int) + iI 1) (iF C2)) else mX10_findComing_L59 _ _ _ _ _ _ _ m (iI 1) (iI (i : Int) + iI 1) (iF C2)) = _ ∧ _
      rw [iI_add]
      rcases fl_or (Ho := Ho) (BG := BG) i b a (rw16 c C1) with k | k
      · rw [k, if_pos z00]
        rcases hs with rfl | rfl
        · rw [if_pos z00]
          exact go 0 (Or.inl rfl) (fun _ => ⟨rfl, k⟩) (fun h => by omega)
        · rw [if_neg (by decide)]
          exact go 1 (Or.inr rfl) (fun h => by omega) (fun _ => Or.inl rfl)
      · rw [k, if_neg (by decide)]
        exact go 1 (Or.inr rfl) (fun h => by omega) (fun _ => Or.inr k)
    rw [mX10_findComing_L59, if_neg (fun k => by have := (iI_le (by omega) (by omega) (by omega) (by omega)).mp k; omega), if_neg gi, if_neg gi, r1, r2, p1]
    show ∃ (f' : Int) (C' : F1), (if iI (fl Ho BG i a b (rw16 c C)) = 0 then (if iI f = 0 then mX10_findComing_J97 _ _ _ _ _ _ (iI 0) _ (iF C1) else mX10_findComing_J97 _ _ _ _ _ _ (iI 1) _ (iF C1)) else mX10_findComing_J97 _ _ _ _ _ _ (iI 1) _ (iF C1)) = _ ∧ _
    rcases fl_or (Ho := Ho) (BG := BG) i a b (rw16 c C) with k | k
    · rw [k, if_pos z00]
      rcases hf with rfl | rfl
      · rw [if_pos z00]
        exact half 0 (Or.inl rfl) (fun _ => ⟨rfl, by rw [p2, fl_0 k]⟩) (fun h => by omega)
      · rw [if_neg (by decide)]
        exact half 1 (Or.inr rfl) (fun h => by omega) (fun _ => Or.inl rfl)
    · rw [k, if_neg (by decide)]
      exact half 1 (Or.inr rfl) (fun h => by omega) (fun _ => Or.inr ⟨b, by omega, by rw [p2]; exact fl_1 k⟩)
theorem rounds10_go (hv : TV n A B Ho BG) (hx : ∀ l : Nat, l < 30 → X l = BG l) {c : Nat} (hc : c < 30) : ∀ (d m : Nat) (C : F1), d + 1 < m → FR (rw16 c C) → EQ16 (RO n A B Ho BG (itr (RO n A B Ho BG) d (rw16 c C))) (itr (RO n A B Ho BG) d (rw16 c C)) → ∃ C' : F1, mX10_findComing_L51 (iI (c : Int)) (iI n) (iF X) (iF A) (iF B) (iF Ho) m (iI 1) (iF C) = some (iF C') ∧ EQ16 (rw16 c C') (itr (RO n A B Ho BG) d (rw16 c C)) ∧ OUT c C C'
  | d, 0, C, hm, _, _ => absurd hm (Nat.not_lt_zero _)
  | d, m + 1, C, hm, hF, hfix => by
    have n0 := hv.1
    have n1 := hv.2.1
    have hkF := kF_ge
    obtain ⟨f', C1, x1, x2, x3, x4, x5, x6⟩ := round10_go hv hx hc (fun (v2_22 : Int32) (t_come_22 : Nat → Int32) => (mX10_findComing_L51 (iI (c : Int)) (iI n) (iF X) (iF A) (iF B) (iF Ho) m v2_22 t_come_22)) n.toNat 0 kF 0 C (by omega) (by omega) (Or.inl rfl) hF
    have x2' : rw16 c C1 = RO n A B Ho BG (rw16 c C) := x2
    rw [mX10_findComing_L51, if_neg (by decide)]
    rcases x4 with rfl | rfl
    · have e : RO n A B Ho BG (rw16 c C) = rw16 c C := (x5 rfl).2
      obtain ⟨m, rfl⟩ : ∃ k, m = k + 1 := ⟨m - 1, by omega⟩
      refine ⟨C1, ?_, ?_, x3⟩
      · refine x1.trans ?_
        show mX10_findComing_L51 _ _ _ _ _ _ (m + 1) (iI 0) (iF C1) = _
        rw [mX10_findComing_L51, if_pos z00]
      · rw [x2', e]
        exact fun v hv2 => (it_fix hv (fun v hv2 => by rw [e]) d v hv2).symm
    · match d, hm, hfix with
      | 0, hm, hfix =>
        rcases x6 rfl with h | ⟨v, hv2, h⟩
        · omega
        · have h2 : RO n A B Ho BG (rw16 c C) v = rw16 c C v := hfix v hv2
          have h3 : RO n A B Ho BG (rw16 c C) v < rw16 c C v := h
          omega
      | d + 1, hm, hfix =>
        have hF1 : FR (rw16 c C1) := by rw [x2']; exact RO_fr hv hF
        obtain ⟨C', y1, y2, y3⟩ := rounds10_go hv hx hc d m C1 (by omega) hF1 (by rw [x2', itr_in]; exact hfix)
        refine ⟨C', x1.trans y1, ?_, x3.tr y3⟩
        rw [x2', itr_in] at y2
        exact y2
end CX
