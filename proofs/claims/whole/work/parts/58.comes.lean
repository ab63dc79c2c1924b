/-! COMES: travel on both sides -/
def EQ16 (F G : F1) : Prop := ∀ v : Nat, v < 16 → F v = G v
def fl (Ho BG : F1) (l a b : Nat) (F : F1) : Int := if gO Ho BG l (F a) < F b then 1 else 0
theorem z00 : iI 0 = 0 := rfl
section CM
variable {n : Int} {A B Ho BG DN : F1}
theorem rel_eq {l a b : Nat} {F G : F1} (ha : a < 16) (hb : b < 16) (h : EQ16 F G) : EQ16 (rel Ho BG l a b F) (rel Ho BG l a b G) := by
  intro v hv
  unfold rel
  rw [h a ha, h b hb]
  split
  · by_cases e : v = b
    · subst e; rw [upI_s, upI_s]
    · rw [upI_n e, upI_n e]; exact h v hv
  · exact h v hv
theorem ls2_eq (hv : TV n A B Ho BG) {l : Nat} (hl : (l : Int) < n) {F G : F1} (h : EQ16 F G) : EQ16 (ls2 A B Ho BG l F) (ls2 A B Ho BG l G) := by
  obtain ⟨a0, a1, b0, b1, -⟩ := hv.2.2 l hl
  exact rel_eq (by omega) (by omega) (rel_eq (by omega) (by omega) h)
theorem rdd_eq (hv : TV n A B Ho BG) : ∀ (d i : Nat) (F G : F1), (i : Int) + d ≤ n → EQ16 F G → EQ16 (rdd A B Ho BG d i F) (rdd A B Ho BG d i G)
  | 0, _, _, _, _, h => h
  | d + 1, i, F, G, hi, h => rdd_eq hv d (i + 1) _ _ (by omega) (ls2_eq hv (by omega) h)
/-- one round over all lines -/
def RO (n : Int) (A B Ho BG : F1) (F : F1) : F1 := rdd A B Ho BG n.toNat 0 F
theorem RO_eq (hv : TV n A B Ho BG) {F G : F1} (h : EQ16 F G) : EQ16 (RO n A B Ho BG F) (RO n A B Ho BG G) := by
  have n0 := hv.1
  exact rdd_eq hv n.toNat 0 F G (by omega) h
theorem RO_fr (hv : TV n A B Ho BG) {F : F1} (h : FR F) : FR (RO n A B Ho BG F) := by
  have n0 := hv.1
  exact rdd_fr hv n.toNat 0 F (by omega) h
theorem it_eq (hv : TV n A B Ho BG) {F G : F1} (h : EQ16 F G) : ∀ k : Nat, EQ16 (itr (RO n A B Ho BG) k F) (itr (RO n A B Ho BG) k G)
  | 0 => h
  | k + 1 => RO_eq hv (it_eq hv h k)
theorem it_fr (hv : TV n A B Ho BG) {F : F1} (h : FR F) : ∀ k : Nat, FR (itr (RO n A B Ho BG) k F)
  | 0 => h
  | k + 1 => RO_fr hv (it_fr hv h k)
theorem it_fix (hv : TV n A B Ho BG) {F : F1} (h : EQ16 (RO n A B Ho BG F) F) : ∀ k : Nat, EQ16 (itr (RO n A B Ho BG) k F) F
  | 0 => fun _ _ => rfl
  | k + 1 => fun v hv2 => (RO_eq hv (it_fix hv h k) v hv2).trans (h v hv2)
theorem rest16 (hv : TV n A B Ho BG) {F : F1} (h : FR F) : EQ16 (RO n A B Ho BG (itr (RO n A B Ho BG) 15 F)) (itr (RO n A B Ho BG) 15 F) := by
  have h2 : EQ16 F (fun v => if v < 16 then F v else 0) := fun v hv2 => (if_pos hv2).symm
  have h3 := travel_rest hv (F := fun v => if v < 16 then F v else 0) (fun v => by
    by_cases c : v < 16
    · simp only [c, if_true]; exact h v c
    · simp only [c, if_false]; omega)
  intro v hv2
  have e1 := it_eq hv h2 15 v hv2
  have e2 := RO_eq hv (it_eq hv h2 15) v hv2
  rw [e1, e2]
  exact h3 v hv2
theorem arr_old {l : Nat} {t : Int} (hl : l < 30) (ht : 0 ≤ t ∧ t ≤ 1000000) (hh : 1 ≤ Ho l ∧ Ho l ≤ 12) (hb : 0 ≤ BG l ∧ BG l ≤ 1000000) : mX3_arrival (iI (l : Int)) (iI 0) (iI t) (iF Ho) (iF BG) (iF DN) = some (iI (gO Ho BG l t)) := by
  have ll : (l : Int).toNat = l := by omega
  have b : ∀ F : F1, mX9_at 30 (iI (l : Int)) (iF F) = iI (F l) := fun F => by rw [at_iI (by omega) (by omega) (by omega), at_in (by omega) (by omega), ll]
  rw [mX3_arrival, if_pos z00, mX3_arrival_J23, if_pos z00, b, b, iI_add]
  by_cases c : BG l < 120
  · rw [if_pos ((iI_lt (by omega) (by omega) (by omega) (by omega)).mpr c)]
    by_cases d : t + Ho l ≤ BG l
    · rw [if_pos ((iI_le (by omega) (by omega) (by omega) (by omega)).mpr d), gO, if_pos (by omega)]
    · rw [if_neg (fun k => d ((iI_le (by omega) (by omega) (by omega) (by omega)).mp k)), gO, if_neg (by omega)]
  · rw [if_neg (fun k => c ((iI_lt (by omega) (by omega) (by omega) (by omega)).mp k))]
    by_cases d : t + Ho l ≤ 120
    · rw [if_pos ((iI_le (by omega) (by omega) (by omega) (by omega)).mpr d), gO, if_pos (by omega)]
    · rw [if_neg (fun k => d ((iI_le (by omega) (by omega) (by omega) (by omega)).mp k)), gO, if_neg (by omega)]
theorem cpass {l a b : Nat} {F : F1} (hl : l < 30) (ha : a < 16) (hb : b < 16) (hF : FR F) (hh : 1 ≤ Ho l ∧ Ho l ≤ 12) (hg : 0 ≤ BG l ∧ BG l ≤ 1000000) : mX0_pass (iI (l : Int)) (iI (a : Int)) (iI (b : Int)) (iF F) (iF Ho) (iF BG) (iF DN) = some (iI (fl Ho BG l a b F), iF (rel Ho BG l a b F)) := by
  have aa : (a : Int).toNat = a := by omega
  have bb : (b : Int).toNat = b := by omega
  have fa := hF a ha
  have fb := hF b hb
  have g0 := gO_in (BG := BG) (l := l) (t := F a) hh.1 fa.1
  have r1 : mX0_firstIn (iI (a : Int)) (iF F) = iI (F a) := by rw [mX0_firstIn, at_iI (by omega) (by omega) (by omega), at_in (by omega) (by omega), aa]
  have r2 : mX0_firstIn (iI (b : Int)) (iF F) = iI (F b) := by rw [mX0_firstIn, at_iI (by omega) (by omega) (by omega), at_in (by omega) (by omega), bb]
  rw [mX0_pass, r1, r2, arr_old hl fa hh hg]
  show (if iI (gO Ho BG l (F a)) < iI (F b) then _ else _) = _
  unfold fl rel
  by_cases c : gO Ho BG l (F a) < F b
  · rw [if_pos ((iI_lt (by omega) (by omega) (by omega) (by omega)).mpr c), if_pos c, if_pos c, pu_iI (by omega) (by omega) (by omega), pu_in (by omega) (by omega), bb]
  · rw [if_neg (fun k => c ((iI_lt (by omega) (by omega) (by omega) (by omega)).mp k)), if_neg c, if_neg c]
/-- back over the same line nothing is won -/
theorem rel_back {l a b : Nat} {F : F1} (hab : a ≠ b) (hF : FR F) (ha : a < 16) (hb : b < 16) (hh : 1 ≤ Ho l) (c : gO Ho BG l (F a) < F b) : rel Ho BG l b a (rel Ho BG l a b F) = rel Ho BG l a b F := by
  have fa := hF a ha
  have fb := hF b hb
  have e : rel Ho BG l a b F = upI F b (gO Ho BG l (F a)) := if_pos c
  rw [e]
  have h1 := gO_ge (Ho := Ho) (BG := BG) (l := l) (t := F a) hh fa.2
  have h2 := gO_ge (Ho := Ho) (BG := BG) (l := l) (t := gO Ho BG l (F a)) hh (by omega)
  refine if_neg ?_
  rw [upI_s, upI_n hab]
  omega
theorem fl_or (l a b : Nat) (F : F1) : fl Ho BG l a b F = 0 ∨ fl Ho BG l a b F = 1 := by
  unfold fl
  split
  · exact Or.inr rfl
  · exact Or.inl rfl
theorem fl_0 {l a b : Nat} {F : F1} (h : fl Ho BG l a b F = 0) : rel Ho BG l a b F = F := by
  unfold fl at h
  unfold rel
  split at h
  · omega
  · rename_i c; rw [if_neg c]
theorem fl_1 {l a b : Nat} {F : F1} (h : fl Ho BG l a b F = 1) : rel Ho BG l a b F b < F b := by
  unfold fl at h
  unfold rel
  split at h
  · rename_i c; rw [if_pos c, upI_s]; exact c
  · omega
theorem round2_go (hv : TV n A B Ho BG) (kk : Int32 → (Nat → Int32) → Option (Nat → Int32)) : ∀ (d i m : Nat) (f : Int) (F : F1), (i : Int) + d = n → d < m → (f = 0 ∨ f = 1) → FR F → ∃ f' : Int, mX0_travel_L53 (iI n) (iF Ho) (iF A) (iF B) (iF BG) (iF DN) kk m (iI f) (iI (i : Int)) (iF F) = kk (iI f') (iF (rdd A B Ho BG d i F)) ∧ (f' = 0 ∨ f' = 1) ∧ (f' = 0 → f = 0 ∧ rdd A B Ho BG d i F = F)
  | 0, i, 0, _, _, _, hm, _, _ => absurd hm (Nat.not_lt_zero _)
  | 0, i, m + 1, f, F, hi, _, hf, _ => by
    have h30 := hv.2.1
    refine ⟨f, ?_, hf, fun h => ⟨h, rfl⟩⟩
    rw [mX0_travel_L53, if_pos ((iI_le (by omega) (by omega) (by omega) (by omega)).mpr (by omega))]
    rfl
  | d + 1, i, 0, _, _, _, hm, _, _ => absurd hm (Nat.not_lt_zero _)
  | d + 1, i, m + 1, f, F, hi, hm, hf, hF => by
    have h30 := hv.2.1
    obtain ⟨a0, a1, b0, b1, ne, h0, h1, g0, g1⟩ := hv.2.2 i (by omega)
    have ii : (i : Int).toNat = i := by omega
    obtain ⟨a, ea⟩ : ∃ a : Nat, A i = (a : Int) := ⟨(A i).toNat, by omega⟩
    obtain ⟨b, eb⟩ : ∃ b : Nat, B i = (b : Int) := ⟨(B i).toNat, by omega⟩
    have ta : (A i).toNat = a := by omega
    have tb : (B i).toNat = b := by omega
    have r1 : mX1_oneEndOf (iI (i : Int)) (iF A) = iI (a : Int) := by rw [mX1_oneEndOf, at_iI (by omega) (by omega) (by omega), at_in (by omega) (by omega), ii, ea]
    have r2 : mX1_otherEndOf (iI (i : Int)) (iF B) = iI (b : Int) := by rw [mX1_otherEndOf, at_iI (by omega) (by omega) (by omega), at_in (by omega) (by omega), ii, eb]
    have p1 := cpass (DN := DN) (l := i) (a := a) (b := b) (by omega) (by omega) (by omega) hF ⟨h0, h1⟩ ⟨g0, g1⟩
    have hF2 : FR (rel Ho BG i a b F) := rel_fr h0 (by omega) hF
    have p2 := cpass (DN := DN) (l := i) (a := b) (b := a) (by omega) (by omega) (by omega) hF2 ⟨h0, h1⟩ ⟨g0, g1⟩
    have el : ls2 A B Ho BG i F = rel Ho BG i b a (rel Ho BG i a b F) := by unfold ls2; rw [ta, tb]
    have hF3 : FR (ls2 A B Ho BG i F) := ls2_fr hv (by omega) hF
    rw [mX0_travel_L53, if_neg (fun k => by have := (iI_le (by omega) (by omega) (by omega) (by omega)).mp k; omega), r1, r2, p1]
    show ∃ f' : Int, (if iI (fl Ho BG i a b F) = 0 then _ else _) = _ ∧ _
    rcases fl_or (Ho := Ho) (BG := BG) i a b F with c | c
    · rw [c, if_pos z00]
      show ∃ f' : Int, Option.bind (mX0_pass _ _ _ (iF (rel Ho BG i a b F)) _ _ _) _ = _ ∧ _
      rw [p2]
      show ∃ f' : Int, (if iI (fl Ho BG i b a (rel Ho BG i a b F)) = 0 then mX0_travel_L53 _ _ _ _ _ _ _ m (iI f) _ (iF (rel Ho BG i b a (rel Ho BG i a b F))) else mX0_travel_L53 _ _ _ _ _ _ _ m (iI 1) _ (iF (rel Ho BG i b a (rel Ho BG i a b F)))) = _ ∧ _
      rw [← el, iI_add]
      rcases fl_or (Ho := Ho) (BG := BG) i b a (rel Ho BG i a b F) with e | e
      · rw [e, if_pos z00]
        obtain ⟨f', x1, x2, x3⟩ := round2_go hv kk d (i + 1) m f _ (by omega) (by omega) hf hF3
        refine ⟨f', x1, x2, fun h => ?_⟩
        obtain ⟨y1, y2⟩ := x3 h
        refine ⟨y1, ?_⟩
        show rdd A B Ho BG d (i + 1) (ls2 A B Ho BG i F) = F
        rw [y2, el, fl_0 e, fl_0 c]
      · rw [e, if_neg (by decide)]
        obtain ⟨f', x1, x2, x3⟩ := round2_go hv kk d (i + 1) m 1 _ (by omega) (by omega) (Or.inr rfl) hF3
        refine ⟨f', x1, x2, fun h => ?_⟩
        have := (x3 h).1
        omega
    · rw [c, if_neg (by decide)]
      show ∃ f' : Int, mX0_travel_L53 _ _ _ _ _ _ _ m (iI 1) _ (iF (rel Ho BG i a b F)) = _ ∧ _
      have c2 : gO Ho BG i (F a) < F b := by
        unfold fl at c
        split at c
        · assumption
        · omega
      rw [← rel_back (by omega) hF (by omega) (by omega) h0 c2, ← el, iI_add]
      obtain ⟨f', x1, x2, x3⟩ := round2_go hv kk d (i + 1) m 1 _ (by omega) (by omega) (Or.inr rfl) hF3
      refine ⟨f', x1, x2, fun h => ?_⟩
      have := (x3 h).1
      omega
theorem rounds2_go (hv : TV n A B Ho BG) : ∀ (d k m : Nat) (f : Int) (F : F1), k + d = 16 → d < m → (f = 0 ∨ f = 1) → FR F → (f = 0 → EQ16 (RO n A B Ho BG F) F) → ∃ F' : F1, mX0_travel_L37 (iI n) (iF Ho) (iF A) (iF B) (iF BG) (iF DN) m (iI f) (iI (k : Int)) (iF F) = some (iF F') ∧ EQ16 F' (itr (RO n A B Ho BG) d F)
  | 0, k, 0, _, _, _, hm, _, _, _ => absurd hm (Nat.not_lt_zero _)
  | 0, k, m + 1, f, F, hi, _, hf, _, _ => by
    refine ⟨F, ?_, fun _ _ => rfl⟩
    rw [mX0_travel_L37, if_pos ((iI_le (by omega) (by omega) (by omega) (by omega)).mpr (by omega))]
  | d + 1, k, 0, _, _, _, hm, _, _, _ => absurd hm (Nat.not_lt_zero _)
  | d + 1, k, m + 1, f, F, hi, hm, hf, hF, hx => by
    have n0 := hv.1
    have n1 := hv.2.1
    have hkF := kF_ge
    rw [mX0_travel_L37, if_neg (fun k => by have := (iI_le (by omega) (by omega) (by omega) (by omega)).mp k; omega)]
    rcases hf with rfl | rfl
    · refine ⟨F, by rw [if_pos z00], fun v hv2 => ?_⟩
      exact (it_fix hv (hx rfl) (d + 1) v hv2).symm
    · rw [if_neg (by decide)]
      obtain ⟨f', x1, x2, x3⟩ := round2_go (DN := DN) hv (fun (v3_14 : Int32) (t_first_14 : Nat → Int32) => (mX0_travel_L37 (iI n) (iF Ho) (iF A) (iF B) (iF BG) (iF DN) m v3_14 (iI (k : Int) + iI 1) t_first_14)) n.toNat 0 kF 0 F (by omega) (by omega) (Or.inl rfl) hF
      obtain ⟨F', y1, y2⟩ := rounds2_go hv d (k + 1) m f' (RO n A B Ho BG F) (by omega) (by omega) x2 (RO_fr hv hF) (fun h => by
        have e : RO n A B Ho BG F = F := (x3 h).2
        rw [e, e]
        exact fun _ _ => rfl)
      refine ⟨F', ?_, ?_⟩
      · refine x1.trans ?_
        show mX0_travel_L37 _ _ _ _ _ _ m (iI f') (iI (k : Int) + iI 1) (iF (RO n A B Ho BG F)) = _
        rw [iI_add]
        exact y1
      · rw [← itr_in]
        exact y2
end CM
