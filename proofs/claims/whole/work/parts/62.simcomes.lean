/-! COMES: answers -/
def ST (pl : Nat) (ho : Int) : F1 := fun v => if v = pl then ho else 1000000
/-- when a car from a place at an hour has come anywhere -/
def TT (n : Int) (A B Ho BG : F1) (pl : Nat) (ho : Int) : F1 := itr (RO n A B Ho BG) 15 (ST pl ho)
def CV (c : Int) (CP CH : F1) : Prop := 0 ≤ c ∧ c ≤ 30 ∧ ∀ k : Nat, (k : Int) < c → 0 ≤ CP k ∧ CP k ≤ 15 ∧ 0 ≤ CH k ∧ CH k ≤ 120
def HB (F : F1) : Prop := ∀ v : Nat, v < 16 → (0 ≤ F v ∧ F v ≤ 120) ∨ F v = 1000000
section SC
variable {n : Int} {A B Ho BG DN X CP CH : F1}
theorem ST_hb {pl : Nat} {ho : Int} (h : 0 ≤ ho ∧ ho ≤ 120) : HB (ST pl ho) := by
  intro v _
  unfold ST
  split
  · exact Or.inl h
  · exact Or.inr rfl
theorem HB.fr {F : F1} (h : HB F) : FR F := fun v hv => by
  have := h v hv
  omega
theorem rel_hb {l a b : Nat} {F : F1} (hh : 1 ≤ Ho l) (ha : a < 16) (hb : b < 16) (h : HB F) : HB (rel Ho BG l a b F) := by
  intro v hv
  unfold rel
  split
  · rename_i c
    by_cases e : v = b
    · subst e
      rw [upI_s]
      have h1 := h v hv
      have h2 := h a ha
      have h3 := gO_in (BG := BG) (l := l) (t := F a) hh (by omega)
      unfold gO at c h3 ⊢
      split at c
      · rename_i d; rw [if_pos d] at h3 ⊢; omega
      · omega
    · rw [upI_n e]; exact h v hv
  · exact h v hv
theorem rdd_hb (hv : TV n A B Ho BG) : ∀ (d i : Nat) (F : F1), (i : Int) + d ≤ n → HB F → HB (rdd A B Ho BG d i F)
  | 0, _, _, _, h => h
  | d + 1, i, F, hi, h => by
    obtain ⟨a0, a1, b0, b1, ne, h0, h1, -, -⟩ := hv.2.2 i (by omega)
    exact rdd_hb hv d (i + 1) _ (by omega) (rel_hb h0 (by omega) (by omega) (rel_hb h0 (by omega) (by omega) h))
theorem it_hb (hv : TV n A B Ho BG) {F : F1} (h : HB F) : ∀ k : Nat, HB (itr (RO n A B Ho BG) k F)
  | 0 => h
  | k + 1 => by
    have n0 := hv.1
    exact rdd_hb hv n.toNat 0 _ (by omega) (it_hb hv h k)
theorem TT_hb (hv : TV n A B Ho BG) {pl : Nat} {ho : Int} (h : 0 ≤ ho ∧ ho ≤ 120) : HB (TT n A B Ho BG pl ho) := it_hb hv (ST_hb h) 15
theorem travel2 (hv : TV n A B Ho BG) {c : Nat} (hc : c < 30) (hp : 0 ≤ CP c ∧ CP c ≤ 15) (hh : 0 ≤ CH c ∧ CH c ≤ 120) (F0 : F1) : ∃ F' : F1, mX0_travel (iI (c : Int)) (iF F0) (iF CH) (iF CP) (iI n) (iF Ho) (iF A) (iF B) (iF BG) (iF DN) = some (iF F') ∧ EQ16 F' (TT n A B Ho BG (CP c).toNat (CH c)) := by
  have hkF := kF_ge
  have cc : (c : Int).toNat = c := by omega
  have b1 : ∀ F : F1, mX9_at 30 (iI (c : Int)) (iF F) = iI (F c) := fun F => by rw [at_iI (by omega) (by omega) (by omega), at_in (by omega) (by omega), cc]
  have e1 : (fun j => if j < 16 then iI 1000000 else iF F0 j) = iF (fun j => if j < 16 then 1000000 else F0 j) := funext fun j => by
    show (if j < 16 then iI 1000000 else iI (F0 j)) = iI (if j < 16 then 1000000 else F0 j)
    split <;> rfl
  have h2 : EQ16 (upI (fun j => if j < 16 then 1000000 else F0 j) (CP c).toNat (CH c)) (ST (CP c).toNat (CH c)) := by
    intro v hv2
    unfold ST
    by_cases e : v = (CP c).toNat
    · rw [if_pos e, e, upI_s]
    · rw [if_neg e, upI_n e, if_pos hv2]
  have hF : FR (upI (fun j => if j < 16 then 1000000 else F0 j) (CP c).toNat (CH c)) := fun v hv2 => by
    rw [h2 v hv2]
    exact (ST_hb hh).fr v hv2
  obtain ⟨F', x1, x2⟩ := rounds2_go (DN := DN) hv 16 0 kF 1 _ (by omega) (by omega) (Or.inr rfl) hF (fun h => by omega)
  refine ⟨F', ?_, fun v hv2 => ?_⟩
  · rw [mX0_travel, kfill (n := 16) (by omega), e1]
    show mX0_travel_L37 _ _ _ _ _ _ kF (iI 1) (iI 0) (mX9_put 16 _ _ _) = _
    rw [b1, b1, pu_iI (by omega) (by omega) (by omega), pu_in (by omega) (by omega)]
    exact x1
  · have r1 := x2 v hv2
    have r2 := it_eq hv h2 16 v hv2
    have r3 := rest16 hv (F := ST (CP c).toNat (CH c)) (ST_hb hh).fr v hv2
    rw [r1, r2]
    exact r3
theorem fill10_go (c : Nat) (hc : c < 30) (kk : (Nat → Int32) → Option (Nat → Int32)) : ∀ (d i m : Nat) (C : F1), i + d = 16 → d < m → ∃ C' : F1, mX10_findComing_L2 (iI (c : Int)) kk m (iI (i : Int)) (iF C) = kk (iF C') ∧ OUT c C C' ∧ ∀ v : Nat, v < 16 → (i ≤ v → C' (16 * c + v) = 1000000) ∧ (v < i → C' (16 * c + v) = C (16 * c + v))
  | 0, i, 0, _, _, hm => absurd hm (Nat.not_lt_zero _)
  | 0, i, m + 1, C, hi, _ => by
    refine ⟨C, ?_, OUT.rf c C, fun v hv => ⟨fun h => by omega, fun _ => rfl⟩⟩
    rw [mX10_findComing_L2, if_pos ((iI_le (by omega) (by omega) (by omega) (by omega)).mpr (by omega))]
  | d + 1, i, 0, _, _, hm => absurd hm (Nat.not_lt_zero _)
  | d + 1, i, m + 1, C, hi, hm => by
    have ei : (16 * (c : Int) + (i : Int)).toNat = 16 * c + i := by omega
    have g := gdn (z := 16 * (c : Int) + (i : Int)) (n := 480) (by omega) (by omega) (by omega)
    obtain ⟨C', x1, x2, x3⟩ := fill10_go c hc kk d (i + 1) m (upI C (16 * c + i) 1000000) (by omega) (by omega)
    refine ⟨C', ?_, fun j hj => ?_, fun v hv => ⟨fun h => ?_, fun h => ?_⟩⟩
    · rw [mX10_findComing_L2, if_neg (fun k => by have := (iI_le (by omega) (by omega) (by omega) (by omega)).mp k; omega), iI_mul, iI_add, if_neg g, wr (by omega) (by omega), ei, iI_add]
      exact x1
    · rw [x2 j hj, upI_n (by omega)]
    · by_cases e : v = i
      · rw [(x3 v hv).2 (by omega), e, upI_s]
      · exact (x3 v hv).1 (by omega)
    · rw [(x3 v hv).2 (by omega), upI_n (by omega)]
theorem travel10 (hv : TV n A B Ho BG) (hx : ∀ l : Nat, l < 30 → X l = BG l) {c : Nat} (hc : c < 30) (hp : 0 ≤ CP c ∧ CP c ≤ 15) (hh : 0 ≤ CH c ∧ CH c ≤ 120) (C : F1) : ∃ C' : F1, mX10_findComing (iI (c : Int)) (iI n) (iF X) (iF CH) (iF CP) (iF C) (iF A) (iF B) (iF Ho) = some (iF C') ∧ EQ16 (rw16 c C') (TT n A B Ho BG (CP c).toNat (CH c)) ∧ OUT c C C' := by
  have hkF := kF_ge
  have cc : (c : Int).toNat = c := by omega
  obtain ⟨p, ep⟩ : ∃ p : Nat, CP c = (p : Int) := ⟨(CP c).toNat, by omega⟩
  have tp : (CP c).toNat = p := by omega
  have b1 : ∀ F : F1, iF F (iI (c : Int)).toNatClampNeg = iI (F c) := fun F => by rw [rd (by omega) (by omega), cc]
  have g1 := gdn (z := (c : Int)) (n := 30) (by omega) (by omega) (by omega)
  have g2 := gdn (z := 16 * (c : Int) + (p : Int)) (n := 480) (by omega) (by omega) (by omega)
  have ei : (16 * (c : Int) + (p : Int)).toNat = 16 * c + p := by omega
  obtain ⟨C1, x1, x2, x3⟩ := fill10_go c hc (fun (t_come_3 : Nat → Int32) => (if (iI (c : Int)) < 0 ∨ 30 ≤ Int32.toNatClampNeg (iI (c : Int)) then none else (if (iI (c : Int)) < 0 ∨ 30 ≤ Int32.toNatClampNeg (iI (c : Int)) then none else (if (((iI 16) * (iI (c : Int))) + ((iF CP) (Int32.toNatClampNeg (iI (c : Int))))) < 0 ∨ 480 ≤ Int32.toNatClampNeg (((iI 16) * (iI (c : Int))) + ((iF CP) (Int32.toNatClampNeg (iI (c : Int))))) then none else mX10_findComing_L51 (iI (c : Int)) (iI n) (iF X) (iF A) (iF B) (iF Ho) kF (iI 1) (upd t_come_3 (Int32.toNatClampNeg (((iI 16) * (iI (c : Int))) + ((iF CP) (Int32.toNatClampNeg (iI (c : Int)))))) ((iF CH) (Int32.toNatClampNeg (iI (c : Int))))))))) 16 0 kF C (by omega) (by omega)
  have h2 : EQ16 (rw16 c (upI C1 (16 * c + p) (CH c))) (ST p (CH c)) := by
    intro v hv2
    rw [rw16_up]
    unfold ST
    by_cases e : v = p
    · rw [if_pos e, e, upI_s]
    · rw [if_neg e, upI_n e]
      exact (x3 v hv2).1 (by omega)
  have hF : FR (rw16 c (upI C1 (16 * c + p) (CH c))) := fun v hv2 => by
    rw [h2 v hv2]
    exact (ST_hb hh).fr v hv2
  obtain ⟨C', y1, y2, y3⟩ := rounds10_go hv hx hc 15 kF _ (by omega) hF (rest16 hv hF)
  refine ⟨C', ?_, fun v hv2 => ?_, fun j hj => ?_⟩
  · rw [mX10_findComing]
    refine x1.trans ?_
    show (if (iI (c : Int)) < 0 ∨ 30 ≤ Int32.toNatClampNeg (iI (c : Int)) then none else _) = _
    rw [if_neg g1, if_neg g1, b1, b1, ep, iI_mul, iI_add, if_neg g2, wr (by omega) (by omega), ei]
    exact y1
  · rw [y2 v hv2, tp]
    exact it_eq hv h2 15 v hv2
  · rw [y3 j hj, upI_n (by omega)]
    exact x2 j hj
end SC
section SC2
variable {n no : Int} {A B M Ho Se oL af hr wi rL rA rH rW BG DN : F1} {rs ro : Int}
theorem PI.tv (h : PI n no A B M Ho Se oL af hr wi rL rA rH rW BG DN rs ro) : TV n A B Ho BG := by
  refine ⟨h.1.1, h.1.2.1, fun l hl => ?_⟩
  obtain ⟨a0, a1, b0, b1, ne, m0, m1, h0, h1, -⟩ := h.1.2.2.2.2.2.2 l hl
  have n1 := h.1.2.1
  have := h.pf l (by omega)
  exact ⟨a0, a1, b0, b1, ne, h0, h1, by omega, by omega⟩
theorem sim_comes {p q c : Int} {CP CH : F1} (hp : I32 p) (hq : I32 q) (hc : CV c CP CH) (h : PI n no A B M Ho Se oL af hr wi rL rA rH rW BG DN rs ro) (F0 X C Y W : F1) :
    ∃ (r : Int) (F' X' C' Y' W' : F1), mX9_comes (iI p) (iI q) (iI c) (iF F0) (iF CH) (iF CP) (iI n) (iF Ho) (iF A) (iF B) (iF BG) (iF DN) = some (iI r, iF F') ∧ mX10_comes (iI p) (iI q) (iI n) (iI rs) (iI ro) (iI no) (iI c) (iF X) (iF CH) (iF CP) (iF C) (iF Y) (iF A) (iF B) (iF Ho) (iF M) (iF Se) (iF rA) (iF rH) (iF rL) (iF rW) (iF W) = some (iI r, iI 0, iF X', iF C', iF Y', iF W') := by
  obtain ⟨p0, p1⟩ := hp
  obtain ⟨q0, q1⟩ := hq
  obtain ⟨c0, c1, hC⟩ := hc
  by_cases d : 0 ≤ p ∧ p < c
  · by_cases e : 0 ≤ q ∧ q ≤ 15
    · obtain ⟨k, rfl⟩ := Int.eq_ofNat_of_zero_le d.1
      obtain ⟨z, rfl⟩ := Int.eq_ofNat_of_zero_le e.1
      obtain ⟨g0, g1, g2, g3⟩ := hC k d.2
      have hv := h.tv
      obtain ⟨X', Y', W', e1, e2⟩ := h.reckon X Y W
      obtain ⟨F', t1, t2⟩ := travel2 (DN := DN) hv (c := k) (by omega) ⟨g0, g1⟩ ⟨g2, g3⟩ F0
      obtain ⟨C', t3, t4, -⟩ := travel10 (X := X') hv (fun l hl => (e2 l hl).1) (c := k) (by omega) ⟨g0, g1⟩ ⟨g2, g3⟩ C
      have hb := TT_hb hv (pl := (CP k).toNat) ⟨g2, g3⟩ z (by omega)
      have u2 := t2 z (by omega)
      have u4 : C' (16 * k + z) = TT n A B Ho BG (CP k).toNat (CH k) z := t4 z (by omega)
      generalize TT n A B Ho BG (CP k).toNat (CH k) z = v at hb u2 u4
      have zz : (z : Int).toNat = z := by omega
      have b1 : mX0_firstIn (iI (z : Int)) (iF F') = iI v := by rw [mX0_firstIn, at_iI (by omega) (by omega) (by omega), at_in (by omega) (by omega), zz, u2]
      have ei : (16 * (k : Int) + (z : Int)).toNat = 16 * k + z := by omega
      have b2 : iF C' (iI (16 * (k : Int) + (z : Int))).toNatClampNeg = iI v := by rw [rd (by omega) (by omega), ei, u4]
      have gg := gdn (z := 16 * (k : Int) + (z : Int)) (n := 480) (by omega) (by omega) (by omega)
      have n9 : ¬ mX0_isThere (iI (k : Int)) (iI c) = 0 := fun x => (isT0 p0 p1 c0 (by omega)).mp x d
      have n10 : ¬ mX10_in (Int32.toInt64 (iI (k : Int))) (lI 0) (Int32.toInt64 (iI c) - lI 1) = 0 := fun x => by
        rw [iI_l p0 p1, iI_l (by omega) (by omega)] at x
        exact (in_n p0 p1 c0 (by omega)).mp x d
      have m9 : ¬ mX9_isPlace (iI (z : Int)) = 0 := fun x => (place0 q0 q1).mp x e
      have m10 : ¬ mX10_isPlace (iI (z : Int)) = 0 := fun x => (place10 q0 q1).mp x e
      have a9 : mX9_comes (iI (k : Int)) (iI (z : Int)) (iI c) (iF F0) (iF CH) (iF CP) (iI n) (iF Ho) (iF A) (iF B) (iF BG) (iF DN) = (if iI v = iI 1000000 then some (iI (-1), iF F') else some (iI v, iF F')) := by
        rw [mX9_comes, mX0_firstHourIn, if_neg n9, if_neg m9, t1]
        show Option.bind (if mX0_firstIn (iI (z : Int)) (iF F') = iI 1000000 then _ else some (mX0_firstIn (iI (z : Int)) (iF F'), _)) _ = _
        rw [b1]
        split <;> rfl
      have a10 : mX10_comes (iI (k : Int)) (iI (z : Int)) (iI n) (iI rs) (iI ro) (iI no) (iI c) (iF X) (iF CH) (iF CP) (iF C) (iF Y) (iF A) (iF B) (iF Ho) (iF M) (iF Se) (iF rA) (iF rH) (iF rL) (iF rW) (iF W) = (if iI v ≤ iI 120 then some (iI v, iI 0, iF X', iF C', iF Y', iF W') else some (iI (-1), iI 0, iF X', iF C', iF Y', iF W')) := by
        rw [mX10_comes, if_neg n10, if_neg m10, e1]
        show Option.bind (mX10_findComing _ _ (iF X') _ _ _ _ _ _) _ = _
        rw [t3]
        show (if ((iI 16) * (iI (k : Int)) + (iI (z : Int))) < 0 ∨ 480 ≤ Int32.toNatClampNeg ((iI 16) * (iI (k : Int)) + (iI (z : Int))) then none else (if iF C' (Int32.toNatClampNeg ((iI 16) * (iI (k : Int)) + (iI (z : Int)))) ≤ iI 120 then some (iF C' (Int32.toNatClampNeg ((iI 16) * (iI (k : Int)) + (iI (z : Int)))), _) else _)) = _
        rw [iI_mul, iI_add, if_neg gg, b2]
      rcases hb with hb | hb
      · refine ⟨v, F', X', C', Y', W', ?_, ?_⟩
        · rw [a9, if_neg (fun x => by have := (iI_eq (by omega) (by omega) (by omega) (by omega)).mp x; omega)]
        · rw [a10, if_pos ((iI_le (by omega) (by omega) (by omega) (by omega)).mpr hb.2)]
      · refine ⟨-1, F', X', C', Y', W', ?_, ?_⟩
        · rw [a9, if_pos (by rw [hb])]
        · rw [a10, if_neg (fun x => by have := (iI_le (by omega) (by omega) (by omega) (by omega)).mp x; omega)]
    · refine ⟨-1, F0, X, C, Y, W, ?_, ?_⟩
      · rw [mX9_comes, mX0_firstHourIn, if_neg (fun x => (isT0 p0 p1 c0 (by omega)).mp x d), if_pos ((place0 q0 q1).mpr e)]
        rfl
      · rw [mX10_comes, if_neg (fun x => by
          rw [iI_l p0 p1, iI_l (by omega) (by omega)] at x
          exact (in_n p0 p1 c0 (by omega)).mp x d), if_pos ((place10 q0 q1).mpr e)]
  · refine ⟨-1, F0, X, C, Y, W, ?_, ?_⟩
    · rw [mX9_comes, mX0_firstHourIn, if_pos ((isT0 p0 p1 c0 (by omega)).mpr d)]
      rfl
    · rw [mX10_comes, if_pos (by
        rw [iI_l p0 p1, iI_l (by omega) (by omega)]
        exact (in_n p0 p1 c0 (by omega)).mpr d)]
end SC2
