/-! WHEN LINES ARE SHUT AND NEW: both sides reckon the same -/
theorem iI_div {a b : Int} (h0 : 0 ≤ a) (h1 : a < 2147483648) (h2 : 0 < b) (h3 : b < 2147483648) : iI a / iI b = iI (a / b) := by
  obtain ⟨x, rfl⟩ := Int.eq_ofNat_of_zero_le h0
  obtain ⟨y, rfl⟩ := Int.eq_ofNat_of_zero_le (show 0 ≤ b by omega)
  rw [← iI_n, ← iI_n]
  exact (pk_div (a := x) (d := y) (by omega) (by omega) (by omega)).trans (iI_n _)
abbrev F1 : Type := Nat → Int
/-- LINES as they are told -/
def LV (n : Int) (A B M Ho Se : F1) (rs ro : Int) : Prop := 0 ≤ n ∧ n ≤ 30 ∧ 1 ≤ rs ∧ rs ≤ 20 ∧ 1 ≤ ro ∧ ro ≤ 20 ∧ ∀ l : Nat, (l : Int) < n → 0 ≤ A l ∧ A l ≤ 15 ∧ 0 ≤ B l ∧ B l ≤ 15 ∧ A l ≠ B l ∧ 1 ≤ M l ∧ M l ≤ 200 ∧ 1 ≤ Ho l ∧ Ho l ≤ 12 ∧ (Se l = 0 ∨ Se l = 1)
/-- ORDERS that can be -/
def PV (n no : Int) (oL af hr wi : F1) : Prop := 0 ≤ no ∧ no ≤ 30 ∧ (∀ k : Nat, (k : Int) < no → 0 ≤ oL k ∧ oL k < n ∧ 0 ≤ hr (oL k).toNat ∧ hr (oL k).toNat ≤ 100 ∧ 1 ≤ wi (oL k).toNat ∧ wi (oL k).toNat ≤ 99 ∧ (af (oL k).toNat = -1 ∨ ∃ j : Nat, j < k ∧ oL j = af (oL k).toNat) ∧ ∀ j : Nat, j < k → oL j ≠ oL k) ∧ ∀ l : Nat, l < 30 → (∀ k : Nat, (k : Int) < no → oL k ≠ (l : Int)) → wi l = 0
def pace (wi Se : F1) (rs ro : Int) (l : Nat) : Int := wi l * (if Se l = 1 then rs else ro)
def rkS (oL af hr wi M Se : F1) (rs ro : Int) (k : Nat) (s : F1 × F1) : F1 × F1 :=
  (upI s.1 (oL k).toNat (hr (oL k).toNat + (if af (oL k).toNat = -1 then 0 else s.2 (af (oL k).toNat).toNat)),
   upI s.2 (oL k).toNat (hr (oL k).toNat + (if af (oL k).toNat = -1 then 0 else s.2 (af (oL k).toNat).toNat) + (M (oL k).toNat + pace wi Se rs ro (oL k).toNat - 1) / pace wi Se rs ro (oL k).toNat))
def rk (oL af hr wi M Se : F1) (rs ro : Int) : Nat → F1 × F1 → F1 × F1
  | 0, s => s
  | k + 1, s => rkS oL af hr wi M Se rs ro k (rk oL af hr wi M Se rs ro k s)
def NV : F1 × F1 := (fun _ => 1000000, fun _ => 1000000)
theorem pace_in {wi Se : F1} {rs ro : Int} {l : Nat} (h1 : 1 ≤ rs ∧ rs ≤ 20) (h2 : 1 ≤ ro ∧ ro ≤ 20) (hw : 1 ≤ wi l ∧ wi l ≤ 99) : 1 ≤ pace wi Se rs ro l ∧ pace wi Se rs ro l ≤ 1980 := by
  have key : ∀ r : Int, 1 ≤ r → r ≤ 20 → 1 ≤ wi l * r ∧ wi l * r ≤ 1980 := by
    intro r a b
    have e1 : wi l * 1 ≤ wi l * r := Int.mul_le_mul_of_nonneg_left a (by omega)
    have e2 : wi l * r ≤ wi l * 20 := Int.mul_le_mul_of_nonneg_left b (by omega)
    omega
  unfold pace
  split
  · exact key rs h1.1 h1.2
  · exact key ro h2.1 h2.2
theorem dur_in {m p : Int} (hm : 1 ≤ m ∧ m ≤ 200) (hp : 1 ≤ p) : 1 ≤ (m + p - 1) / p ∧ (m + p - 1) / p ≤ 200 := by
  constructor
  · rw [Int.le_ediv_iff_mul_le (by omega)]
    omega
  · have h : (m + p - 1) / p < 201 := by
      rw [Int.ediv_lt_iff_lt_mul (by omega)]
      have : (1 : Int) * 200 ≤ p * 200 := Int.mul_le_mul_of_nonneg_right hp (by omega)
      omega
    omega
section RK
variable {n no : Int} {A B M Ho Se oL af hr wi : F1} {rs ro : Int}
/-- what the rows hold when k ORDERS are reckoned -/
theorem rk_ok (hl : LV n A B M Ho Se rs ro) (hp : PV n no oL af hr wi) : ∀ k : Nat, (k : Int) ≤ no → (∀ j : Nat, j < k → 0 ≤ (rk oL af hr wi M Se rs ro k NV).1 (oL j).toNat ∧ (rk oL af hr wi M Se rs ro k NV).1 (oL j).toNat < (rk oL af hr wi M Se rs ro k NV).2 (oL j).toNat ∧ (rk oL af hr wi M Se rs ro k NV).2 (oL j).toNat ≤ 300 * (k : Int)) ∧ ∀ l : Nat, (∀ j : Nat, j < k → (oL j).toNat ≠ l) → (rk oL af hr wi M Se rs ro k NV).1 l = 1000000 ∧ (rk oL af hr wi M Se rs ro k NV).2 l = 1000000
  | 0, _ => ⟨fun j hj => absurd hj (Nat.not_lt_zero j), fun l _ => ⟨rfl, rfl⟩⟩
  | k + 1, hk => by
    obtain ⟨l0, l1, r0, r1, r2, r3, hL⟩ := hl
    obtain ⟨p0, p1, hP, hW⟩ := hp
    obtain ⟨i1, i2⟩ := rk_ok ⟨l0, l1, r0, r1, r2, r3, hL⟩ ⟨p0, p1, hP, hW⟩ k (by omega)
    obtain ⟨q0, q1, q2, q3, q4, q5, q6, q7⟩ := hP k (by omega)
    obtain ⟨-, -, -, -, -, m0, m1, -, -, -⟩ := hL (oL k).toNat (by omega)
    have hpa := pace_in (Se := Se) (l := (oL k).toNat) ⟨r0, r1⟩ ⟨r2, r3⟩ ⟨q4, q5⟩
    have hdu := dur_in ⟨m0, m1⟩ hpa.1
    have hst : 0 ≤ (if af (oL k).toNat = -1 then 0 else (rk oL af hr wi M Se rs ro k NV).2 (af (oL k).toNat).toNat) ∧ (if af (oL k).toNat = -1 then 0 else (rk oL af hr wi M Se rs ro k NV).2 (af (oL k).toNat).toNat) ≤ 300 * (k : Int) := by
      split
      · omega
      · rcases q6 with q6 | ⟨j, hj, e⟩
        · omega
        · have := i1 j hj
          rw [← e]
          omega
    refine ⟨fun j hj => ?_, fun l h => ?_⟩
    · show 0 ≤ upI _ _ _ _ ∧ upI _ _ _ _ < upI _ _ _ _ ∧ upI _ _ _ _ ≤ _
      by_cases e : j = k
      · subst e
        rw [upI_s, upI_s]
        omega
      · have hjk : j < k := by omega
        have hne : (oL j).toNat ≠ (oL k).toNat := by
          have := q7 j hjk
          have := (hP j (by omega)).1
          omega
        rw [upI_n hne, upI_n hne]
        have := i1 j hjk
        omega
    · show upI _ _ _ _ = _ ∧ upI _ _ _ _ = _
      have hne : l ≠ (oL k).toNat := fun e => h k (by omega) e.symm
      rw [upI_n hne, upI_n hne]
      exact i2 l (fun j hj => h j (by omega))
end RK
section RK2
variable {n no : Int} {A B M Ho Se oL af hr wi : F1} {rs ro : Int}
theorem htc {l : Nat} {w : Int} (hl : l < 30) (hs : Se l = 0 ∨ Se l = 1) (hm : 1 ≤ M l ∧ M l ≤ 200) (hw : 1 ≤ w ∧ w ≤ 99) (h1 : 1 ≤ rs ∧ rs ≤ 20) (h2 : 1 ≤ ro ∧ ro ≤ 20) :
    mX1_hoursToChange (iI l) (iI w) (iI rs) (iI ro) (iF M) (iF Se) = some (iI ((M l + w * (if Se l = 1 then rs else ro) - 1) / (w * (if Se l = 1 then rs else ro)))) := by
  have key : ∀ r : Int, 1 ≤ r → r ≤ 20 → mX1_hoursToChange_J24 (iI l) (iF M) (iI w) (iI r) = some (iI ((M l + w * r - 1) / (w * r))) := by
    intro r a b
    have e1 : w * 1 ≤ w * r := Int.mul_le_mul_of_nonneg_left a (by omega)
    have e2 : w * r ≤ w * 20 := Int.mul_le_mul_of_nonneg_left b (by omega)
    generalize hq : w * r = q at e1 e2 ⊢
    have c1 : 1 ≤ q := by omega
    have c2 : ¬ q = 0 := by omega
    have hi : (l : Int).toNat = l := by omega
    rw [mX1_hoursToChange_J24, iI_mul, hq]
    simp (disch := omega) [iI_le, iI_eq0, c1, c2, at_iI, at_in, iI_add, iI_sub, iI_div]
  have hi : (l : Int).toNat = l := by omega
  rw [mX1_hoursToChange]
  rcases hs with hs | hs
  · have c : ¬ (Se l = 1) := by omega
    rw [at_iI (by omega) (by omega) (by omega), at_in (by omega) (by omega), hi, if_neg (by rw [hs]; decide), key ro h2.1 h2.2, if_neg c]
  · rw [at_iI (by omega) (by omega) (by omega), at_in (by omega) (by omega), hi, if_pos (by rw [hs]), key rs h1.1 h1.2, if_pos hs]
theorem reckon2_go (hl : LV n A B M Ho Se rs ro) (hp : PV n no oL af hr wi) : ∀ (d i m : Nat) (X Y : F1), (i : Int) + d = no → d < m → (∀ j : Nat, j < i → X (oL j).toNat = (rk oL af hr wi M Se rs ro i NV).1 (oL j).toNat ∧ Y (oL j).toNat = (rk oL af hr wi M Se rs ro i NV).2 (oL j).toNat) →
    ∃ X' Y' : F1, mX2_reckon_L2 (iI no) (iF af) (iF wi) (iF hr) (iF oL) (iI rs) (iI ro) (iF M) (iF Se) m (iI i) (iF X) (iF Y) = some (iF X', iF Y') ∧ (∀ j : Nat, (j : Int) < no → X' (oL j).toNat = (rk oL af hr wi M Se rs ro no.toNat NV).1 (oL j).toNat ∧ Y' (oL j).toNat = (rk oL af hr wi M Se rs ro no.toNat NV).2 (oL j).toNat) ∧ ∀ l : Nat, (∀ j : Nat, i ≤ j → (j : Int) < no → (oL j).toNat ≠ l) → X' l = X l ∧ Y' l = Y l
  | 0, i, 0, _, _, _, hm, _ => absurd hm (Nat.not_lt_zero _)
  | 0, i, m + 1, X, Y, hi, _, hX => by
    have h30 := hp.2.1
    have hi2 : no.toNat = i := by omega
    refine ⟨X, Y, ?_, ?_, fun l _ => ⟨rfl, rfl⟩⟩
    · have c : no ≤ (i : Int) := by omega
      rw [mX2_reckon_L2, if_pos ((iI_le (by omega) (by omega) (by omega) (by omega)).mpr c)]
    · intro j hj
      rw [hi2]
      exact hX j (by omega)
  | d + 1, i, 0, _, _, _, hm, _ => absurd hm (Nat.not_lt_zero _)
  | d + 1, i, m + 1, X, Y, hi, hm, hX => by
    have hl' := hl
    have hp' := hp
    obtain ⟨l0, l1, r0, r1, r2, r3, hL⟩ := hl
    obtain ⟨p0, p1, hP, hW⟩ := hp
    obtain ⟨q0, q1, q2, q3, q4, q5, q6, q7⟩ := hP i (by omega)
    obtain ⟨-, -, -, -, -, m0, m1, -, -, hse⟩ := hL (oL i).toNat (by omega)
    have hok := (rk_ok hl' hp' i (by omega)).1
    have hdu := dur_in (m := M (oL i).toNat) (p := pace wi Se rs ro (oL i).toNat) ⟨m0, m1⟩ (pace_in ⟨r0, r1⟩ ⟨r2, r3⟩ ⟨q4, q5⟩).1
    have c : ¬ no ≤ (i : Int) := by omega
    obtain ⟨L, hLd⟩ : ∃ L : Nat, (oL i) = (L : Int) := ⟨(oL i).toNat, by omega⟩
    have hLt : (oL i).toNat = L := by omega
    have hLb : L < 30 := by omega
    rw [hLt] at q2 q3 q4 q5 q6 m0 m1 hse hdu
    have hii : (i : Int).toNat = i := by omega
    have hLL : (L : Int).toNat = L := by omega
    have a1 : mX9_at 30 (iI (i : Int)) (iF oL) = iI (L : Int) := by rw [at_iI (by omega) (by omega) (by omega), at_in (by omega) (by omega), hii, hLd]
    have a2 : ∀ F : F1, mX9_at 30 (iI (L : Int)) (iF F) = iI (F L) := fun F => by rw [at_iI (by omega) (by omega) (by omega), at_in (by omega) (by omega), hLL]
    have hh := htc (l := L) (w := wi L) (M := M) (Se := Se) hLb hse ⟨m0, m1⟩ ⟨q4, q5⟩ ⟨r0, r1⟩ ⟨r2, r3⟩
    have hrk : rk oL af hr wi M Se rs ro (i + 1) NV = rkS oL af hr wi M Se rs ro i (rk oL af hr wi M Se rs ro i NV) := rfl
    have fin : ∀ z : Int, z = (if af L = -1 then 0 else (rk oL af hr wi M Se rs ro i NV).2 (af L).toNat) → 0 ≤ z → z ≤ 300 * (i : Int) → ∃ X' Y' : F1, mX2_reckon_J56 (iF wi) (iI rs) (iI ro) (iF M) (iF Se) (fun (v2_12 : Int32) (t_begins_12 : Nat → Int32) (t_done_12 : Nat → Int32) => (mX2_reckon_L2 (iI no) (iF af) (iF wi) (iF hr) (iF oL) (iI rs) (iI ro) (iF M) (iF Se) m v2_12 t_begins_12 t_done_12)) (iI (hr L)) (iI z) (iI (i : Int)) (iI (L : Int)) (iF X) (iF Y) = some (iF X', iF Y') ∧ (∀ j : Nat, (j : Int) < no → X' (oL j).toNat = (rk oL af hr wi M Se rs ro no.toNat NV).1 (oL j).toNat ∧ Y' (oL j).toNat = (rk oL af hr wi M Se rs ro no.toNat NV).2 (oL j).toNat) ∧ ∀ l : Nat, (∀ j : Nat, i ≤ j → (j : Int) < no → (oL j).toNat ≠ l) → X' l = X l ∧ Y' l = Y l := by
      intro z hz z0 z1
      obtain ⟨X', Y', e1, e2, e3⟩ := reckon2_go hl' hp' d (i + 1) m (upI X L (hr L + z)) (upI Y L (hr L + z + (M L + pace wi Se rs ro L - 1) / pace wi Se rs ro L)) (by omega) (by omega) (fun j hj => by
        rw [hrk]
        show _ = upI _ _ _ _ ∧ _ = upI _ _ _ _
        rw [hLt, ← hz]
        by_cases e : j = i
        · subst e
          rw [hLt, upI_s, upI_s, upI_s, upI_s]
          exact ⟨rfl, rfl⟩
        · have hne : (oL j).toNat ≠ L := by
            have := q7 j (by omega)
            have := (hP j (by omega)).1
            omega
          rw [upI_n hne, upI_n hne, upI_n hne, upI_n hne]
          exact hX j (by omega))
      refine ⟨X', Y', ?_, e2, fun l hl2 => ?_⟩
      · rw [mX2_reckon_J56, a2, hh]
        show mX2_reckon_L2 _ _ _ _ _ _ _ _ _ m _ _ _ = _
        rw [iI_add, iI_add, iI_add, pu_iI (by omega) (by omega) (by omega), pu_iI (by omega) (by omega) (by omega), pu_in (by omega) (by omega), pu_in (by omega) (by omega), hLL]
        exact e1
      · have h3 := e3 l (fun j h1 h2 => hl2 j (by omega) h2)
        have hne : l ≠ L := fun e => hl2 i (by omega) (by omega) (by omega)
        rw [h3.1, h3.2, upI_n hne, upI_n hne]
        exact ⟨rfl, rfl⟩
    rw [mX2_reckon_L2, if_neg (fun h => c ((iI_le (by omega) (by omega) (by omega) (by omega)).mp h)), a1, a2, a2]
    by_cases ca : af L = -1
    · rw [if_pos (by rw [ca])]
      exact fin 0 (by rw [if_pos ca]) (by omega) (by omega)
    · rcases q6 with q6 | ⟨j, hj, e⟩
      · exact absurd q6 ca
      · have hj2 := hP j (by omega)
        have hok2 := hok j hj
        rw [e] at hok2
        have hy := (hX j hj).2
        rw [e] at hy
        have haf : 0 ≤ af L ∧ af L < 30 := by omega
        rw [if_neg (fun h => ca ((iI_eq (by omega) (by omega) (by omega) (by omega)).mp h)), at_iI (by omega) (by omega) (by omega), at_in (by omega) (by omega)]
        exact fin (Y (af L).toNat) (by rw [if_neg ca, hy]) (by omega) (by omega)
theorem reckon2 (hl : LV n A B M Ho Se rs ro) (hp : PV n no oL af hr wi) (X Y : F1) (hXY : ∀ l : Nat, l < 30 → (∀ j : Nat, (j : Int) < no → (oL j).toNat ≠ l) → X l = 1000000 ∧ Y l = 1000000) :
    ∃ X' Y' : F1, mX2_reckon (iI no) (iF af) (iF X) (iF Y) (iF wi) (iF hr) (iF oL) (iI rs) (iI ro) (iF M) (iF Se) = some (iF X', iF Y') ∧ ∀ l : Nat, l < 30 → X' l = (rk oL af hr wi M Se rs ro no.toNat NV).1 l ∧ Y' l = (rk oL af hr wi M Se rs ro no.toNat NV).2 l := by
  have h30 := hp.2.1
  have h0 := hp.1
  obtain ⟨X', Y', e1, e2, e3⟩ := reckon2_go hl hp no.toNat 0 kF X Y (by omega) (by have := kF_ge; omega) (fun j hj => absurd hj (Nat.not_lt_zero j))
  refine ⟨X', Y', e1, fun l hl2 => ?_⟩
  by_cases h : ∀ j : Nat, (j : Int) < no → (oL j).toNat ≠ l
  · have h1 := e3 l (fun j _ hj => h j hj)
    have h2 := (rk_ok hl hp no.toNat (by omega)).2 l (fun j hj => h j (by omega))
    have h3 := hXY l hl2 h
    rw [h1.1, h1.2, h2.1, h2.2]
    exact h3
  · simp only [Classical.not_forall, not_imp, Classical.not_not] at h
    obtain ⟨j, hj, e⟩ := h
    rw [← e]
    exact e2 j hj
end RK2
/-- the reference's orders tell the same -/
def RV (no : Int) (oL af hr wi rL rA rH rW : F1) : Prop := ∀ k : Nat, (k : Int) < no → rL k = oL k ∧ rA k = af (oL k).toNat ∧ rH k = hr (oL k).toNat ∧ rW k = wi (oL k).toNat
section RK3
variable {n no : Int} {A B M Ho Se oL af hr wi rL rA rH rW : F1} {rs ro : Int}
theorem gdn {z : Int} {n : Nat} (h0 : 0 ≤ z) (h1 : z < n) (h2 : n < 2000000000) : ¬ (iI z < 0 ∨ n ≤ (iI z).toNatClampNeg) := by
  rw [gd (by omega) (by omega)]
  omega
theorem rk10_a (kk : (Nat → Int32) → (Nat → Int32) → (Nat → Int32) → Option ((Nat → Int32) × (Nat → Int32) × (Nat → Int32))) : ∀ (d i m : Nat) (X Y W : F1), i + d = 30 → d < m → ∃ X' Y' W' : F1, mX10_reckon_L2 kk m (iI (i : Int)) (iF X) (iF Y) (iF W) = kk (iF X') (iF Y') (iF W') ∧ ∀ l : Nat, l < 30 → (i ≤ l → X' l = 1000000 ∧ Y' l = 1000000 ∧ W' l = 0) ∧ (l < i → X' l = X l ∧ Y' l = Y l ∧ W' l = W l)
  | 0, i, 0, _, _, _, _, hm => absurd hm (Nat.not_lt_zero _)
  | 0, i, m + 1, X, Y, W, hi, _ => by
    refine ⟨X, Y, W, ?_, fun l hl => ⟨fun h => by omega, fun _ => ⟨rfl, rfl, rfl⟩⟩⟩
    rw [mX10_reckon_L2, if_pos ((iI_le (by omega) (by omega) (by omega) (by omega)).mpr (by omega))]
  | d + 1, i, 0, _, _, _, _, hm => absurd hm (Nat.not_lt_zero _)
  | d + 1, i, m + 1, X, Y, W, hi, hm => by
    obtain ⟨X', Y', W', e1, e2⟩ := rk10_a kk d (i + 1) m (upI X i 1000000) (upI Y i 1000000) (upI W i 0) (by omega) (by omega)
    have g := gdn (z := (i : Int)) (n := 30) (by omega) (by omega) (by omega)
    refine ⟨X', Y', W', ?_, fun l hl => ⟨fun h => ?_, fun h => ?_⟩⟩
    · rw [mX10_reckon_L2, if_neg (fun h => by have := (iI_le (by omega) (by omega) (by omega) (by omega)).mp h; omega), if_neg g, if_neg g, if_neg g, iI_add, wr (by omega) (by omega), wr (by omega) (by omega), wr (by omega) (by omega), show (i : Int).toNat = i by omega]
      exact e1
    · by_cases e : l = i
      · have h3 := (e2 l hl).2 (by omega)
        rw [h3.1, h3.2.1, h3.2.2, e, upI_s, upI_s, upI_s]
        exact ⟨rfl, rfl, rfl⟩
      · exact (e2 l hl).1 (by omega)
    · have h3 := (e2 l hl).2 (by omega)
      rw [h3.1, h3.2.1, h3.2.2, upI_n (by omega), upI_n (by omega), upI_n (by omega)]
      exact ⟨rfl, rfl, rfl⟩
theorem rk10_b (hl : LV n A B M Ho Se rs ro) (hp : PV n no oL af hr wi) (hq : RV no oL af hr wi rL rA rH rW) : ∀ (d i m : Nat) (X Y W : F1), (i : Int) + d = no → d < m → (∀ l : Nat, l < 30 → X l = (rk oL af hr wi M Se rs ro i NV).1 l ∧ Y l = (rk oL af hr wi M Se rs ro i NV).2 l) → (∀ j : Nat, j < i → W (oL j).toNat = wi (oL j).toNat) → (∀ l : Nat, l < 30 → (∀ j : Nat, j < i → (oL j).toNat ≠ l) → W l = 0) →
    ∃ X' Y' W' : F1, mX10_reckon_L39 (iI rs) (iI ro) (iI no) (iF M) (iF Se) (iF rA) (iF rH) (iF rL) (iF rW) m (iI (i : Int)) (iF X) (iF Y) (iF W) = some (iF X', iF Y', iF W') ∧ ∀ l : Nat, l < 30 → X' l = (rk oL af hr wi M Se rs ro no.toNat NV).1 l ∧ Y' l = (rk oL af hr wi M Se rs ro no.toNat NV).2 l ∧ W' l = wi l
  | 0, i, 0, _, _, _, _, hm, _, _, _ => absurd hm (Nat.not_lt_zero _)
  | 0, i, m + 1, X, Y, W, hi, _, hX, hW1, hW2 => by
    have h30 := hp.2.1
    have hi2 : no.toNat = i := by omega
    refine ⟨X, Y, W, ?_, fun l hl2 => ?_⟩
    · rw [mX10_reckon_L39, if_pos ((iI_le (by omega) (by omega) (by omega) (by omega)).mpr (by omega))]
    · rw [hi2]
      refine ⟨(hX l hl2).1, (hX l hl2).2, ?_⟩
      by_cases h : ∀ j : Nat, j < i → (oL j).toNat ≠ l
      · rw [hW2 l hl2 h]
        exact (hp.2.2.2 l hl2 (fun k hk e => h k (by omega) (by omega))).symm
      · simp only [Classical.not_forall, not_imp, Classical.not_not] at h
        obtain ⟨j, hj, e⟩ := h
        rw [← e]
        exact hW1 j hj
  | d + 1, i, 0, _, _, _, _, hm, _, _, _ => absurd hm (Nat.not_lt_zero _)
  | d + 1, i, m + 1, X, Y, W, hi, hm, hX, hW1, hW2 => by
    have hl' := hl
    have hp' := hp
    obtain ⟨l0, l1, r0, r1, r2, r3, hL⟩ := hl
    obtain ⟨p0, p1, hP, hW⟩ := hp
    obtain ⟨q0, q1, q2, q3, q4, q5, q6, q7⟩ := hP i (by omega)
    obtain ⟨-, -, -, -, -, m0, m1, -, -, hse⟩ := hL (oL i).toNat (by omega)
    obtain ⟨v0, v1, v2, v3⟩ := hq i (by omega)
    have hok := (rk_ok hl' hp' i (by omega)).1
    have hpa := pace_in (wi := wi) (Se := Se) (l := (oL i).toNat) ⟨r0, r1⟩ ⟨r2, r3⟩ ⟨q4, q5⟩
    have hdu := dur_in (m := M (oL i).toNat) (p := pace wi Se rs ro (oL i).toNat) ⟨m0, m1⟩ hpa.1
    obtain ⟨L, hLd⟩ : ∃ L : Nat, (oL i) = (L : Int) := ⟨(oL i).toNat, by omega⟩
    have hLt : (oL i).toNat = L := by omega
    have hLb : L < 30 := by omega
    rw [hLt] at q2 q3 q4 q5 q6 m0 m1 hse hdu hpa v1 v2 v3
    rw [hLd] at v0
    have hii : (i : Int).toNat = i := by omega
    have hLL : (L : Int).toNat = L := by omega
    have hrk : rk oL af hr wi M Se rs ro (i + 1) NV = rkS oL af hr wi M Se rs ro i (rk oL af hr wi M Se rs ro i NV) := rfl
    have gi := gdn (z := (i : Int)) (n := 30) (by omega) (by omega) (by omega)
    have gL := gdn (z := (L : Int)) (n := 30) (by omega) (by omega) (by omega)
    have b0 : iF rL (iI (i : Int)).toNatClampNeg = iI (L : Int) := by rw [rd (by omega) (by omega), hii, v0]
    have b1 : iF rA (iI (i : Int)).toNatClampNeg = iI (af L) := by rw [rd (by omega) (by omega), hii, v1]
    have b2 : iF rH (iI (i : Int)).toNatClampNeg = iI (hr L) := by rw [rd (by omega) (by omega), hii, v2]
    have b3 : iF rW (iI (i : Int)).toNatClampNeg = iI (wi L) := by rw [rd (by omega) (by omega), hii, v3]
    have fin2 : ∀ z : Int, z = (if af L = -1 then 0 else (rk oL af hr wi M Se rs ro i NV).2 (af L).toNat) → 0 ≤ z → z ≤ 300 * (i : Int) → ∃ X' Y' W' : F1, mX10_reckon_J118 (iF M) (iF rW) (fun (v1_23 : Int32) (t_begins_23 : Nat → Int32) (t_dones_23 : Nat → Int32) (t_withs_23 : Nat → Int32) => mX10_reckon_L39 (iI rs) (iI ro) (iI no) (iF M) (iF Se) (iF rA) (iF rH) (iF rL) (iF rW) m v1_23 t_begins_23 t_dones_23 t_withs_23) (iI (L : Int)) (iI (hr L)) (iI z) (iI (i : Int)) (iI (L : Int)) (iI (pace wi Se rs ro L)) (iF X) (iF Y) (iF W) = some (iF X', iF Y', iF W') ∧ ∀ l : Nat, l < 30 → X' l = (rk oL af hr wi M Se rs ro no.toNat NV).1 l ∧ Y' l = (rk oL af hr wi M Se rs ro no.toNat NV).2 l ∧ W' l = wi l := by
      intro z hz z0 z1
      obtain ⟨X', Y', W', e1, e2⟩ := rk10_b hl' hp' hq d (i + 1) m (upI X L (hr L + z)) (upI Y L (hr L + z + (M L + pace wi Se rs ro L - 1) / pace wi Se rs ro L)) (upI W L (wi L)) (by omega) (by omega) (fun l hl2 => by
        rw [hrk]
        show _ = upI _ _ _ _ ∧ _ = upI _ _ _ _
        rw [hLt, ← hz]
        by_cases e : l = L
        · rw [e, upI_s, upI_s, upI_s, upI_s]
          exact ⟨rfl, rfl⟩
        · rw [upI_n e, upI_n e, upI_n e, upI_n e]
          exact hX l hl2) (fun j hj => by
        by_cases e : (oL j).toNat = L
        · rw [e, upI_s]
        · rw [upI_n e]
          refine hW1 j ?_
          rcases Nat.lt_or_ge j i with h | h
          · exact h
          · have : j = i := by omega
            subst this
            exact absurd hLt e) (fun l hl2 h => by
        have e : l ≠ L := fun e => h i (by omega) (by rw [hLt, e])
        rw [upI_n e]
        exact hW2 l hl2 (fun j hj => h j (by omega)))
      refine ⟨X', Y', W', ?_, e2⟩
      rw [mX10_reckon_J118, if_neg gL, if_neg gL, if_neg gL, if_neg (fun h => by have := (iI_eq0 (by omega) (by omega)).mp h; omega), if_neg gL, if_neg gi, if_neg gL]
      show mX10_reckon_L39 _ _ _ _ _ _ _ _ _ m _ _ _ _ = _
      rw [b3, iI_add, iI_add, wr (by omega) (by omega), rd (by omega) (by omega), rd (by omega) (by omega), wr (by omega) (by omega), hLL, upI_s, iI_add, iI_sub, iI_div (by omega) (by omega) (by omega) (by omega), iI_add, wr (by omega) (by omega), hLL]
      exact e1
    have fin1 : ∀ r : Int, wi L * r = pace wi Se rs ro L → ∃ X' Y' W' : F1, mX10_reckon_J80 (iF M) (iF rA) (iF rH) (iF rW) (fun (v1_23 : Int32) (t_begins_23 : Nat → Int32) (t_dones_23 : Nat → Int32) (t_withs_23 : Nat → Int32) => mX10_reckon_L39 (iI rs) (iI ro) (iI no) (iF M) (iF Se) (iF rA) (iF rH) (iF rL) (iF rW) m v1_23 t_begins_23 t_dones_23 t_withs_23) (iI (wi L)) (iI r) (iI (i : Int)) (iI (L : Int)) (iF X) (iF Y) (iF W) = some (iF X', iF Y', iF W') ∧ ∀ l : Nat, l < 30 → X' l = (rk oL af hr wi M Se rs ro no.toNat NV).1 l ∧ Y' l = (rk oL af hr wi M Se rs ro no.toNat NV).2 l ∧ W' l = wi l := by
      intro r hrr
      rw [mX10_reckon_J80, if_neg gi, if_neg gi, b1, b2, iI_mul, hrr]
      by_cases ca : af L = -1
      · rw [if_pos (by rw [ca])]
        exact fin2 0 (by rw [if_pos ca]) (by omega) (by omega)
      · rcases q6 with q6 | ⟨j, hj, e⟩
        · exact absurd q6 ca
        · have hj2 := hP j (by omega)
          have hok2 := hok j hj
          rw [e] at hok2 hj2
          have hy := (hX (af L).toNat (by omega)).2
          rw [if_neg (fun h => ca ((iI_eq (by omega) (by omega) (by omega) (by omega)).mp h)), if_neg gi, if_neg (gdn (by omega) (by omega) (by omega)), rd (by omega) (by omega)]
          exact fin2 (Y (af L).toNat) (by rw [if_neg ca, hy]) (by omega) (by omega)
    rw [mX10_reckon_L39, if_neg (fun h => by have := (iI_le (by omega) (by omega) (by omega) (by omega)).mp h; omega), if_neg gi, if_neg gi, b0, if_neg gL, b3, rd (by omega) (by omega), hLL]
    rcases hse with hs | hs
    · rw [if_pos (by rw [hs]; rfl)]
      exact fin1 ro (by rw [pace, if_neg (by omega)])
    · rw [if_neg (by rw [hs]; decide)]
      exact fin1 rs (by rw [pace, if_pos hs])
theorem reckon10 (hl : LV n A B M Ho Se rs ro) (hp : PV n no oL af hr wi) (hq : RV no oL af hr wi rL rA rH rW) (X Y W : F1) :
    ∃ X' Y' W' : F1, mX10_reckon (iI rs) (iI ro) (iI no) (iF X) (iF Y) (iF M) (iF Se) (iF rA) (iF rH) (iF rL) (iF rW) (iF W) = some (iF X', iF Y', iF W') ∧ ∀ l : Nat, l < 30 → X' l = (rk oL af hr wi M Se rs ro no.toNat NV).1 l ∧ Y' l = (rk oL af hr wi M Se rs ro no.toNat NV).2 l ∧ W' l = wi l := by
  have h30 := hp.2.1
  have h0 := hp.1
  have hF := kF_ge
  obtain ⟨X1, Y1, W1, e1, e2⟩ := rk10_a (fun (t_begins_5 : Nat → Int32) (t_dones_5 : Nat → Int32) (t_withs_5 : Nat → Int32) => mX10_reckon_L39 (iI rs) (iI ro) (iI no) (iF M) (iF Se) (iF rA) (iF rH) (iF rL) (iF rW) kF (iI 0) t_begins_5 t_dones_5 t_withs_5) 30 0 kF X Y W (by omega) (by omega)
  obtain ⟨X', Y', W', e3, e4⟩ := rk10_b hl hp hq no.toNat 0 kF X1 Y1 W1 (by omega) (by omega) (fun l hl2 => by
    have := (e2 l hl2).1 (by omega)
    exact ⟨this.1, this.2.1⟩) (fun j hj => absurd hj (Nat.not_lt_zero j)) (fun l hl2 _ => ((e2 l hl2).1 (by omega)).2.2)
  exact ⟨X', Y', W', (by rw [mX10_reckon]; exact e1.trans e3), e4⟩
end RK3
