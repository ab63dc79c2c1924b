/-! OF, IS, BUSY, LACK, COUNT, RATES -/
/-- of each line: no order, or an order's gangs and hours -/
def PF (wi bg dn : F1) : Prop := ∀ l : Nat, l < 30 → (wi l = 0 ∧ bg l = 1000000 ∧ dn l = 1000000) ∨ (1 ≤ wi l ∧ wi l ≤ 99 ∧ 0 ≤ bg l ∧ bg l < dn l ∧ dn l ≤ 9000)
section PL
variable {n no : Int} {A B M Ho Se oL af hr wi rL rA rH rW bg dn : F1} {rs ro : Int}
theorem ordered_or (hp : PV n no oL af hr wi) (l : Nat) : (∀ j : Nat, (j : Int) < no → (oL j).toNat ≠ l) ∨ ∃ j : Nat, (j : Int) < no ∧ (oL j).toNat = l := by
  by_cases h : ∀ j : Nat, (j : Int) < no → (oL j).toNat ≠ l
  · exact Or.inl h
  · simp only [Classical.not_forall, not_imp, Classical.not_not] at h
    obtain ⟨j, hj, e⟩ := h
    exact Or.inr ⟨j, hj, e⟩
theorem pf_rk (hl : LV n A B M Ho Se rs ro) (hp : PV n no oL af hr wi) : PF wi (rk oL af hr wi M Se rs ro no.toNat NV).1 (rk oL af hr wi M Se rs ro no.toNat NV).2 := by
  intro l hl2
  have h0 := hp.1
  have h30 := hp.2.1
  obtain ⟨i1, i2⟩ := rk_ok hl hp no.toNat (by omega)
  rcases ordered_or hp l with h | ⟨j, hj, e⟩
  · refine Or.inl ⟨hp.2.2.2 l hl2 (fun k hk e => h k hk (by omega)), ?_⟩
    exact i2 l (fun j hj => h j (by omega))
  · have h1 := i1 j (by omega)
    obtain ⟨-, -, -, -, w0, w1, -, -⟩ := hp.2.2.1 j hj
    rw [e] at h1 w0 w1
    exact Or.inr ⟨w0, w1, by omega, by omega, by omega⟩
theorem pf_ord (hp : PV n no oL af hr wi) {l : Nat} (hl : l < 30) (hw : 1 ≤ wi l) : ∃ j : Nat, (j : Int) < no ∧ (oL j).toNat = l := by
  rcases ordered_or hp l with h | h
  · have := hp.2.2.2 l hl (fun k hk e => h k hk (by omega))
    omega
  · exact h
/-- all that both sides hold of the plan in force -/
def PI (n no : Int) (A B M Ho Se oL af hr wi rL rA rH rW BG DN : F1) (rs ro : Int) : Prop := LV n A B M Ho Se rs ro ∧ PV n no oL af hr wi ∧ RV no oL af hr wi rL rA rH rW ∧ ∀ l : Nat, l < 30 → BG l = (rk oL af hr wi M Se rs ro no.toNat NV).1 l ∧ DN l = (rk oL af hr wi M Se rs ro no.toNat NV).2 l
variable {BG DN : F1}
theorem PI.pf (h : PI n no A B M Ho Se oL af hr wi rL rA rH rW BG DN rs ro) : PF wi BG DN := by
  intro l hl
  rw [(h.2.2.2 l hl).1, (h.2.2.2 l hl).2]
  exact pf_rk h.1 h.2.1 l hl
theorem PI.reckon (h : PI n no A B M Ho Se oL af hr wi rL rA rH rW BG DN rs ro) (X Y W : F1) : ∃ X' Y' W' : F1, mX10_reckon (iI rs) (iI ro) (iI no) (iF X) (iF Y) (iF M) (iF Se) (iF rA) (iF rH) (iF rL) (iF rW) (iF W) = some (iF X', iF Y', iF W') ∧ ∀ l : Nat, l < 30 → X' l = BG l ∧ Y' l = DN l ∧ W' l = wi l := by
  obtain ⟨X', Y', W', e1, e2⟩ := reckon10 h.1 h.2.1 h.2.2.1 X Y W
  refine ⟨X', Y', W', e1, fun l hl => ?_⟩
  rw [(h.2.2.2 l hl).1, (h.2.2.2 l hl).2]
  exact e2 l hl
theorem isLine0 {z n : Int} (h0 : -2147483648 ≤ z) (h1 : z < 2147483648) (h2 : 0 ≤ n) (h3 : n < 2000000000) : (mX10_isLine (iI z) (iI n) = 0) ↔ ¬ (0 ≤ z ∧ z < n) := by
  rw [mX10_isLine, iI_l h0 h1, iI_l (by omega) (by omega)]
  exact in_n h0 h1 h2 h3
theorem hasO {l : Nat} (hl : l < 30) (hf : PF wi BG DN) : (mX2_hasOrder (iI (l : Int)) (iF wi) = 0) ↔ wi l = 0 := by
  have hh := hf l hl
  have e : (l : Int).toNat = l := by omega
  rw [mX2_hasOrder, at_iI (by omega) (by omega) (by omega), at_in (by omega) (by omega), e]
  by_cases c : wi l ≤ 0
  · rw [if_pos ((iI_le0 (by omega) (by omega)).mpr c)]
    have : wi l = 0 := by omega
    simp [this, iI_0]
  · rw [if_neg (fun g => c ((iI_le0 (by omega) (by omega)).mp g)), iI_eq0 (by omega) (by omega)]
    omega
theorem sim_of {p q : Int} (hp : I32 p) (hq : I32 q) (h : PI n no A B M Ho Se oL af hr wi rL rA rH rW BG DN rs ro) (X Y W : F1) :
    ∃ (r : Int) (X' Y' W' : F1), mX9_of (iI p) (iI q) (iI n) (iF BG) (iF DN) (iF wi) = iI r ∧ mX10_of (iI p) (iI q) (iI n) (iI rs) (iI ro) (iI no) (iF X) (iF Y) (iF M) (iF Se) (iF rA) (iF rH) (iF rL) (iF rW) (iF W) = some (iI r, iI 0, iF X', iF Y', iF W') := by
  have hf := h.pf
  obtain ⟨p0, p1⟩ := hp
  obtain ⟨q0, q1⟩ := hq
  have n0 := h.1.1
  have n1 := h.1.2.1
  by_cases c : 0 ≤ p ∧ p < n
  · obtain ⟨X', Y', W', e1, e2⟩ := h.reckon X Y W
    obtain ⟨l, rfl⟩ := Int.eq_ofNat_of_zero_le c.1
    have hl : l < 30 := by omega
    have ll : (l : Int).toNat = l := by omega
    obtain ⟨x1, x2, x3⟩ := e2 l hl
    have hh := hf l hl
    have ho := hasO hl hf
    have g := gdn (z := (l : Int)) (n := 30) (by omega) (by omega) (by omega)
    have hc : ¬ ¬ (0 ≤ (l : Int) ∧ (l : Int) < n) := fun k => k c
    have b1 : ∀ F : F1, mX9_at 30 (iI (l : Int)) (iF F) = iI (F l) := fun F => by rw [at_iI (by omega) (by omega) (by omega), at_in (by omega) (by omega), ll]
    have b2 : ∀ F : F1, iF F (iI (l : Int)).toNatClampNeg = iI (F l) := fun F => by rw [rd (by omega) (by omega), ll]
    have a1 : mX9_of (iI (l : Int)) (iI q) (iI n) (iF BG) (iF DN) (iF wi) = (if iI q = iI 0 then mX2_beginsOf (iI (l : Int)) (iF BG) (iF wi) else if iI q = iI 1 then mX2_doneOf (iI (l : Int)) (iF DN) (iF wi) else if iI q = iI 2 then mX2_gangsOf (iI (l : Int)) (iF wi) else iI (-1)) := by
      rw [mX9_of, if_neg (fun k => hc ((isT1 (by omega) (by omega) n0 (by omega)).mp k))]
    have a2 : mX10_of (iI (l : Int)) (iI q) (iI n) (iI rs) (iI ro) (iI no) (iF X) (iF Y) (iF M) (iF Se) (iF rA) (iF rH) (iF rL) (iF rW) (iF W) = (if iI q = iI 2 then some (iI (wi l), iI 0, iF X', iF Y', iF W') else if iI (wi l) = 0 then some (iI (-1), iI 0, iF X', iF Y', iF W') else if iI q = 0 then some (iI (BG l), iI 0, iF X', iF Y', iF W') else if iI q = iI 1 then some (iI (DN l), iI 0, iF X', iF Y', iF W') else some (iI (-1), iI 0, iF X', iF Y', iF W')) := by
      rw [mX10_of, if_neg (fun k => hc ((isLine0 (by omega) (by omega) n0 (by omega)).mp k)), e1]
      simp only [Option.bind_some, if_neg g, b2, x1, x2, x3]
    rw [a1, a2]
    by_cases k2 : q = 2
    · refine ⟨wi l, X', Y', W', ?_, ?_⟩
      · simp (disch := omega) [k2, iI_eq, mX2_gangsOf, b1]
      · simp [k2]
    · by_cases kw : wi l = 0
      · refine ⟨-1, X', Y', W', ?_, ?_⟩
        · have ho2 := ho.mpr kw
          simp (disch := omega) [iI_eq, k2, mX2_beginsOf, mX2_doneOf, ho2]
        · simp (disch := omega) [iI_eq, k2, kw, iI_eq0]
      · have ho2 : ¬ mX2_hasOrder (iI (l : Int)) (iF wi) = 0 := fun k => kw (ho.mp k)
        by_cases k0 : q = 0
        · refine ⟨BG l, X', Y', W', ?_, ?_⟩
          · simp [k0, mX2_beginsOf, ho2, b1]
          · simp (disch := omega) [k0, kw, iI_eq0, iI_eq]
        · by_cases k1 : q = 1
          · refine ⟨DN l, X', Y', W', ?_, ?_⟩
            · simp (disch := omega) [k1, mX2_doneOf, ho2, b1, iI_eq]
            · simp (disch := omega) [k1, kw, iI_eq0, iI_eq]
          · refine ⟨-1, X', Y', W', ?_, ?_⟩
            · simp (disch := omega) [k0, k1, k2, iI_eq]
            · simp (disch := omega) [k0, k1, k2, kw, iI_eq0, iI_eq]
  · refine ⟨-1, X, Y, W, ?_, ?_⟩
    · rw [mX9_of, if_pos ((isT1 p0 p1 n0 (by omega)).mpr c)]
    · rw [mX10_of, if_pos ((isLine0 p0 p1 n0 (by omega)).mpr c)]
theorem state_iI {l : Nat} {h : Int} (hl : l < 30) (hh : 0 ≤ h ∧ h ≤ 120) (hf : PF wi BG DN) : mX2_stateOf (iI (l : Int)) (iI h) (iF BG) (iF DN) = iI (if BG l ≤ h then (if DN l ≤ h then 2 else 1) else 0) := by
  have ll : (l : Int).toNat = l := by omega
  have hx := hf l hl
  rw [mX2_stateOf, at_iI (by omega) (by omega) (by omega), at_in (by omega) (by omega), ll, at_iI (by omega) (by omega) (by omega), at_in (by omega) (by omega), ll]
  by_cases c : BG l ≤ h
  · rw [if_pos ((iI_le (by omega) (by omega) (by omega) (by omega)).mpr c), if_pos c]
    by_cases d : DN l ≤ h
    · rw [if_pos ((iI_le (by omega) (by omega) (by omega) (by omega)).mpr d), if_pos d]
    · rw [if_neg (fun k => d ((iI_le (by omega) (by omega) (by omega) (by omega)).mp k)), if_neg d]
  · rw [if_neg (fun k => c ((iI_le (by omega) (by omega) (by omega) (by omega)).mp k)), if_neg c]
theorem sim_is {p q : Int} (hp : I32 p) (hq : I32 q) (h : PI n no A B M Ho Se oL af hr wi rL rA rH rW BG DN rs ro) (X Y W : F1) :
    ∃ (r : Int) (X' Y' W' : F1), mX9_is (iI p) (iI q) (iI n) (iF BG) (iF DN) = iI r ∧ mX10_is (iI p) (iI q) (iI n) (iI rs) (iI ro) (iI no) (iF X) (iF Y) (iF M) (iF Se) (iF rA) (iF rH) (iF rL) (iF rW) (iF W) = some (iI r, iI 0, iF X', iF Y', iF W') := by
  have hf := h.pf
  obtain ⟨p0, p1⟩ := hp
  obtain ⟨q0, q1⟩ := hq
  have n0 := h.1.1
  have n1 := h.1.2.1
  by_cases c : 0 ≤ p ∧ p < n
  · by_cases d : 0 ≤ q ∧ q ≤ 120
    · obtain ⟨X', Y', W', e1, e2⟩ := h.reckon X Y W
      obtain ⟨l, rfl⟩ := Int.eq_ofNat_of_zero_le c.1
      have hl : l < 30 := by omega
      have ll : (l : Int).toNat = l := by omega
      obtain ⟨x1, x2, x3⟩ := e2 l hl
      have hh := hf l hl
      have g := gdn (z := (l : Int)) (n := 30) (by omega) (by omega) (by omega)
      have hc : ¬ ¬ (0 ≤ (l : Int) ∧ (l : Int) < n) := fun k => k c
      have hd : ¬ ¬ (0 ≤ q ∧ q ≤ 120) := fun k => k d
      have b2 : ∀ F : F1, iF F (iI (l : Int)).toNatClampNeg = iI (F l) := fun F => by rw [rd (by omega) (by omega), ll]
      refine ⟨if BG l ≤ q then (if DN l ≤ q then 2 else 1) else 0, X', Y', W', ?_, ?_⟩
      · rw [mX9_is, if_neg (fun k => hc ((isT1 (by omega) (by omega) n0 (by omega)).mp k)), if_neg (fun k => hd ((hour0 q0 q1).mp k)), state_iI hl d hf]
      · rw [mX10_is, if_neg (fun k => hc ((isLine0 (by omega) (by omega) n0 (by omega)).mp k)), if_neg (fun k => hd ((hour10 q0 q1).mp k)), e1]
        simp only [Option.bind_some, if_neg g, b2, x1, x2]
        by_cases k1 : BG l ≤ q
        · by_cases k2 : DN l ≤ q
          · simp (disch := omega) [iI_le, k1, k2]
          · simp (disch := omega) [iI_le, k1, k2]
        · simp (disch := omega) [iI_le, k1]
    · refine ⟨-1, X, Y, W, ?_, ?_⟩
      · rw [mX9_is, if_neg (fun k => (isT1 p0 p1 n0 (by omega)).mp k c), if_pos ((hour0 q0 q1).mpr d)]
      · rw [mX10_is, if_neg (fun k => (isLine0 p0 p1 n0 (by omega)).mp k c), if_pos ((hour10 q0 q1).mpr d)]
  · refine ⟨-1, X, Y, W, ?_, ?_⟩
    · rw [mX9_is, if_pos ((isT1 p0 p1 n0 (by omega)).mpr c)]
    · rw [mX10_is, if_pos ((isLine0 p0 p1 n0 (by omega)).mpr c)]
end PL
def sm (f : F1) : Nat → Int
  | 0 => 0
  | n + 1 => sm f n + f n
theorem sm_congr {f g : F1} : ∀ {n : Nat}, (∀ l : Nat, l < n → f l = g l) → sm f n = sm g n
  | 0, _ => rfl
  | n + 1, h => by
    show sm f n + f n = sm g n + g n
    rw [sm_congr (fun l hl => h l (by omega)), h n (by omega)]
theorem sm_up {f : F1} {l : Nat} {v : Int} : ∀ {n : Nat}, l < n → sm (upI f l v) n = sm f n - f l + v
  | 0, h => absurd h (Nat.not_lt_zero _)
  | n + 1, h => by
    show sm (upI f l v) n + upI f l v n = sm f n + f n - f l + v
    by_cases e : l = n
    · subst e
      rw [upI_s, sm_congr (g := f) (fun k hk => upI_n (by omega))]
      omega
    · rw [sm_up (n := n) (by omega), upI_n (by omega)]
      omega
theorem sm_in {f : F1} {b : Int} (hb : 0 ≤ b) : ∀ {n : Nat}, (∀ l : Nat, l < n → 0 ≤ f l ∧ f l ≤ b) → 0 ≤ sm f n ∧ sm f n ≤ b * n
  | 0, _ => ⟨Int.le_refl 0, by show (0 : Int) ≤ b * (0 : Nat); simp⟩
  | n + 1, h => by
    have h1 := sm_in hb (n := n) (fun l hl => h l (by omega))
    have h2 := h n (by omega)
    have e : b * ((n + 1 : Nat) : Int) = b * (n : Int) + b := by rw [Int.natCast_succ, Int.mul_add, Int.mul_one]
    show 0 ≤ sm f n + f n ∧ sm f n + f n ≤ b * ((n + 1 : Nat) : Int)
    rw [e]
    omega
section PL2
variable {n no : Int} {A B M Ho Se oL af hr wi rL rA rH rW BG DN : F1} {rs ro : Int}
/-- gangs of a line that are busy in an hour -/
def gb (wi BG DN : F1) (h : Int) : F1 := fun l => if BG l ≤ h ∧ h < DN l then wi l else 0
def spr (oL g : F1) : Nat → F1
  | 0 => fun _ => 0
  | k + 1 => upI (spr oL g k) (oL k).toNat (g (oL k).toNat)
theorem spr_ok (hp : PV n no oL af hr wi) (g : F1) : ∀ k : Nat, (k : Int) ≤ no → (∀ j : Nat, j < k → spr oL g k (oL j).toNat = g (oL j).toNat) ∧ ∀ l : Nat, (∀ j : Nat, j < k → (oL j).toNat ≠ l) → spr oL g k l = 0
  | 0, _ => ⟨fun j hj => absurd hj (Nat.not_lt_zero j), fun _ _ => rfl⟩
  | k + 1, hk => by
    obtain ⟨i1, i2⟩ := spr_ok hp g k (by omega)
    refine ⟨fun j hj => ?_, fun l h => ?_⟩
    · show upI _ _ _ _ = _
      by_cases e : (oL j).toNat = (oL k).toNat
      · rw [e, upI_s]
      · rw [upI_n e]
        refine i1 j ?_
        rcases Nat.lt_or_ge j k with h | h
        · exact h
        · have : j = k := by omega
          subst this
          exact absurd rfl e
    · show upI _ _ _ _ = _
      rw [upI_n (fun e => h k (by omega) e.symm)]
      exact i2 l (fun j hj => h j (by omega))
theorem sum_ord (hp : PV n no oL af hr wi) (hn : n ≤ 30) (g : F1) (hg : ∀ l : Nat, l < 30 → (∀ j : Nat, (j : Int) < no → (oL j).toNat ≠ l) → g l = 0) : sm (fun k => g (oL k).toNat) no.toNat = sm g n.toNat := by
  have h0 := hp.1
  have h1 : ∀ k : Nat, (k : Int) ≤ no → sm (spr oL g k) n.toNat = sm (fun k => g (oL k).toNat) k := by
    intro k
    induction k with
    | zero =>
      intro _
      show sm (fun _ => 0) n.toNat = 0
      have : ∀ m : Nat, sm (fun _ => (0 : Int)) m = 0 := by
        intro m
        induction m with
        | zero => rfl
        | succ m ih => show sm (fun _ => (0 : Int)) m + 0 = 0; rw [ih]; rfl
      exact this _
    | succ k ih =>
      intro hk
      obtain ⟨q0, q1, -, -, -, -, -, q7⟩ := hp.2.2.1 k (by omega)
      have hz := (spr_ok hp g k (by omega)).2 (oL k).toNat (fun j hj => by
        have := q7 j hj
        have := (hp.2.2.1 j (by omega)).1
        omega)
      show sm (upI (spr oL g k) (oL k).toNat (g (oL k).toNat)) n.toNat = sm (fun k => g (oL k).toNat) k + g (oL k).toNat
      rw [sm_up (by omega), hz, ih (by omega)]
      omega
  rw [← h1 no.toNat (by omega)]
  obtain ⟨i1, i2⟩ := spr_ok hp g no.toNat (by omega)
  refine sm_congr (fun l hl => ?_)
  rcases ordered_or hp l with h | ⟨j, hj, e⟩
  · rw [hg l (by omega) h]
    exact i2 l (fun j hj => h j (by omega))
  · rw [← e]
    exact i1 j (by omega)
theorem gb_in {l : Nat} {h : Int} (hl : l < 30) (hf : PF wi BG DN) : 0 ≤ gb wi BG DN h l ∧ gb wi BG DN h l ≤ 99 := by
  have := hf l hl
  unfold gb
  split <;> omega
theorem busy2_go (hp : PV n no oL af hr wi) (hn : n ≤ 30) (hf : PF wi BG DN) {h : Int} (hh : 0 ≤ h ∧ h ≤ 120) : ∀ (d i m : Nat), (i : Int) + d = no → d < m → mX2_busyGangs_L4 (iI h) (iI no) (iF BG) (iF DN) (iF wi) (iF oL) m (iI (sm (fun k => gb wi BG DN h (oL k).toNat) i)) (iI (i : Int)) = some (iI (sm (fun k => gb wi BG DN h (oL k).toNat) no.toNat))
  | 0, i, 0, _, hm => absurd hm (Nat.not_lt_zero _)
  | 0, i, m + 1, hi, _ => by
    have h30 := hp.2.1
    rw [mX2_busyGangs_L4, if_pos ((iI_le (by omega) (by omega) (by omega) (by omega)).mpr (by omega)), show no.toNat = i by omega]
  | d + 1, i, 0, _, hm => absurd hm (Nat.not_lt_zero _)
  | d + 1, i, m + 1, hi, hm => by
    have h30 := hp.2.1
    obtain ⟨q0, q1, -, -, -, -, -, -⟩ := hp.2.2.1 i (by omega)
    obtain ⟨L, hLd⟩ : ∃ L : Nat, (oL i) = (L : Int) := ⟨(oL i).toNat, by omega⟩
    have hLt : (oL i).toNat = L := by omega
    have hLb : L < 30 := by omega
    have hii : (i : Int).toNat = i := by omega
    have hLL : (L : Int).toNat = L := by omega
    have hx := hf L hLb
    have a1 : mX9_at 30 (iI (i : Int)) (iF oL) = iI (L : Int) := by rw [at_iI (by omega) (by omega) (by omega), at_in (by omega) (by omega), hii, hLd]
    have a2 : ∀ F : F1, mX9_at 30 (iI (L : Int)) (iF F) = iI (F L) := fun F => by rw [at_iI (by omega) (by omega) (by omega), at_in (by omega) (by omega), hLL]
    have ih := busy2_go hp hn hf hh d (i + 1) m (by omega) (by omega)
    rw [mX2_busyGangs_L4, if_neg (fun k => by have := (iI_le (by omega) (by omega) (by omega) (by omega)).mp k; omega), a1, state_iI hLb hh hf, mX2_gangsOf, a2, iI_add, iI_add]
    have e : sm (fun k => gb wi BG DN h (oL k).toNat) (i + 1) = sm (fun k => gb wi BG DN h (oL k).toNat) i + gb wi BG DN h L := by
      show _ + gb wi BG DN h (oL i).toNat = _
      rw [hLt]
    rw [e] at ih
    by_cases c1 : BG L ≤ h
    · by_cases c2 : DN L ≤ h
      · have e2 : gb wi BG DN h L = 0 := if_neg (by omega)
        rw [e2, Int.add_zero] at ih
        rw [if_pos c1, if_pos c2, if_neg (by decide)]
        exact ih
      · have e2 : gb wi BG DN h L = wi L := if_pos ⟨c1, by omega⟩
        rw [e2] at ih
        rw [if_pos c1, if_neg c2, if_pos rfl]
        exact ih
    · have e2 : gb wi BG DN h L = 0 := if_neg (by omega)
      rw [e2, Int.add_zero] at ih
      rw [if_neg c1, if_neg (by decide)]
      exact ih
theorem busy10_go {n : Int} (hn : 0 ≤ n ∧ n ≤ 30) {X Y W : F1} (hf : PF wi BG DN) (hx : ∀ l : Nat, l < 30 → X l = BG l ∧ Y l = DN l ∧ W l = wi l) {h : Int} (hh : 0 ≤ h ∧ h ≤ 120) : ∀ (d i m : Nat), (i : Int) + d = n → d < m → mX10_busyIn_L4 (iI h) (iI n) (iF X) (iF Y) (iF W) m (iI (sm (gb wi BG DN h) i)) (iI (i : Int)) = some (iI (sm (gb wi BG DN h) n.toNat))
  | 0, i, 0, _, hm => absurd hm (Nat.not_lt_zero _)
  | 0, i, m + 1, hi, _ => by
    rw [mX10_busyIn_L4, if_pos ((iI_le (by omega) (by omega) (by omega) (by omega)).mpr (by omega)), show n.toNat = i by omega]
  | d + 1, i, 0, _, hm => absurd hm (Nat.not_lt_zero _)
  | d + 1, i, m + 1, hi, hm => by
    have hii : (i : Int).toNat = i := by omega
    have g := gdn (z := (i : Int)) (n := 30) (by omega) (by omega) (by omega)
    have hq := hf i (by omega)
    obtain ⟨x1, x2, x3⟩ := hx i (by omega)
    have b : ∀ F : F1, iF F (iI (i : Int)).toNatClampNeg = iI (F i) := fun F => by rw [rd (by omega) (by omega), hii]
    have ih := busy10_go hn hf hx hh d (i + 1) m (by omega) (by omega)
    have e : sm (gb wi BG DN h) (i + 1) = sm (gb wi BG DN h) i + gb wi BG DN h i := rfl
    rw [e] at ih
    rw [mX10_busyIn_L4, if_neg (fun k => by have := (iI_le (by omega) (by omega) (by omega) (by omega)).mp k; omega), if_neg g, if_neg g, if_neg g, b, b, b, x1, x2, x3, iI_add, iI_add, iI_add]
    by_cases c1 : h < BG i
    · have e2 : gb wi BG DN h i = 0 := if_neg (by omega)
      rw [e2] at ih
      rw [if_pos ((iI_lt (by omega) (by omega) (by omega) (by omega)).mpr c1)]
      exact ih
    · rw [if_neg (fun k => c1 ((iI_lt (by omega) (by omega) (by omega) (by omega)).mp k))]
      by_cases c2 : DN i ≤ h
      · have e2 : gb wi BG DN h i = 0 := if_neg (by omega)
        rw [e2] at ih
        rw [if_pos ((iI_le (by omega) (by omega) (by omega) (by omega)).mpr c2)]
        exact ih
      · have e2 : gb wi BG DN h i = wi i := if_pos ⟨by omega, by omega⟩
        rw [e2] at ih
        rw [if_neg (fun k => c2 ((iI_le (by omega) (by omega) (by omega) (by omega)).mp k))]
        exact ih
theorem busy_both (h : PI n no A B M Ho Se oL af hr wi rL rA rH rW BG DN rs ro) {X Y W : F1} (hx : ∀ l : Nat, l < 30 → X l = BG l ∧ Y l = DN l ∧ W l = wi l) {q : Int} (hh : 0 ≤ q ∧ q ≤ 120) :
    ∃ r : Int, mX2_busyGangs (iI q) (iI no) (iF BG) (iF DN) (iF wi) (iF oL) = some (iI r) ∧ mX10_busyIn (iI q) (iI n) (iF X) (iF Y) (iF W) = some (iI r) ∧ 0 ≤ r ∧ r ≤ 3000 := by
  have hF := kF_ge
  have hf := h.pf
  have n0 := h.1.1
  have n1 := h.1.2.1
  have h0 := h.2.1.1
  have h1 := h.2.1.2.1
  have e := sum_ord h.2.1 n1 (gb wi BG DN q) (fun l hl hj => by
    have hw := h.2.1.2.2.2 l hl (fun k hk e => hj k hk (by omega))
    have := hf l hl
    exact if_neg (by omega))
  refine ⟨sm (gb wi BG DN q) n.toNat, ?_, busy10_go ⟨n0, n1⟩ hf hx hh n.toNat 0 kF (by omega) (by omega), ?_⟩
  · rw [← e]
    exact busy2_go h.2.1 n1 hf hh no.toNat 0 kF (by omega) (by omega)
  · have := sm_in (f := gb wi BG DN q) (b := 99) (by omega) (n := n.toNat) (fun l hl => gb_in (by omega) hf)
    omega
theorem sim_busy {q : Int} (hq : I32 q) (h : PI n no A B M Ho Se oL af hr wi rL rA rH rW BG DN rs ro) (X Y W : F1) :
    ∃ (r : Int) (X' Y' W' : F1), mX9_busy (iI q) (iI no) (iF BG) (iF DN) (iF wi) (iF oL) = some (iI r) ∧ mX10_busy (iI q) (iI n) (iI rs) (iI ro) (iI no) (iF X) (iF Y) (iF M) (iF Se) (iF rA) (iF rH) (iF rL) (iF rW) (iF W) = some (iI r, iI 0, iF X', iF Y', iF W') := by
  obtain ⟨q0, q1⟩ := hq
  by_cases d : 0 ≤ q ∧ q ≤ 120
  · obtain ⟨X', Y', W', e1, e2⟩ := h.reckon X Y W
    obtain ⟨r, a, b, -⟩ := busy_both h e2 d
    refine ⟨r, X', Y', W', ?_, ?_⟩
    · rw [mX9_busy, if_neg (fun k => (hour0 q0 q1).mp k d), a]
      rfl
    · rw [mX10_busy, if_neg (fun k => (hour10 q0 q1).mp k d), e1]
      show Option.bind (mX10_busyIn _ _ _ _ _) _ = _
      rw [b]
      rfl
  · refine ⟨-1, X, Y, W, ?_, ?_⟩
    · rw [mX9_busy, if_pos ((hour0 q0 q1).mpr d)]
    · rw [mX10_busy, if_pos ((hour10 q0 q1).mpr d)]
theorem lack_go (h : PI n no A B M Ho Se oL af hr wi rL rA rH rW BG DN rs ro) {X Y W : F1} (hx : ∀ l : Nat, l < 30 → X l = BG l ∧ Y l = DN l ∧ W l = wi l) {g : Int} (hg : 0 ≤ g ∧ g ≤ 99) : ∀ (d i m : Nat), i + d = 121 → d < m → ∃ r : Int, mX9_lack_L2 (iI g) (iI no) (iF BG) (iF DN) (iF wi) (iF oL) m (iI (i : Int)) = some (iI r) ∧ mX10_lack_L11 (iI 0) (iI n) (iI g) (iF X) (iF Y) (iF W) m (iI (i : Int)) = some (iI r, iI 0, iF X, iF Y, iF W)
  | 0, i, 0, _, hm => absurd hm (Nat.not_lt_zero _)
  | 0, i, m + 1, hi, _ => by
    refine ⟨-1, ?_, ?_⟩
    · rw [mX9_lack_L2, if_pos ((iI_lt (by omega) (by omega) (by omega) (by omega)).mpr (by omega))]
    · rw [mX10_lack_L11, if_pos ((iI_lt (by omega) (by omega) (by omega) (by omega)).mpr (by omega))]
  | d + 1, i, 0, _, hm => absurd hm (Nat.not_lt_zero _)
  | d + 1, i, m + 1, hi, hm => by
    obtain ⟨s, a, b, s0, s1⟩ := busy_both h hx (q := (i : Int)) ⟨by omega, by omega⟩
    by_cases c : s ≤ g
    · obtain ⟨r, e1, e2⟩ := lack_go h hx hg d (i + 1) m (by omega) (by omega)
      refine ⟨r, ?_, ?_⟩
      · rw [mX9_lack_L2, if_neg (fun k => by have := (iI_lt (by omega) (by omega) (by omega) (by omega)).mp k; omega), a]
        show (if iI s ≤ iI g then _ else _) = _
        rw [if_pos ((iI_le (by omega) (by omega) (by omega) (by omega)).mpr c), iI_add]
        exact e1
      · rw [mX10_lack_L11, if_neg (fun k => by have := (iI_lt (by omega) (by omega) (by omega) (by omega)).mp k; omega), b]
        show (if iI s ≤ iI g then _ else _) = _
        rw [if_pos ((iI_le (by omega) (by omega) (by omega) (by omega)).mpr c), iI_add]
        exact e2
    · refine ⟨(i : Int), ?_, ?_⟩
      · rw [mX9_lack_L2, if_neg (fun k => by have := (iI_lt (by omega) (by omega) (by omega) (by omega)).mp k; omega), a]
        show (if iI s ≤ iI g then _ else _) = _
        rw [if_neg (fun k => c ((iI_le (by omega) (by omega) (by omega) (by omega)).mp k))]
      · rw [mX10_lack_L11, if_neg (fun k => by have := (iI_lt (by omega) (by omega) (by omega) (by omega)).mp k; omega), b]
        show (if iI s ≤ iI g then _ else _) = _
        rw [if_neg (fun k => c ((iI_le (by omega) (by omega) (by omega) (by omega)).mp k))]
theorem sim_lack {g : Int} (hg : 0 ≤ g ∧ g ≤ 99) (h : PI n no A B M Ho Se oL af hr wi rL rA rH rW BG DN rs ro) (X Y W : F1) :
    ∃ (r : Int) (X' Y' W' : F1), mX9_lack (iI g) (iI no) (iF BG) (iF DN) (iF wi) (iF oL) = some (iI r) ∧ mX10_lack (iI n) (iI rs) (iI ro) (iI g) (iI no) (iF X) (iF Y) (iF M) (iF Se) (iF rA) (iF rH) (iF rL) (iF rW) (iF W) = some (iI r, iI 0, iF X', iF Y', iF W') := by
  have hF := kF_ge
  obtain ⟨X', Y', W', e1, e2⟩ := h.reckon X Y W
  obtain ⟨r, a, b⟩ := lack_go h e2 hg 121 0 kF (by omega) (by omega)
  exact ⟨r, X', Y', W', a, by rw [mX10_lack, e1]; exact b⟩
end PL2
