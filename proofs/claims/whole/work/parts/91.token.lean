/-! ORDERS: tokens, as both read them -/
section TK
/-- the sort of a sign: blank, letter, digit, another -/
def srt (b : Int) : Int := if b = 32 then 0 else if 97 ≤ b ∧ b ≤ 122 then 1 else if 48 ≤ b ∧ b ≤ 57 then 2 else 3
theorem srt_in (b : Int) : 0 ≤ srt b ∧ srt b ≤ 3 := by
  unfold srt
  (repeat' split) <;> omega
theorem srt_0 {b : Int} : srt b = 0 ↔ b = 32 := by
  unfold srt
  constructor <;> intro h <;> (repeat' split at h) <;> (repeat' split) <;> omega
theorem srt_1 {b : Int} : srt b = 1 ↔ 97 ≤ b ∧ b ≤ 122 := by
  unfold srt
  constructor <;> intro h <;> (repeat' split at h) <;> (repeat' split) <;> omega
theorem srt_2 {b : Int} : srt b = 2 ↔ 48 ≤ b ∧ b ≤ 57 := by
  unfold srt
  constructor <;> intro h <;> (repeat' split at h) <;> (repeat' split) <;> omega
theorem sortOf_iI {b : Int} (h : -1 ≤ b ∧ b ≤ 255) : mX6_sortOf (iI b) = iI (srt b) := by
  have q : ∀ a c : Int, -1 ≤ a → a ≤ 255 → -1 ≤ c → c ≤ 255 → (iI a < iI c ↔ a < c) := fun a c _ _ _ _ => iI_lt (by omega) (by omega) (by omega) (by omega)
  rw [mX6_sortOf, srt]
  by_cases c1 : b = 32
  · rw [if_pos (by rw [c1]), if_pos c1]
  · rw [if_neg (fun y => c1 ((iI_eq (by omega) (by omega) (by omega) (by omega)).mp y)), if_neg c1]
    by_cases c2 : b < 97
    · rw [if_pos ((q b 97 (by omega) (by omega) (by omega) (by omega)).mpr c2), if_neg (show ¬ (97 ≤ b ∧ b ≤ 122) by omega)]
      by_cases c3 : b < 48
      · rw [if_pos ((q b 48 (by omega) (by omega) (by omega) (by omega)).mpr c3), if_neg (by omega)]
      · rw [if_neg (fun y => c3 ((q b 48 (by omega) (by omega) (by omega) (by omega)).mp y))]
        by_cases c4 : 57 < b
        · rw [if_pos ((q 57 b (by omega) (by omega) (by omega) (by omega)).mpr c4), if_neg (by omega)]
        · rw [if_neg (fun y => c4 ((q 57 b (by omega) (by omega) (by omega) (by omega)).mp y)), if_pos (by omega)]
    · rw [if_neg (fun y => c2 ((q b 97 (by omega) (by omega) (by omega) (by omega)).mp y))]
      by_cases c3 : 122 < b
      · rw [if_pos ((q 122 b (by omega) (by omega) (by omega) (by omega)).mpr c3), if_neg (fun y => by have := (q b 48 (by omega) (by omega) (by omega) (by omega)).mp y; omega), if_pos ((q 57 b (by omega) (by omega) (by omega) (by omega)).mpr (by omega)), if_neg (by omega), if_neg (by omega)]
      · rw [if_neg (fun y => c3 ((q 122 b (by omega) (by omega) (by omega) (by omega)).mp y)), if_pos (by omega)]
theorem small_iI {b : Int} (h : -1 ≤ b ∧ b ≤ 255) : (mX10_isSmall (iI b) = 0) ↔ srt b ≠ 1 := by
  have e0 : iI 0 = 0 := rfl
  have e1 : ¬ iI 1 = 0 := by decide
  rw [mX10_isSmall, ne_eq, srt_1]
  by_cases c : b < 97
  · rw [if_pos ((iI_lt (by omega) (by omega) (by omega) (by omega)).mpr c)]
    exact ⟨fun _ => by omega, fun _ => e0⟩
  · rw [if_neg (fun y => c ((iI_lt (by omega) (by omega) (by omega) (by omega)).mp y))]
    by_cases d : 122 < b
    · rw [if_pos ((iI_lt (by omega) (by omega) (by omega) (by omega)).mpr d)]
      exact ⟨fun _ => by omega, fun _ => e0⟩
    · rw [if_neg (fun y => d ((iI_lt (by omega) (by omega) (by omega) (by omega)).mp y))]
      exact ⟨fun y => absurd y e1, fun y => by omega⟩
theorem digit_iI {b : Int} (h : -1 ≤ b ∧ b ≤ 255) : (mX10_isDigit (iI b) = 0) ↔ srt b ≠ 2 := by
  have e0 : iI 0 = 0 := rfl
  have e1 : ¬ iI 1 = 0 := by decide
  rw [mX10_isDigit, ne_eq, srt_2]
  by_cases c : b < 48
  · rw [if_pos ((iI_lt (by omega) (by omega) (by omega) (by omega)).mpr c)]
    exact ⟨fun _ => by omega, fun _ => e0⟩
  · rw [if_neg (fun y => c ((iI_lt (by omega) (by omega) (by omega) (by omega)).mp y))]
    by_cases d : 57 < b
    · rw [if_pos ((iI_lt (by omega) (by omega) (by omega) (by omega)).mpr d)]
      exact ⟨fun _ => by omega, fun _ => e0⟩
    · rw [if_neg (fun y => d ((iI_lt (by omega) (by omega) (by omega) (by omega)).mp y))]
      exact ⟨fun y => absurd y e1, fun y => by omega⟩
/-- from i on, the first that is no blank; the first that is not of sort c -/
def nbF (TB : F1) : Nat → Nat → Nat
  | 0, i => i
  | d + 1, i => if srt (TB i) = 0 then nbF TB d (i + 1) else i
def teF (TB : F1) (c : Int) : Nat → Nat → Nat
  | 0, i => i
  | d + 1, i => if srt (TB i) = c then teF TB c d (i + 1) else i
theorem nbF_in (TB : F1) : ∀ d i : Nat, i ≤ nbF TB d i ∧ nbF TB d i ≤ i + d ∧ (nbF TB d i < i + d → srt (TB (nbF TB d i)) ≠ 0)
  | 0, i => ⟨Nat.le_refl i, Nat.le_refl i, fun h => absurd h (Nat.lt_irrefl i)⟩
  | d + 1, i => by
    unfold nbF
    by_cases c : srt (TB i) = 0
    · rw [if_pos c]
      obtain ⟨h1, h2, h3⟩ := nbF_in TB d (i + 1)
      exact ⟨by omega, by omega, fun h => h3 (by omega)⟩
    · rw [if_neg c]
      exact ⟨Nat.le_refl i, by omega, fun _ => c⟩
theorem teF_in (TB : F1) (c : Int) : ∀ d i : Nat, i ≤ teF TB c d i ∧ teF TB c d i ≤ i + d ∧ ∀ k : Nat, i ≤ k → k < teF TB c d i → srt (TB k) = c
  | 0, i => ⟨Nat.le_refl i, Nat.le_refl i, fun k h1 h2 => by unfold teF at h2; omega⟩
  | d + 1, i => by
    unfold teF
    by_cases q : srt (TB i) = c
    · rw [if_pos q]
      obtain ⟨h1, h2, h3⟩ := teF_in TB c d (i + 1)
      refine ⟨by omega, by omega, fun k h4 h5 => ?_⟩
      by_cases e : k = i
      · rw [e]; exact q
      · exact h3 k (by omega) h5
    · rw [if_neg q]
      exact ⟨Nat.le_refl i, by omega, fun k h1 h2 => by omega⟩
/-- the token behind e: where it begins and ends -/
def NS (T : Nat) (TB : F1) (e : Nat) : Nat := nbF TB (T - e) e
def EN (T : Nat) (TB : F1) (s : Nat) : Nat := if s < T then (if srt (TB s) = 3 then s + 1 else teF TB (srt (TB s)) (T - (s + 1)) (s + 1)) else T
def NE (T : Nat) (TB : F1) (e : Nat) : Nat := EN T TB (NS T TB e)
def TBV (TB : F1) : Prop := ∀ k : Nat, 0 ≤ TB k ∧ TB k ≤ 255
/-- a token from s to e -/
def TOK (T : Nat) (TB : F1) (s e : Nat) : Prop := (s = T ∧ e = T) ∨ (s < T ∧ s < e ∧ e ≤ T ∧ srt (TB s) ≠ 0 ∧ (srt (TB s) = 3 → e = s + 1) ∧ (srt (TB s) ≠ 3 → ∀ k : Nat, s ≤ k → k < e → srt (TB k) = srt (TB s)))
variable {T : Nat} {TB : F1}
theorem TOK.le {s e : Nat} (h : TOK T TB s e) : s ≤ T ∧ e ≤ T ∧ s ≤ e := by
  rcases h with ⟨h1, h2⟩ | ⟨h1, h2, h3, -⟩ <;> omega
theorem NT_tok {e : Nat} (he : e ≤ T) : TOK T TB (NS T TB e) (NE T TB e) := by
  obtain ⟨h1, h2, h3⟩ := nbF_in TB (T - e) e
  unfold NE EN NS
  by_cases c : nbF TB (T - e) e < T
  · rw [if_pos c]
    have h4 := h3 (by omega)
    by_cases q : srt (TB (nbF TB (T - e) e)) = 3
    · rw [if_pos q]
      exact Or.inr ⟨c, by omega, by omega, h4, fun _ => rfl, fun y => absurd q y⟩
    · rw [if_neg q]
      obtain ⟨g1, g2, g3⟩ := teF_in TB (srt (TB (nbF TB (T - e) e))) (T - (nbF TB (T - e) e + 1)) (nbF TB (T - e) e + 1)
      refine Or.inr ⟨c, by omega, by omega, h4, fun y => absurd y q, fun _ k k1 k2 => ?_⟩
      by_cases e2 : k = nbF TB (T - e) e
      · rw [e2]
      · exact g3 k (by omega) k2
  · rw [if_neg c]
    exact Or.inl ⟨by omega, rfl⟩
theorem blank2_go (hT : T ≤ 400) (hB : TBV TB) (kk : Int32 → Option (Int32 × Int32)) : ∀ (d i m : Nat), i + d = T → d < m → mX6_next_L8 (iI (T : Int)) (iF TB) kk m (iI (i : Int)) = kk (iI ((nbF TB d i : Nat) : Int)) := by
  intro d
  induction d with
  | zero =>
    intro i m hi hm
    obtain ⟨m, rfl⟩ : ∃ a, m = a + 1 := ⟨m - 1, by omega⟩
    rw [mX6_next_L8, if_pos ((iI_le (by omega) (by omega) (by omega) (by omega)).mpr (by omega))]
    rfl
  | succ d ih =>
    intro i m hi hm
    obtain ⟨m, rfl⟩ : ∃ a, m = a + 1 := ⟨m - 1, by omega⟩
    have ii : (i : Int).toNat = i := by omega
    have r := hB i
    have rs := srt_in (TB i)
    rw [mX6_next_L8, if_neg (fun k => by have := (iI_le (by omega) (by omega) (by omega) (by omega)).mp k; omega), at_iI (by omega) (by omega) (by omega), at_in (by omega) (by omega), ii, sortOf_iI (by omega), nbF]
    by_cases c : srt (TB i) = 0
    · rw [if_pos (by rw [c]; rfl), if_pos c, iI_add]
      exact ih (i + 1) m (by omega) (by omega)
    · rw [if_neg (fun y => c ((iI_eq0 (by omega) (by omega)).mp y)), if_neg c]
theorem same2_go (hT : T ≤ 400) (hB : TBV TB) {c : Int} (hc : 0 ≤ c ∧ c < 3) (st : Int32) : ∀ (d i m : Nat), i + d = T → d < m → mX6_next_L81 (iI (T : Int)) st (iF TB) (iI c) m (iI (i : Int)) = some (st, iI ((teF TB c d i : Nat) : Int)) := by
  intro d
  induction d with
  | zero =>
    intro i m hi hm
    obtain ⟨m, rfl⟩ : ∃ a, m = a + 1 := ⟨m - 1, by omega⟩
    rw [mX6_next_L81, if_neg (fun y => by have := (iI_eq (by omega) (by omega) (by omega) (by omega)).mp y; omega), if_pos ((iI_le (by omega) (by omega) (by omega) (by omega)).mpr (by omega))]
    rfl
  | succ d ih =>
    intro i m hi hm
    obtain ⟨m, rfl⟩ : ∃ a, m = a + 1 := ⟨m - 1, by omega⟩
    have ii : (i : Int).toNat = i := by omega
    have r := hB i
    have rs := srt_in (TB i)
    rw [mX6_next_L81, if_neg (fun y => by have := (iI_eq (by omega) (by omega) (by omega) (by omega)).mp y; omega), if_neg (fun k => by have := (iI_le (by omega) (by omega) (by omega) (by omega)).mp k; omega), at_iI (by omega) (by omega) (by omega), at_in (by omega) (by omega), ii, sortOf_iI (by omega), teF]
    by_cases q : srt (TB i) = c
    · rw [if_pos (by rw [q]), if_pos q, iI_add]
      exact ih (i + 1) m (by omega) (by omega)
    · rw [if_neg (fun y => q ((iI_eq (by omega) (by omega) (by omega) (by omega)).mp y)), if_neg q]
theorem next2 (hT : T ≤ 400) (hB : TBV TB) {e : Nat} (he : e ≤ T) : mX6_next (iI (T : Int)) (iI (e : Int)) (iF TB) = some (iI ((NS T TB e : Nat) : Int), iI ((NE T TB e : Nat) : Int)) := by
  have hkF := kF_ge
  obtain ⟨h1, h2, h3⟩ := nbF_in TB (T - e) e
  rw [mX6_next]
  refine (blank2_go hT hB _ (T - e) e kF (by omega) (by omega)).trans ?_
  show mX6_next_L81 _ (iI ((NS T TB e : Nat) : Int)) _ (mX6_sortOf (mX9_at 400 (iI ((NS T TB e : Nat) : Int)) (iF TB))) kF (if iI (T : Int) < iI ((NS T TB e : Nat) : Int) + iI 1 then iI (T : Int) else iI ((NS T TB e : Nat) : Int) + iI 1) = _
  have hs : NS T TB e ≤ T := by unfold NS; omega
  have hn : NS T TB e < T → srt (TB (NS T TB e)) ≠ 0 := fun y => h3 (by unfold NS at y; omega)
  unfold NE EN
  generalize NS T TB e = s at hs hn ⊢
  have ss : (s : Int).toNat = s := by omega
  rw [iI_add]
  by_cases c : s < T
  · have r := hB s
    have rs := srt_in (TB s)
    rw [if_pos c, if_neg (fun k => by have := (iI_lt (by omega) (by omega) (by omega) (by omega)).mp k; omega), at_iI (by omega) (by omega) (by omega), at_in (by omega) (by omega), ss, sortOf_iI (by omega)]
    by_cases q : srt (TB s) = 3
    · rw [if_pos q, q]
      obtain ⟨m, hm⟩ : ∃ m, kF = m + 1 := ⟨kF - 1, by omega⟩
      rw [hm, mX6_next_L81, if_pos rfl]
      rfl
    · rw [if_neg q]
      exact same2_go hT hB (c := srt (TB s)) (by omega) _ (T - (s + 1)) (s + 1) kF (by omega) (by omega)
  · have e0 : s = T := by omega
    subst e0
    rw [if_neg c, if_pos ((iI_lt (by omega) (by omega) (by omega) (by omega)).mpr (by omega))]
    have stop : ∀ v : Int32, mX6_next_L81 (iI (s : Int)) (iI (s : Int)) (iF TB) v kF (iI (s : Int)) = some (iI (s : Int), iI (s : Int)) := fun v => by
      obtain ⟨m, hm⟩ : ∃ m, kF = m + 1 := ⟨kF - 1, by omega⟩
      rw [hm, mX6_next_L81]
      split
      · rfl
      · rw [if_pos ((iI_le (by omega) (by omega) (by omega) (by omega)).mpr (Int.le_refl _))]
    exact stop _
/-- what the reference calls a token's worth -/
def wwF (TB : F1) : Nat → Nat → Nat → Int → Int
  | 0, _, _, w => w
  | d + 1, j, i, w => wwF TB d (j + 1) (i + 1) (if j < 6 then w * 32 + TB i - 96 else -1)
def dwF (TB : F1) : Nat → Nat → Int → Int
  | 0, _, w => w
  | d + 1, i, w => dwF TB d (i + 1) (if 1000 < w then w else w * 10 + TB i - 48)
def SO (T : Nat) (TB : F1) (s : Nat) : Int := if s < T then srt (TB s) else 0
def WO (T : Nat) (TB : F1) (s e : Nat) : Int := if s < T then (if srt (TB s) = 3 then TB s else if srt (TB s) = 1 then wwF TB (e - s) 0 s 0 else dwF TB (e - s) s 0) else 0
theorem blank10_go (hT : T ≤ 400) (hB : TBV TB) (kk : Int32 → Option (Int32 × Int32 × Int32 × Int64)) : ∀ (d i m : Nat), i + d = T → d < m → mX10_next_L8 (iI (T : Int)) (iF TB) kk m (iI (i : Int)) = kk (iI ((nbF TB d i : Nat) : Int)) := by
  intro d
  induction d with
  | zero =>
    intro i m hi hm
    obtain ⟨m, rfl⟩ : ∃ a, m = a + 1 := ⟨m - 1, by omega⟩
    rw [mX10_next_L8, if_pos ((iI_le (by omega) (by omega) (by omega) (by omega)).mpr (by omega))]
    rfl
  | succ d ih =>
    intro i m hi hm
    obtain ⟨m, rfl⟩ : ∃ a, m = a + 1 := ⟨m - 1, by omega⟩
    have ii : (i : Int).toNat = i := by omega
    have r := hB i
    have g := gdn (z := (i : Int)) (n := 400) (by omega) (by omega) (by omega)
    rw [mX10_next_L8, if_neg (fun k => by have := (iI_le (by omega) (by omega) (by omega) (by omega)).mp k; omega), if_neg g, rd (by omega) (by omega), ii, nbF]
    by_cases c : srt (TB i) = 0
    · rw [if_pos (by rw [srt_0.mp c]), if_pos c, iI_add]
      exact ih (i + 1) m (by omega) (by omega)
    · rw [if_neg (fun y => c (srt_0.mpr ((iI_eq (by omega) (by omega) (by omega) (by omega)).mp y))), if_neg c]
theorem digits10_go (hT : T ≤ 400) (hB : TBV TB) (fr : Int32) : ∀ (d i m : Nat) (w : Int), i + d = T → d < m → 0 ≤ w → w ≤ 20000 → mX10_next_L243 (iI (T : Int)) fr (iI 2) (iF TB) m (iI (i : Int)) (lI w) = some (fr, iI ((teF TB 2 d i : Nat) : Int), iI 2, lI (dwF TB (teF TB 2 d i - i) i w)) := by
  intro d
  induction d with
  | zero =>
    intro i m w hi hm w0 w1
    obtain ⟨m, rfl⟩ : ∃ a, m = a + 1 := ⟨m - 1, by omega⟩
    rw [mX10_next_L243, if_pos rfl, if_pos ((iI_le (by omega) (by omega) (by omega) (by omega)).mpr (by omega)), teF, Nat.sub_self]
    rfl
  | succ d ih =>
    intro i m w hi hm w0 w1
    obtain ⟨m, rfl⟩ : ∃ a, m = a + 1 := ⟨m - 1, by omega⟩
    have ii : (i : Int).toNat = i := by omega
    have r := hB i
    have g := gdn (z := (i : Int)) (n := 400) (by omega) (by omega) (by omega)
    rw [mX10_next_L243, if_pos rfl, if_neg (fun k => by have := (iI_le (by omega) (by omega) (by omega) (by omega)).mp k; omega), if_neg g, if_neg g, rd (by omega) (by omega), ii, teF]
    by_cases c : srt (TB i) = 2
    · obtain ⟨h1, -, -⟩ := teF_in TB 2 d (i + 1)
      have b := srt_2.mp c
      rw [if_neg (fun y => (digit_iI (by omega)).mp y c), if_pos c, show teF TB 2 d (i + 1) - i = (teF TB 2 d (i + 1) - (i + 1)) + 1 by omega, dwF, iI_add]
      by_cases q : 1000 < w
      · rw [if_neg (fun y => by have := (lI_le (by omega) (by omega) (by omega) (by omega)).mp ((lg_cmp_le _ _).mp y); omega), if_pos q]
        exact ih (i + 1) m w (by omega) (by omega) w0 w1
      · rw [if_pos ((lg_cmp_le _ _).mpr ((lI_le (by omega) (by omega) (by omega) (by omega)).mpr (by omega))), if_neg q, iI_l (by omega) (by omega), lI_mul, lI_add, lI_sub]
        exact ih (i + 1) m (w * 10 + TB i - 48) (by omega) (by omega) (by omega) (by omega)
    · rw [if_pos ((digit_iI (by omega)).mpr c), if_neg c, Nat.sub_self]
      rfl
theorem letters10_go (hT : T ≤ 400) (hB : TBV TB) {s : Nat} (kk : Int32 → Int64 → Option (Int32 × Int32 × Int32 × Int64)) : ∀ (d j i m : Nat) (w : Int), i + d = T → d < m → i = s + j → mX10_next_L149 (iI (T : Int)) (iI (s : Int)) (iI 1) (iF TB) kk m (iI (i : Int)) (lI w) = kk (iI ((teF TB 1 d i : Nat) : Int)) (lI (wwF TB (teF TB 1 d i - i) j i w)) := by
  intro d
  induction d with
  | zero =>
    intro j i m w hi hm hj
    obtain ⟨m, rfl⟩ : ∃ a, m = a + 1 := ⟨m - 1, by omega⟩
    rw [mX10_next_L149, if_pos rfl, if_pos ((iI_le (by omega) (by omega) (by omega) (by omega)).mpr (by omega)), teF, Nat.sub_self]
    rfl
  | succ d ih =>
    intro j i m w hi hm hj
    obtain ⟨m, rfl⟩ : ∃ a, m = a + 1 := ⟨m - 1, by omega⟩
    have ii : (i : Int).toNat = i := by omega
    have r := hB i
    have g := gdn (z := (i : Int)) (n := 400) (by omega) (by omega) (by omega)
    rw [mX10_next_L149, if_pos rfl, if_neg (fun k => by have := (iI_le (by omega) (by omega) (by omega) (by omega)).mp k; omega), if_neg g, if_neg g, rd (by omega) (by omega), ii, teF]
    by_cases c : srt (TB i) = 1
    · obtain ⟨h1, -, -⟩ := teF_in TB 1 d (i + 1)
      rw [if_neg (fun y => (small_iI (by omega)).mp y c), if_pos c, show teF TB 1 d (i + 1) - i = (teF TB 1 d (i + 1) - (i + 1)) + 1 by omega, wwF, iI_add, iI_sub]
      by_cases q : j < 6
      · rw [if_neg (fun y => by have := (iI_le (by omega) (by omega) (by omega) (by omega)).mp y; omega), if_pos q, iI_l (by omega) (by omega), lI_mul, lI_add, lI_sub]
        exact ih (j + 1) (i + 1) m (w * 32 + TB i - 96) (by omega) (by omega) (by omega)
      · rw [if_pos ((iI_le (by omega) (by omega) (by omega) (by omega)).mpr (by omega)), if_neg q]
        exact ih (j + 1) (i + 1) m (-1) (by omega) (by omega) (by omega)
    · rw [if_pos ((small_iI (by omega)).mpr c), if_neg c, Nat.sub_self]
      rfl
theorem J114_eq (tp : Int32) (tb : Nat → Int32) (s1 fr to so : Int32) (w : Int64) : mX10_next_J114 tp tb s1 fr to so w = (if s1 = (iI 3) then (if fr < 0 ∨ 400 ≤ Int32.toNatClampNeg fr then none else mX10_next_L149 tp fr s1 tb (fun (a : Int32) (b : Int64) => mX10_next_L243 tp fr s1 tb (kF + 1) a b) kF (to + (iI 1)) (Int32.toInt64 (tb (Int32.toNatClampNeg fr)))) else mX10_next_L149 tp fr s1 tb (fun (a : Int32) (b : Int64) => mX10_next_L243 tp fr s1 tb (kF + 1) a b) kF to w) := by
  rw [mX10_next_J114]
  rfl
theorem L149_no {tp fr s1 : Int32} {tb : Nat → Int32} (h : ¬ s1 = iI 1) (kk : Int32 → Int64 → Option (Int32 × Int32 × Int32 × Int64)) (a : Int32) (b : Int64) : mX10_next_L149 tp fr s1 tb kk kF a b = kk a b := by
  obtain ⟨m, hm⟩ : ∃ m, kF = m + 1 := ⟨kF - 1, by have := kF_ge; omega⟩
  rw [hm, mX10_next_L149, if_neg h]
theorem L243_no {tp fr s1 : Int32} {tb : Nat → Int32} (h : ¬ s1 = iI 2) (a : Int32) (b : Int64) : mX10_next_L243 tp fr s1 tb (kF + 1) a b = some (fr, a, s1, b) := by
  rw [mX10_next_L243, if_neg h]
theorem next10 (hT : T ≤ 400) (hB : TBV TB) (so : Int32) {e : Nat} (he : e ≤ T) : mX10_next (iI (T : Int)) (iI (e : Int)) so (iF TB) = some (iI ((NS T TB e : Nat) : Int), iI ((NE T TB e : Nat) : Int), iI (SO T TB (NS T TB e)), lI (WO T TB (NS T TB e) (NE T TB e))) := by
  have hkF := kF_ge
  obtain ⟨h1, h2, h3⟩ := nbF_in TB (T - e) e
  have hs : NS T TB e ≤ T := by unfold NS; omega
  have hn : NS T TB e < T → srt (TB (NS T TB e)) ≠ 0 := fun y => h3 (by unfold NS at y; omega)
  rw [mX10_next]
  refine (blank10_go hT hB _ (T - e) e kF (by omega) (by omega)).trans ?_
  show (if iI ((NS T TB e : Nat) : Int) = iI (T : Int) then mX10_next_J114 (iI (T : Int)) (iF TB) (iI 0) (iI ((NS T TB e : Nat) : Int)) (iI ((NS T TB e : Nat) : Int)) so (lI 0) else (if iI ((NS T TB e : Nat) : Int) < 0 ∨ 400 ≤ Int32.toNatClampNeg (iI ((NS T TB e : Nat) : Int)) then none else (if (mX10_isSmall ((iF TB) (Int32.toNatClampNeg (iI ((NS T TB e : Nat) : Int))))) = 0 then (if iI ((NS T TB e : Nat) : Int) < 0 ∨ 400 ≤ Int32.toNatClampNeg (iI ((NS T TB e : Nat) : Int)) then none else (if (mX10_isDigit ((iF TB) (Int32.toNatClampNeg (iI ((NS T TB e : Nat) : Int))))) = 0 then mX10_next_J114 (iI (T : Int)) (iF TB) (iI 3) (iI ((NS T TB e : Nat) : Int)) (iI ((NS T TB e : Nat) : Int)) so (lI 0) else mX10_next_J114 (iI (T : Int)) (iF TB) (iI 2) (iI ((NS T TB e : Nat) : Int)) (iI ((NS T TB e : Nat) : Int)) so (lI 0))) else mX10_next_J114 (iI (T : Int)) (iF TB) (iI 1) (iI ((NS T TB e : Nat) : Int)) (iI ((NS T TB e : Nat) : Int)) so (lI 0)))) = _
  unfold NE
  generalize NS T TB e = s at hs hn ⊢
  have ss : (s : Int).toNat = s := by omega
  have ne : ∀ a b : Int, 0 ≤ a → a ≤ 3 → 0 ≤ b → b ≤ 3 → a ≠ b → ¬ iI a = iI b := fun a b _ _ _ _ h y => h ((iI_eq (by omega) (by omega) (by omega) (by omega)).mp y)
  by_cases c : s < T
  · have r := hB s
    have rs := srt_in (TB s)
    have n0 := hn c
    have g := gdn (z := (s : Int)) (n := 400) (by omega) (by omega) (by omega)
    have tf : ∀ q : Int, srt (TB s) = q → teF TB q (T - s) s = teF TB q (T - (s + 1)) (s + 1) := fun q hq => by
      rw [show T - s = T - (s + 1) + 1 by omega, teF, if_pos hq]
    rw [if_neg (fun y => by have := (iI_eq (by omega) (by omega) (by omega) (by omega)).mp y; omega), if_neg g, if_neg g, rd (by omega) (by omega), ss, SO, if_pos c, WO, if_pos c, EN, if_pos c]
    by_cases q1 : srt (TB s) = 1
    · rw [if_neg (fun y => (small_iI (by omega)).mp y q1), J114_eq, if_neg (ne 1 3 (by omega) (by omega) (by omega) (by omega) (by omega)), letters10_go hT hB _ (T - s) 0 s kF 0 (by omega) (by omega) (by omega), L243_no (ne 1 2 (by omega) (by omega) (by omega) (by omega) (by omega)), tf 1 q1, q1, if_neg (show ¬ (1 : Int) = 3 by omega), if_pos rfl, if_neg (show ¬ (1 : Int) = 3 by omega)]
    · rw [if_pos ((small_iI (by omega)).mpr q1)]
      by_cases q2 : srt (TB s) = 2
      · rw [if_neg (fun y => (digit_iI (by omega)).mp y q2), J114_eq, if_neg (ne 2 3 (by omega) (by omega) (by omega) (by omega) (by omega)), L149_no (ne 2 1 (by omega) (by omega) (by omega) (by omega) (by omega)), digits10_go hT hB _ (T - s) s (kF + 1) 0 (by omega) (by omega) (by omega) (by omega), tf 2 q2, q2, if_neg (show ¬ (2 : Int) = 3 by omega), if_neg (show ¬ (2 : Int) = 3 by omega), if_neg (show ¬ (2 : Int) = 1 by omega)]
      · have q3 : srt (TB s) = 3 := by omega
        rw [if_pos ((digit_iI (by omega)).mpr q2), J114_eq, if_pos rfl, if_neg g, L149_no (ne 3 1 (by omega) (by omega) (by omega) (by omega) (by omega)), L243_no (ne 3 2 (by omega) (by omega) (by omega) (by omega) (by omega)), rd (by omega) (by omega), ss, iI_l (by omega) (by omega), iI_add, if_pos q3, if_pos q3, q3]
        rfl
  · have e0 : s = T := by omega
    subst e0
    rw [if_pos rfl, J114_eq, if_neg (ne 0 3 (by omega) (by omega) (by omega) (by omega) (by omega)), L149_no (ne 0 1 (by omega) (by omega) (by omega) (by omega) (by omega)), L243_no (ne 0 2 (by omega) (by omega) (by omega) (by omega) (by omega)), SO, if_neg c, WO, if_neg c, EN, if_neg c]
end TK
