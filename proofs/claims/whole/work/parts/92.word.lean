/-! ORDERS: words and numbers -/
section WD
variable {T : Nat} {TB : F1}
def wlen (i : Nat) : Nat := [4, 1, 2, 5, 3, 4].getD i 0
def wch (i k : Nat) : Int := ([[108, 105, 110, 101], [59], [97, 116], [97, 102, 116, 101, 114], [97, 110, 100], [119, 105, 116, 104]].getD i []).getD k 0
theorem wlen_5 : ∀ i : Nat, i < 6 → wlen i ≤ 5 := by decide
theorem wch_in : ∀ i : Nat, i < 6 → ∀ k : Nat, k < 5 → 0 ≤ wch i k ∧ wch i k ≤ 255 := by decide
theorem kSlen_iI : ∀ i : Nat, i < 6 → kSlen i = iI ((wlen i : Nat) : Int) := by
  unfold kSlen wlen kLen iI
  decide +kernel
theorem kLen_wlen : ∀ i : Nat, i < 6 → kLen.getD i 0 = wlen i := by
  unfold wlen kLen
  decide +kernel
theorem kSch_iI : ∀ i : Nat, i < 6 → ∀ k : Nat, k < 5 → k < wlen i → kSch i (iI (k : Int)) = iI (wch i k) := by
  unfold kSch wch wlen kByt iI
  decide +kernel
/-- do the signs from s + k on spell the rest of word i -/
def mtF (TB : F1) (i s : Nat) : Nat → Nat → Int
  | 0, _ => 1
  | d + 1, k => if TB (s + k) = wch i k then mtF TB i s d (k + 1) else 0
theorem mtF_in (i s : Nat) : ∀ d k : Nat, mtF TB i s d k = 0 ∨ mtF TB i s d k = 1
  | 0, _ => Or.inr rfl
  | d + 1, k => by
    unfold mtF
    split
    · exact mtF_in i s d (k + 1)
    · exact Or.inl rfl
def AT (TB : F1) (i s e : Nat) : Int := if e - s = wlen i then mtF TB i s (wlen i) 0 else 0
theorem AT_in (i s e : Nat) : AT TB i s e = 0 ∨ AT TB i s e = 1 := by
  unfold AT
  split
  · exact mtF_in i s _ _
  · exact Or.inl rfl
theorem spell_go (hB : TBV TB) {i s : Nat} (hi : i < 6) (hs : s + wlen i ≤ 400) : ∀ (d k m : Nat), k + d = wlen i → d < m → mX6_isAtWord_L22 i (iI (s : Int)) (iF TB) (iI ((wlen i : Nat) : Int)) m (iI (k : Int)) = some (iI (mtF TB i s d k)) := by
  have h5 := wlen_5 i hi
  intro d
  induction d with
  | zero =>
    intro k m hk hm
    obtain ⟨m, rfl⟩ : ∃ a, m = a + 1 := ⟨m - 1, by omega⟩
    rw [mX6_isAtWord_L22, if_pos ((iI_le (by omega) (by omega) (by omega) (by omega)).mpr (by omega))]
    rfl
  | succ d ih =>
    intro k m hk hm
    obtain ⟨m, rfl⟩ : ∃ a, m = a + 1 := ⟨m - 1, by omega⟩
    have r := hB (s + k)
    have rc := wch_in i hi k (by omega)
    have ek : ((s : Int) + k).toNat = s + k := by omega
    have g : ¬ (iI (k : Int) < 0 ∨ kLen.getD i 0 ≤ Int32.toNatClampNeg (iI (k : Int))) := by
      rw [kLen_wlen i hi]
      exact gdn (by omega) (by omega) (by omega)
    rw [mX6_isAtWord_L22, if_neg (fun y => by have := (iI_le (by omega) (by omega) (by omega) (by omega)).mp y; omega), kSlen_iI i hi, if_neg (fun y => by have := (iI_le (by omega) (by omega) (by omega) (by omega)).mp y; omega), if_neg g, iI_add, at_iI (by omega) (by omega) (by omega), at_in (by omega) (by omega), ek, kSch_iI i hi k (by omega) (by omega), mtF]
    by_cases c : TB (s + k) = wch i k
    · rw [if_pos (by rw [c]), if_pos c, iI_add]
      exact ih (k + 1) m (by omega) (by omega)
    · rw [if_neg (fun y => c ((iI_eq (by omega) (by omega) (by omega) (by omega)).mp y)), if_neg c]
theorem atWord_iI (hB : TBV TB) (hT : T ≤ 400) {i s e : Nat} (hi : i < 6) (h : TOK T TB s e) : mX6_isAtWord i (iI (s : Int)) (iI (e : Int)) (iF TB) = some (iI (AT TB i s e)) := by
  have h5 := wlen_5 i hi
  have hkF := kF_ge
  obtain ⟨l1, l2, l3⟩ := h.le
  rw [mX6_isAtWord, iI_sub, kSlen_iI i hi, AT]
  by_cases c : e - s = wlen i
  · rw [if_pos (by rw [show (e : Int) - s = ((wlen i : Nat) : Int) by omega]), if_pos c, show (e : Int) - s = ((wlen i : Nat) : Int) by omega]
    exact spell_go hB hi (by omega) (wlen i) 0 kF (by omega) (by omega)
  · rw [if_neg (fun y => by have := (iI_eq (by omega) (by omega) (by omega) (by omega)).mp y; omega), if_neg c]
theorem wwF_long : ∀ (d j i : Nat) (w : Int), 6 ≤ j → 0 < d → wwF TB d j i w = -1
  | 0, _, _, _, _, h => absurd h (Nat.lt_irrefl 0)
  | 1, j, i, w, hj, _ => by
    unfold wwF
    rw [if_neg (by omega)]
    rfl
  | d + 2, j, i, w, hj, _ => by
    unfold wwF
    exact wwF_long (d + 1) (j + 1) (i + 1) _ (by omega) (by omega)
/-- what a word of letters is worth, by its length -/
theorem ww_len {s L : Nat} (hl : ∀ k : Nat, s ≤ k → k < s + L → srt (TB k) = 1) (h0 : 0 < L) : (6 < L ∧ wwF TB L 0 s 0 = -1) ∨ ∃ d0 d1 d2 d3 d4 d5 : Int, TB s = 96 + d0 ∧ TB (s + 1) = 96 + d1 ∧ TB (s + 2) = 96 + d2 ∧ TB (s + 3) = 96 + d3 ∧ TB (s + 4) = 96 + d4 ∧ TB (s + 5) = 96 + d5 ∧ (1 ≤ d0 ∧ d0 ≤ 26) ∧ (1 < L → 1 ≤ d1 ∧ d1 ≤ 26) ∧ (2 < L → 1 ≤ d2 ∧ d2 ≤ 26) ∧ (3 < L → 1 ≤ d3 ∧ d3 ≤ 26) ∧ (4 < L → 1 ≤ d4 ∧ d4 ≤ 26) ∧ (5 < L → 1 ≤ d5 ∧ d5 ≤ 26) ∧ ((L = 1 ∧ wwF TB L 0 s 0 = d0) ∨ (L = 2 ∧ wwF TB L 0 s 0 = d0 * 32 + d1) ∨ (L = 3 ∧ wwF TB L 0 s 0 = d0 * 1024 + d1 * 32 + d2) ∨ (L = 4 ∧ wwF TB L 0 s 0 = d0 * 32768 + d1 * 1024 + d2 * 32 + d3) ∨ (L = 5 ∧ wwF TB L 0 s 0 = d0 * 1048576 + d1 * 32768 + d2 * 1024 + d3 * 32 + d4) ∨ (L = 6 ∧ wwF TB L 0 s 0 = d0 * 33554432 + d1 * 1048576 + d2 * 32768 + d3 * 1024 + d4 * 32 + d5)) := by
  have lt : ∀ k : Nat, k < L → 97 ≤ TB (s + k) ∧ TB (s + k) ≤ 122 := fun k hk => srt_1.mp (hl (s + k) (by omega) (by omega))
  by_cases c : 6 < L
  · refine Or.inl ⟨c, ?_⟩
    obtain ⟨m, rfl⟩ : ∃ m, L = m + 1 + 1 + 1 + 1 + 1 + 1 := ⟨L - 6, by omega⟩
    unfold wwF wwF wwF wwF wwF wwF
    exact wwF_long m 6 _ _ (by omega) (by omega)
  · have q0 := lt 0 h0
    refine Or.inr ⟨TB s - 96, TB (s + 1) - 96, TB (s + 2) - 96, TB (s + 3) - 96, TB (s + 4) - 96, TB (s + 5) - 96, by omega, by omega, by omega, by omega, by omega, by omega, ?_, fun h => ?_, fun h => ?_, fun h => ?_, fun h => ?_, fun h => ?_, ?_⟩
    · have := lt 0 h0; rw [Nat.add_zero] at this; omega
    · have := lt 1 h; omega
    · have := lt 2 h; omega
    · have := lt 3 h; omega
    · have := lt 4 h; omega
    · have := lt 5 h; omega
    · have e : L = 1 ∨ L = 2 ∨ L = 3 ∨ L = 4 ∨ L = 5 ∨ L = 6 := by omega
      rcases e with e | e | e | e | e | e <;> subst e <;> simp [wwF, Nat.add_assoc] <;> omega
theorem ww_in {s L : Nat} (hl : ∀ k : Nat, s ≤ k → k < s + L → srt (TB k) = 1) (h0 : 0 < L) : -1 ≤ wwF TB L 0 s 0 ∧ wwF TB L 0 s 0 ≤ 1073741823 := by
  rcases ww_len hl h0 with ⟨-, h⟩ | ⟨d0, d1, d2, d3, d4, d5, -, -, -, -, -, -, b0, b1, b2, b3, b4, b5, h⟩
  · omega
  · rcases h with ⟨hL, h⟩ | ⟨hL, h⟩ | ⟨hL, h⟩ | ⟨hL, h⟩ | ⟨hL, h⟩ | ⟨hL, h⟩ <;> omega
theorem at_line {s e : Nat} (h : TOK T TB s e) : AT TB 0 s e = 1 ↔ (SO T TB s = 1 ∧ WO T TB s e = 402885) := by
  have w0 : wlen 0 = 4 := rfl
  rcases h with ⟨rfl, rfl⟩ | ⟨h1, h2, h3, h4, h5, h6⟩
  · rw [AT, w0, if_neg (by omega), SO, if_neg (Nat.lt_irrefl _)]
    constructor
    · intro y; omega
    · intro y; omega
  · rw [SO, if_pos h1, WO, if_pos h1]
    by_cases c : srt (TB s) = 1
    · obtain ⟨L, rfl⟩ : ∃ L, e = s + L := ⟨e - s, by omega⟩
      have key := ww_len (TB := TB) (s := s) (L := L) (fun k k1 k2 => (h6 (by omega) k k1 k2).trans c) (by omega)
      rw [c, if_neg (show ¬ (1 : Int) = 3 by omega), if_pos rfl, AT, w0, show s + L - s = L by omega]
      rcases key with ⟨hL, h⟩ | ⟨d0, d1, d2, d3, d4, d5, e0, e1, e2, e3, e4, e5, b0, b1, b2, b3, b4, b5, h⟩
      · rw [h, if_neg (by omega)]
        constructor
        · intro y; omega
        · intro y; omega
      · by_cases hL : L = 4
        · subst hL
          rw [if_pos rfl]
          have hw : wwF TB 4 0 s 0 = d0 * 32768 + d1 * 1024 + d2 * 32 + d3 := by omega
          rw [hw]
          simp only [mtF, Nat.add_zero, Nat.zero_add, Nat.reduceAdd, e0, e1, e2, e3, e4, e5, true_and]
          have cc : wch 0 0 = 108 ∧ wch 0 1 = 105 ∧ wch 0 2 = 110 ∧ wch 0 3 = 101 := ⟨rfl, rfl, rfl, rfl⟩
          obtain ⟨cc0, cc1, cc2, cc3⟩ := cc
          constructor
          · intro y
            (repeat' split at y) <;> omega
          · intro y
            (repeat' split) <;> omega
        · rw [if_neg hL]
          constructor
          · intro y; omega
          · intro y
            rcases h with ⟨hL2, h⟩ | ⟨hL2, h⟩ | ⟨hL2, h⟩ | ⟨hL2, h⟩ | ⟨hL2, h⟩ | ⟨hL2, h⟩ <;> omega
    · constructor
      · intro y
        exfalso
        unfold AT at y
        rw [w0] at y
        split at y
        · unfold mtF at y
          split at y
          · have q2 : TB (s + 0) = wch 0 0 := by assumption
            rw [Nat.add_zero, show wch 0 0 = 108 from rfl] at q2
            exact c (srt_1.mpr (by omega))
          · omega
        · omega
      · intro y; exact absurd y.1 c
theorem at_at {s e : Nat} (h : TOK T TB s e) : AT TB 2 s e = 1 ↔ (SO T TB s = 1 ∧ WO T TB s e = 52) := by
  have w2 : wlen 2 = 2 := rfl
  rcases h with ⟨rfl, rfl⟩ | ⟨h1, h2, h3, h4, h5, h6⟩
  · rw [AT, w2, if_neg (by omega), SO, if_neg (Nat.lt_irrefl _)]
    constructor
    · intro y; omega
    · intro y; omega
  · rw [SO, if_pos h1, WO, if_pos h1]
    by_cases c : srt (TB s) = 1
    · obtain ⟨L, rfl⟩ : ∃ L, e = s + L := ⟨e - s, by omega⟩
      have key := ww_len (TB := TB) (s := s) (L := L) (fun k k1 k2 => (h6 (by omega) k k1 k2).trans c) (by omega)
      rw [c, if_neg (show ¬ (1 : Int) = 3 by omega), if_pos rfl, AT, w2, show s + L - s = L by omega]
      rcases key with ⟨hL, h⟩ | ⟨d0, d1, d2, d3, d4, d5, e0, e1, e2, e3, e4, e5, b0, b1, b2, b3, b4, b5, h⟩
      · rw [h, if_neg (by omega)]
        constructor
        · intro y; omega
        · intro y; omega
      · by_cases hL : L = 2
        · subst hL
          rw [if_pos rfl]
          have hw : wwF TB 2 0 s 0 = d0 * 32 + d1 := by omega
          rw [hw]
          simp only [mtF, Nat.add_zero, Nat.zero_add, Nat.reduceAdd, e0, e1, e2, e3, e4, e5, true_and]
          have cc : wch 2 0 = 97 ∧ wch 2 1 = 116 := ⟨rfl, rfl⟩
          obtain ⟨cc0, cc1⟩ := cc
          constructor
          · intro y
            (repeat' split at y) <;> omega
          · intro y
            (repeat' split) <;> omega
        · rw [if_neg hL]
          constructor
          · intro y; omega
          · intro y
            rcases h with ⟨hL2, h⟩ | ⟨hL2, h⟩ | ⟨hL2, h⟩ | ⟨hL2, h⟩ | ⟨hL2, h⟩ | ⟨hL2, h⟩ <;> omega
    · constructor
      · intro y
        exfalso
        unfold AT at y
        rw [w2] at y
        split at y
        · unfold mtF at y
          split at y
          · have q2 : TB (s + 0) = wch 2 0 := by assumption
            rw [Nat.add_zero, show wch 2 0 = 97 from rfl] at q2
            exact c (srt_1.mpr (by omega))
          · omega
        · omega
      · intro y; exact absurd y.1 c
theorem at_after {s e : Nat} (h : TOK T TB s e) : AT TB 3 s e = 1 ↔ (SO T TB s = 1 ∧ WO T TB s e = 1265842) := by
  have w3 : wlen 3 = 5 := rfl
  rcases h with ⟨rfl, rfl⟩ | ⟨h1, h2, h3, h4, h5, h6⟩
  · rw [AT, w3, if_neg (by omega), SO, if_neg (Nat.lt_irrefl _)]
    constructor
    · intro y; omega
    · intro y; omega
  · rw [SO, if_pos h1, WO, if_pos h1]
    by_cases c : srt (TB s) = 1
    · obtain ⟨L, rfl⟩ : ∃ L, e = s + L := ⟨e - s, by omega⟩
      have key := ww_len (TB := TB) (s := s) (L := L) (fun k k1 k2 => (h6 (by omega) k k1 k2).trans c) (by omega)
      rw [c, if_neg (show ¬ (1 : Int) = 3 by omega), if_pos rfl, AT, w3, show s + L - s = L by omega]
      rcases key with ⟨hL, h⟩ | ⟨d0, d1, d2, d3, d4, d5, e0, e1, e2, e3, e4, e5, b0, b1, b2, b3, b4, b5, h⟩
      · rw [h, if_neg (by omega)]
        constructor
        · intro y; omega
        · intro y; omega
      · by_cases hL : L = 5
        · subst hL
          rw [if_pos rfl]
          have hw : wwF TB 5 0 s 0 = d0 * 1048576 + d1 * 32768 + d2 * 1024 + d3 * 32 + d4 := by omega
          rw [hw]
          simp only [mtF, Nat.add_zero, Nat.zero_add, Nat.reduceAdd, e0, e1, e2, e3, e4, e5, true_and]
          have cc : wch 3 0 = 97 ∧ wch 3 1 = 102 ∧ wch 3 2 = 116 ∧ wch 3 3 = 101 ∧ wch 3 4 = 114 := ⟨rfl, rfl, rfl, rfl, rfl⟩
          obtain ⟨cc0, cc1, cc2, cc3, cc4⟩ := cc
          constructor
          · intro y
            (repeat' split at y) <;> omega
          · intro y
            (repeat' split) <;> omega
        · rw [if_neg hL]
          constructor
          · intro y; omega
          · intro y
            rcases h with ⟨hL2, h⟩ | ⟨hL2, h⟩ | ⟨hL2, h⟩ | ⟨hL2, h⟩ | ⟨hL2, h⟩ | ⟨hL2, h⟩ <;> omega
    · constructor
      · intro y
        exfalso
        unfold AT at y
        rw [w3] at y
        split at y
        · unfold mtF at y
          split at y
          · have q2 : TB (s + 0) = wch 3 0 := by assumption
            rw [Nat.add_zero, show wch 3 0 = 97 from rfl] at q2
            exact c (srt_1.mpr (by omega))
          · omega
        · omega
      · intro y; exact absurd y.1 c
theorem at_and {s e : Nat} (h : TOK T TB s e) : AT TB 4 s e = 1 ↔ (SO T TB s = 1 ∧ WO T TB s e = 1476) := by
  have w4 : wlen 4 = 3 := rfl
  rcases h with ⟨rfl, rfl⟩ | ⟨h1, h2, h3, h4, h5, h6⟩
  · rw [AT, w4, if_neg (by omega), SO, if_neg (Nat.lt_irrefl _)]
    constructor
    · intro y; omega
    · intro y; omega
  · rw [SO, if_pos h1, WO, if_pos h1]
    by_cases c : srt (TB s) = 1
    · obtain ⟨L, rfl⟩ : ∃ L, e = s + L := ⟨e - s, by omega⟩
      have key := ww_len (TB := TB) (s := s) (L := L) (fun k k1 k2 => (h6 (by omega) k k1 k2).trans c) (by omega)
      rw [c, if_neg (show ¬ (1 : Int) = 3 by omega), if_pos rfl, AT, w4, show s + L - s = L by omega]
      rcases key with ⟨hL, h⟩ | ⟨d0, d1, d2, d3, d4, d5, e0, e1, e2, e3, e4, e5, b0, b1, b2, b3, b4, b5, h⟩
      · rw [h, if_neg (by omega)]
        constructor
        · intro y; omega
        · intro y; omega
      · by_cases hL : L = 3
        · subst hL
          rw [if_pos rfl]
          have hw : wwF TB 3 0 s 0 = d0 * 1024 + d1 * 32 + d2 := by omega
          rw [hw]
          simp only [mtF, Nat.add_zero, Nat.zero_add, Nat.reduceAdd, e0, e1, e2, e3, e4, e5, true_and]
          have cc : wch 4 0 = 97 ∧ wch 4 1 = 110 ∧ wch 4 2 = 100 := ⟨rfl, rfl, rfl⟩
          obtain ⟨cc0, cc1, cc2⟩ := cc
          constructor
          · intro y
            (repeat' split at y) <;> omega
          · intro y
            (repeat' split) <;> omega
        · rw [if_neg hL]
          constructor
          · intro y; omega
          · intro y
            rcases h with ⟨hL2, h⟩ | ⟨hL2, h⟩ | ⟨hL2, h⟩ | ⟨hL2, h⟩ | ⟨hL2, h⟩ | ⟨hL2, h⟩ <;> omega
    · constructor
      · intro y
        exfalso
        unfold AT at y
        rw [w4] at y
        split at y
        · unfold mtF at y
          split at y
          · have q2 : TB (s + 0) = wch 4 0 := by assumption
            rw [Nat.add_zero, show wch 4 0 = 97 from rfl] at q2
            exact c (srt_1.mpr (by omega))
          · omega
        · omega
      · intro y; exact absurd y.1 c
theorem at_with {s e : Nat} (h : TOK T TB s e) : AT TB 5 s e = 1 ↔ (SO T TB s = 1 ∧ WO T TB s e = 763528) := by
  have w5 : wlen 5 = 4 := rfl
  rcases h with ⟨rfl, rfl⟩ | ⟨h1, h2, h3, h4, h5, h6⟩
  · rw [AT, w5, if_neg (by omega), SO, if_neg (Nat.lt_irrefl _)]
    constructor
    · intro y; omega
    · intro y; omega
  · rw [SO, if_pos h1, WO, if_pos h1]
    by_cases c : srt (TB s) = 1
    · obtain ⟨L, rfl⟩ : ∃ L, e = s + L := ⟨e - s, by omega⟩
      have key := ww_len (TB := TB) (s := s) (L := L) (fun k k1 k2 => (h6 (by omega) k k1 k2).trans c) (by omega)
      rw [c, if_neg (show ¬ (1 : Int) = 3 by omega), if_pos rfl, AT, w5, show s + L - s = L by omega]
      rcases key with ⟨hL, h⟩ | ⟨d0, d1, d2, d3, d4, d5, e0, e1, e2, e3, e4, e5, b0, b1, b2, b3, b4, b5, h⟩
      · rw [h, if_neg (by omega)]
        constructor
        · intro y; omega
        · intro y; omega
      · by_cases hL : L = 4
        · subst hL
          rw [if_pos rfl]
          have hw : wwF TB 4 0 s 0 = d0 * 32768 + d1 * 1024 + d2 * 32 + d3 := by omega
          rw [hw]
          simp only [mtF, Nat.add_zero, Nat.zero_add, Nat.reduceAdd, e0, e1, e2, e3, e4, e5, true_and]
          have cc : wch 5 0 = 119 ∧ wch 5 1 = 105 ∧ wch 5 2 = 116 ∧ wch 5 3 = 104 := ⟨rfl, rfl, rfl, rfl⟩
          obtain ⟨cc0, cc1, cc2, cc3⟩ := cc
          constructor
          · intro y
            (repeat' split at y) <;> omega
          · intro y
            (repeat' split) <;> omega
        · rw [if_neg hL]
          constructor
          · intro y; omega
          · intro y
            rcases h with ⟨hL2, h⟩ | ⟨hL2, h⟩ | ⟨hL2, h⟩ | ⟨hL2, h⟩ | ⟨hL2, h⟩ | ⟨hL2, h⟩ <;> omega
    · constructor
      · intro y
        exfalso
        unfold AT at y
        rw [w5] at y
        split at y
        · unfold mtF at y
          split at y
          · have q2 : TB (s + 0) = wch 5 0 := by assumption
            rw [Nat.add_zero, show wch 5 0 = 119 from rfl] at q2
            exact c (srt_1.mpr (by omega))
          · omega
        · omega
      · intro y; exact absurd y.1 c
theorem at_sign {s e : Nat} (h : TOK T TB s e) : AT TB 1 s e = 1 ↔ (SO T TB s = 3 ∧ WO T TB s e = 59) := by
  have w1 : wlen 1 = 1 := rfl
  have c1 : wch 1 0 = 59 := rfl
  rcases h with ⟨rfl, rfl⟩ | ⟨h1, h2, h3, h4, h5, h6⟩
  · rw [AT, w1, if_neg (by omega), SO, if_neg (Nat.lt_irrefl _)]
    constructor
    · intro y; omega
    · intro y; omega
  · rw [SO, if_pos h1, WO, if_pos h1, AT, w1]
    have m1 : mtF TB 1 s 1 0 = if TB s = 59 then 1 else 0 := by
      unfold mtF
      rw [Nat.add_zero, c1]
      rfl
    by_cases c : srt (TB s) = 3
    · have := h5 c
      rw [if_pos (show e - s = 1 by omega), m1, c, if_pos rfl]
      constructor
      · intro y
        split at y
        · exact ⟨rfl, by assumption⟩
        · omega
      · intro y
        rw [if_pos y.2]
    · constructor
      · intro y
        exfalso
        split at y
        · rw [m1] at y
          split at y
          · rename_i q
            rw [q] at c
            exact c (by decide)
          · omega
        · omega
      · intro y; exact absurd y.1 c
/-- the class' value of digits -/
def nuF (TB : F1) : Nat → Nat → Int → Int
  | 0, _, v => v
  | d + 1, i, v => nuF TB d (i + 1) (if 1000 < v * 10 + TB i - 48 then 1000 else v * 10 + TB i - 48)
def NU (T : Nat) (TB : F1) (s e : Nat) : Int := if s < T ∧ srt (TB s) = 2 then nuF TB (e - s) s 0 else -1
theorem nu_dw : ∀ (d i : Nat) (w v : Int), (∀ k : Nat, i ≤ k → k < i + d → srt (TB k) = 2) → 0 ≤ w → w ≤ 20000 → (w ≤ 1000 ∧ v = w ∨ 1000 < w ∧ v = 1000) → 0 ≤ dwF TB d i w ∧ dwF TB d i w ≤ 20000 ∧ (dwF TB d i w ≤ 1000 ∧ nuF TB d i v = dwF TB d i w ∨ 1000 < dwF TB d i w ∧ nuF TB d i v = 1000)
  | 0, i, w, v, _, h0, h1, h => ⟨h0, h1, h⟩
  | d + 1, i, w, v, hl, h0, h1, h => by
    have b := srt_2.mp (hl i (Nat.le_refl i) (by omega))
    unfold dwF nuF
    refine nu_dw d (i + 1) _ _ (fun k k1 k2 => hl k (by omega) (by omega)) ?_ ?_ ?_
    · split <;> omega
    · split <;> omega
    · by_cases c : 1000 < w
      · rw [if_pos c, if_pos (by omega)]; omega
      · rw [if_neg c]
        split <;> omega
theorem WO_dig {s e : Nat} (h : TOK T TB s e) (hs : SO T TB s = 2) : 0 ≤ WO T TB s e ∧ WO T TB s e ≤ 20000 ∧ (WO T TB s e ≤ 1000 ∧ NU T TB s e = WO T TB s e ∨ 1000 < WO T TB s e ∧ NU T TB s e = 1000) := by
  unfold SO at hs
  split at hs
  · rename_i c
    rcases h with ⟨rfl, rfl⟩ | ⟨h1, h2, h3, h4, h5, h6⟩
    · omega
    · rw [WO, if_pos c, hs, if_neg (show ¬ (2 : Int) = 3 by omega), if_neg (show ¬ (2 : Int) = 1 by omega), NU, if_pos ⟨c, hs⟩]
      exact nu_dw (e - s) s 0 0 (fun k k1 k2 => (h6 (by omega) k k1 (by omega)).trans hs) (by omega) (by omega) (Or.inl ⟨by omega, rfl⟩)
  · omega
theorem NU_no {s e : Nat} (hs : SO T TB s ≠ 2) : NU T TB s e = -1 := by
  unfold NU
  refine if_neg fun y => hs ?_
  rw [SO, if_pos y.1]
  exact y.2
theorem SO_in (s : Nat) : 0 ≤ SO T TB s ∧ SO T TB s ≤ 3 := by
  unfold SO
  have := srt_in (TB s)
  split <;> omega
theorem WO_in (hB : TBV TB) {s e : Nat} (h : TOK T TB s e) : -1 ≤ WO T TB s e ∧ WO T TB s e ≤ 1073741823 := by
  by_cases c : SO T TB s = 2
  · have := WO_dig h c
    omega
  · unfold WO
    unfold SO at c
    split
    · rename_i q
      rw [if_pos q] at c
      rcases h with ⟨rfl, rfl⟩ | ⟨h1, h2, h3, h4, h5, h6⟩
      · omega
      · have r := hB s
        have rs := srt_in (TB s)
        split
        · omega
        · split
          · rename_i q2 q3
            exact ww_in (fun k k1 k2 => (h6 q2 k k1 (by omega)).trans q3) (by omega)
          · omega
    · omega
theorem value_go (hB : TBV TB) {e : Nat} (he : e ≤ 400) : ∀ (d i m : Nat) (v : Int), i + d = e → d < m → 0 ≤ v → v ≤ 1000 → (∀ k : Nat, i ≤ k → k < e → srt (TB k) = 2) → mX6_number_L34 (iI (e : Int)) (iF TB) m (iI v) (iI (i : Int)) = some (iI (nuF TB d i v)) := by
  intro d
  induction d with
  | zero =>
    intro i m v hi hm v0 v1 hl
    obtain ⟨m, rfl⟩ : ∃ a, m = a + 1 := ⟨m - 1, by omega⟩
    rw [mX6_number_L34, if_pos ((iI_le (by omega) (by omega) (by omega) (by omega)).mpr (by omega))]
    rfl
  | succ d ih =>
    intro i m v hi hm v0 v1 hl
    obtain ⟨m, rfl⟩ : ∃ a, m = a + 1 := ⟨m - 1, by omega⟩
    have ii : (i : Int).toNat = i := by omega
    have b := srt_2.mp (hl i (Nat.le_refl i) (by omega))
    rw [mX6_number_L34, if_neg (fun k => by have := (iI_le (by omega) (by omega) (by omega) (by omega)).mp k; omega), at_iI (by omega) (by omega) (by omega), at_in (by omega) (by omega), ii, iI_mul, iI_add, iI_sub, iI_add, nuF]
    by_cases c : 1000 < v * 10 + TB i - 48
    · rw [if_pos ((iI_lt (by omega) (by omega) (by omega) (by omega)).mpr c), if_pos c]
      exact ih (i + 1) m 1000 (by omega) (by omega) (by omega) (by omega) fun k k1 k2 => hl k (by omega) k2
    · rw [if_neg (fun y => c ((iI_lt (by omega) (by omega) (by omega) (by omega)).mp y)), if_neg c]
      exact ih (i + 1) m _ (by omega) (by omega) (by omega) (by omega) fun k k1 k2 => hl k (by omega) k2
theorem number_iI (hB : TBV TB) (hT : T ≤ 400) {s e : Nat} (h : TOK T TB s e) : mX6_number (iI (T : Int)) (iI (s : Int)) (iI (e : Int)) (iF TB) = some (iI (NU T TB s e)) := by
  have hkF := kF_ge
  obtain ⟨l1, l2, l3⟩ := h.le
  have e0 : iI 0 = 0 := rfl
  have e1 : ¬ iI 1 = 0 := by decide
  have ss : (s : Int).toNat = s := by omega
  rw [mX6_number, mX6_isAtEnd]
  by_cases c : s < T
  · have r := hB s
    have rs := srt_in (TB s)
    rw [if_pos ((iI_lt (by omega) (by omega) (by omega) (by omega)).mpr (by omega)), if_pos e0, at_iI (by omega) (by omega) (by omega), at_in (by omega) (by omega), ss, sortOf_iI (by omega)]
    by_cases q : srt (TB s) = 2
    · rcases h with ⟨rfl, rfl⟩ | ⟨h1, h2, h3, h4, h5, h6⟩
      · omega
      · rw [if_pos (by rw [q]), NU, if_pos ⟨c, q⟩]
        exact value_go hB (by omega) (e - s) s kF 0 (by omega) (by omega) (by omega) (by omega) fun k k1 k2 => (h6 (by omega) k k1 k2).trans q
    · rw [if_neg (fun y => q ((iI_eq (by omega) (by omega) (by omega) (by omega)).mp y)), NU, if_neg (fun y => q y.2)]
  · rw [if_neg (show ¬ iI (s : Int) < iI (T : Int) from fun y => by have := (iI_lt (by omega) (by omega) (by omega) (by omega)).mp y; omega), if_neg e1, NU, if_neg (fun y => c y.1)]
end WD
