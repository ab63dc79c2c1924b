/-! ORDERS: one order, as both read it -/
section OD
variable {T : Nat} {TB : F1}
theorem n10 : ¬ iI 1 = 0 := by decide
theorem isWord_some (a b c d e so : Int32) (w : Int64) : ∃ o : Int32, mX10_isWord a b c d e so w = some o := by
  unfold mX10_isWord mX10_isWord_J41 mX10_isWord_J67
  (repeat' split) <;> exact ⟨_, rfl⟩
theorem must_bad {p tp fr to so F : Int32} {w : Int64} {tb : Nat → Int32} : mX10_must p tp fr to so w F (iI 1) tb = some (fr, to, so, w, F, iI 1) := by
  rw [mX10_must, if_neg n10, if_neg n10]
theorem must_no {tp fr to so F : Int32} {w : Int64} {tb : Nat → Int32} : mX10_must (iI 0) tp fr to so w F (iI 0) tb = some (fr, to, so, w, fr, iI 1) := by
  rw [mX10_must, if_pos z00, if_pos z00]
theorem must_ok (hT : T ≤ 400) (hB : TBV TB) {fr so F : Int32} {w : Int64} {e : Nat} (he : e ≤ T) : mX10_must (iI 1) (iI (T : Int)) fr (iI (e : Int)) so w F (iI 0) (iF TB) = some (iI ((NS T TB e : Nat) : Int), iI ((NE T TB e : Nat) : Int), iI (SO T TB (NS T TB e)), lI (WO T TB (NS T TB e) (NE T TB e)), F, iI 0) := by
  rw [mX10_must, if_pos z00, if_neg n10, if_pos z00, next10 hT hB so he]
  rfl
theorem num_bad {a b : Int64} {tp fr to so F : Int32} {w : Int64} {tb : Nat → Int32} : mX10_number a b tp fr to so w F (iI 1) tb = some (Int64.toInt32 w, fr, to, so, w, F, iI 1) := by
  rw [mX10_number, must_bad, must_bad]
  (repeat' split) <;> rfl
theorem num_tok (hT : T ≤ 400) (hB : TBV TB) {F : Int32} {s e : Nat} (h : TOK T TB s e) {a b : Int} (ha : 0 ≤ a ∧ a ≤ 1000) (hb : 0 ≤ b ∧ b ≤ 1000) : mX10_number (lI a) (lI b) (iI (T : Int)) (iI (s : Int)) (iI (e : Int)) (iI (SO T TB s)) (lI (WO T TB s e)) F (iI 0) (iF TB) = if SO T TB s = 2 ∧ a ≤ WO T TB s e ∧ WO T TB s e ≤ b then some (iI (WO T TB s e), iI ((NS T TB e : Nat) : Int), iI ((NE T TB e : Nat) : Int), iI (SO T TB (NS T TB e)), lI (WO T TB (NS T TB e) (NE T TB e)), F, iI 0) else some (iI (WO T TB s e), iI (s : Int), iI (e : Int), iI (SO T TB s), lI (WO T TB s e), iI (s : Int), iI 1) := by
  have rs := SO_in (T := T) (TB := TB) s
  have rw2 := WO_in hB h
  rw [mX10_number, must_no, must_ok hT hB h.le.2.1, lI_i]
  by_cases c : SO T TB s = 2
  · rw [if_pos (by rw [c])]
    by_cases d : a ≤ WO T TB s e ∧ WO T TB s e ≤ b
    · rw [if_neg (fun y => (in0 (by omega) (by omega) (by omega) (by omega) (by omega) (by omega)).mp y d), if_pos ⟨c, d⟩]
      rfl
    · rw [if_pos ((in0 (by omega) (by omega) (by omega) (by omega) (by omega) (by omega)).mpr d), if_neg (fun y => d y.2)]
      rfl
  · rw [if_neg (fun y => c ((iI_eq (by omega) (by omega) (by omega) (by omega)).mp y)), if_neg (fun y => c y.1)]
    rfl
/-- the texts of words, on the other side -/
theorem isW {so w a b c d e V : Int} (hs : 0 ≤ so ∧ so ≤ 3) (hw : -1 ≤ w ∧ w ≤ 1073741823) (hV : -1 ≤ V ∧ V ≤ 1073741823) (he : ∀ (s : Int32) (x : Int64), mX10_isWord (iI a) (iI b) (iI c) (iI d) (iI e) s x = (if s = iI 1 then (if (lg_cmp x (lI V)) = 0 then some (iI 1) else some (iI 0)) else some (iI 0))) : mX10_isWord (iI a) (iI b) (iI c) (iI d) (iI e) (iI so) (lI w) = some (iI (if so = 1 ∧ w = V then 1 else 0)) := by
  rw [he]
  by_cases q : so = 1
  · rw [if_pos (by rw [q])]
    by_cases q2 : w = V
    · rw [if_pos ((lg_cmp_eq _ _).mpr (by rw [q2])), if_pos ⟨q, q2⟩]
    · rw [if_neg (fun y => q2 ((lI_eq (by omega) (by omega) (by omega) (by omega)).mp ((lg_cmp_eq _ _).mp y))), if_neg (fun y => q2 y.2)]
  · rw [if_neg (fun y => q ((iI_eq (by omega) (by omega) (by omega) (by omega)).mp y)), if_neg (fun y => q y.1)]
theorem AT_if {i s e : Nat} {P : Prop} [Decidable P] (h : AT TB i s e = 1 ↔ P) : (if P then (1 : Int) else 0) = AT TB i s e := by
  by_cases c : P
  · rw [if_pos c, h.mpr c]
  · rw [if_neg c]
    rcases AT_in (TB := TB) i s e with q | q
    · exact q.symm
    · exact absurd (h.mp q) c
theorem isW_line (hB : TBV TB) {s e : Nat} (h : TOK T TB s e) : mX10_isWord (iI 108) (iI 105) (iI 110) (iI 101) (iI 0) (iI (SO T TB s)) (lI (WO T TB s e)) = some (iI (AT TB 0 s e)) := by
  rw [← AT_if (at_line h)]
  refine isW (V := 402885) (SO_in s) (WO_in hB h) (by omega) fun a b => ?_
  rw [mX10_isWord, if_neg (by decide), mX10_isWord_J41, if_neg (by decide), mX10_isWord_J67, if_pos z00]
  simp (disch := omega) only [iI_l, lI_sub, lI_mul, lI_add]
  rfl
theorem isW_at (hB : TBV TB) {s e : Nat} (h : TOK T TB s e) : mX10_isWord (iI 97) (iI 116) (iI 0) (iI 0) (iI 0) (iI (SO T TB s)) (lI (WO T TB s e)) = some (iI (AT TB 2 s e)) := by
  rw [← AT_if (at_at h)]
  refine isW (V := 52) (SO_in s) (WO_in hB h) (by omega) fun a b => ?_
  rw [mX10_isWord, if_pos z00, mX10_isWord_J41, if_pos z00, mX10_isWord_J67, if_pos z00]
  simp (disch := omega) only [iI_l, lI_sub, lI_mul, lI_add]
  rfl
theorem isW_after (hB : TBV TB) {s e : Nat} (h : TOK T TB s e) : mX10_isWord (iI 97) (iI 102) (iI 116) (iI 101) (iI 114) (iI (SO T TB s)) (lI (WO T TB s e)) = some (iI (AT TB 3 s e)) := by
  rw [← AT_if (at_after h)]
  refine isW (V := 1265842) (SO_in s) (WO_in hB h) (by omega) fun a b => ?_
  rw [mX10_isWord, if_neg (by decide), mX10_isWord_J41, if_neg (by decide), mX10_isWord_J67, if_neg (by decide)]
  simp (disch := omega) only [iI_l, lI_sub, lI_mul, lI_add]
  rfl
theorem isW_and (hB : TBV TB) {s e : Nat} (h : TOK T TB s e) : mX10_isWord (iI 97) (iI 110) (iI 100) (iI 0) (iI 0) (iI (SO T TB s)) (lI (WO T TB s e)) = some (iI (AT TB 4 s e)) := by
  rw [← AT_if (at_and h)]
  refine isW (V := 1476) (SO_in s) (WO_in hB h) (by omega) fun a b => ?_
  rw [mX10_isWord, if_neg (by decide), mX10_isWord_J41, if_pos z00, mX10_isWord_J67, if_pos z00]
  simp (disch := omega) only [iI_l, lI_sub, lI_mul, lI_add]
  rfl
theorem isW_with (hB : TBV TB) {s e : Nat} (h : TOK T TB s e) : mX10_isWord (iI 119) (iI 105) (iI 116) (iI 104) (iI 0) (iI (SO T TB s)) (lI (WO T TB s e)) = some (iI (AT TB 5 s e)) := by
  rw [← AT_if (at_with h)]
  refine isW (V := 763528) (SO_in s) (WO_in hB h) (by omega) fun a b => ?_
  rw [mX10_isWord, if_neg (by decide), mX10_isWord_J41, if_neg (by decide), mX10_isWord_J67, if_pos z00]
  simp (disch := omega) only [iI_l, lI_sub, lI_mul, lI_add]
  rfl
/-- the class takes a word, a number -/
theorem take2 (hT : T ≤ 400) (hB : TBV TB) {i s e : Nat} (hi : i < 6) (h : TOK T TB s e) : mX6_take i (iI (T : Int)) (iI (s : Int)) (iI (e : Int)) (iF TB) = if AT TB i s e = 1 then some (iI 1, iI ((NS T TB e : Nat) : Int), iI ((NE T TB e : Nat) : Int)) else some (iI 0, iI (s : Int), iI (e : Int)) := by
  rw [mX6_take, atWord_iI hB hT hi h]
  simp only [Option.bind_some]
  rcases AT_in (TB := TB) i s e with q | q
  · rw [q, if_pos z00, if_neg (by omega)]
  · rw [q, if_neg n10, if_pos rfl, next2 hT hB h.le.2.1]
    rfl
theorem takeNum2 (hT : T ≤ 400) (hB : TBV TB) {s e : Nat} (h : TOK T TB s e) {a b : Int} (ha : 0 ≤ a ∧ a ≤ 999) (hb : 0 ≤ b ∧ b ≤ 999) : mX6_takeNumber (iI a) (iI b) (iI (T : Int)) (iI (s : Int)) (iI (e : Int)) (iF TB) = if SO T TB s = 2 ∧ a ≤ WO T TB s e ∧ WO T TB s e ≤ b then some (iI (WO T TB s e), iI ((NS T TB e : Nat) : Int), iI ((NE T TB e : Nat) : Int)) else some (iI (-1), iI (s : Int), iI (e : Int)) := by
  rw [mX6_takeNumber, number_iI hB hT h]
  simp only [Option.bind_some]
  by_cases c : SO T TB s = 2
  · have r := WO_dig h c
    by_cases d : a ≤ WO T TB s e ∧ WO T TB s e ≤ b
    · rw [if_neg (fun y => (within0 (by omega) (by omega) (by omega) (by omega) (by omega) (by omega)).mp y ⟨by omega, by omega⟩), if_pos ⟨c, d⟩, next2 hT hB h.le.2.1, show NU T TB s e = WO T TB s e by omega]
      rfl
    · rw [if_pos ((within0 (by omega) (by omega) (by omega) (by omega) (by omega) (by omega)).mpr (fun y => d ⟨by omega, by omega⟩)), if_neg (fun y => d y.2)]
  · have r := NU_no (T := T) (TB := TB) (e := e) c
    rw [r, if_pos ((within0 (by omega) (by omega) (by omega) (by omega) (by omega) (by omega)).mpr (fun y => by omega)), if_neg (fun y => c y.1)]
/-- once bad, all stays -/
theorem has_some {no : Int} (hn : 0 ≤ no ∧ no ≤ 30) (w : Int64) (NOr : Nat → Int32) : ∃ o : Int32, mX10_hasOrder w (iI no) NOr = some o := by
  have hkF := kF_ge
  have go : ∀ (d k m : Nat) (v : Int32), (k : Int) + d = no → d < m → ∃ o : Int32, mX10_hasOrder_L5 w (iI no) NOr m v (iI (k : Int)) = some o := by
    intro d
    induction d with
    | zero =>
      intro k m v hk hm
      obtain ⟨m, rfl⟩ : ∃ a, m = a + 1 := ⟨m - 1, by omega⟩
      exact ⟨v, by rw [mX10_hasOrder_L5, if_pos ((iI_le (by omega) (by omega) (by omega) (by omega)).mpr (by omega))]⟩
    | succ d ih =>
      intro k m v hk hm
      obtain ⟨m, rfl⟩ : ∃ a, m = a + 1 := ⟨m - 1, by omega⟩
      have g := gdn (z := 4 * (k : Int)) (n := 120) (by omega) (by omega) (by omega)
      rw [mX10_hasOrder_L5, if_neg (fun k => by have := (iI_le (by omega) (by omega) (by omega) (by omega)).mp k; omega), iI_mul, if_neg g, iI_add]
      (repeat' split) <;> exact ih (k + 1) m _ (by omega) (by omega)
  exact go no.toNat 0 kF (iI 0) (by omega) (by omega)
theorem J211_bad {tp v1 v3 v4 nm fr to so F : Int32} {w : Int64} {tb NOr : Nat → Int32} : mX10_readOrder_J211 tp tb v1 v3 v4 nm fr to so w F (iI 1) NOr = some (nm, fr, to, so, w, F, iI 1, NOr) := by
  obtain ⟨o, ho⟩ := isWord_some (iI 119) (iI 105) (iI 116) (iI 104) (iI 0) so w
  rw [mX10_readOrder_J211, ho]
  simp only [Option.bind_some]
  rw [must_bad]
  simp only [Option.bind_some]
  rw [num_bad]
  simp only [Option.bind_some]
  rw [if_neg n10]
theorem J172_bad {tp s1 v1 v3 v4 nm fr to so F : Int32} {w : Int64} {tb NOr : Nat → Int32} : mX10_readOrder_J172 tp tb s1 v1 v3 v4 nm fr to so w F (iI 1) NOr = some (nm, fr, to, so, w, F, iI 1, NOr) := by
  rw [mX10_readOrder_J172, must_bad]
  simp only [Option.bind_some]
  rw [if_neg n10]
  exact J211_bad
theorem J172_no {tp v1 v3 v4 nm fr to so F : Int32} {w : Int64} {tb NOr : Nat → Int32} : mX10_readOrder_J172 tp tb (iI 0) v1 v3 v4 nm fr to so w F (iI 0) NOr = some (nm, fr, to, so, w, fr, iI 1, NOr) := by
  rw [mX10_readOrder_J172, must_no]
  simp only [Option.bind_some]
  rw [if_neg n10]
  exact J211_bad
section
variable {no : Int} (hn : 0 ≤ no ∧ no ≤ 30)
theorem J103_bad (hn : 0 ≤ no ∧ no ≤ 30) {ln tp s1 v1 v2 fr to so F : Int32} {w : Int64} {tb NOr : Nat → Int32} : mX10_readOrder_J103 ln tp tb s1 v1 v2 (iI no) fr to so w F (iI 1) NOr = some (iI no, fr, to, so, w, F, iI 1, NOr) := by
  obtain ⟨o, ho⟩ := has_some hn w NOr
  rw [mX10_readOrder_J103, must_bad]
  simp only [Option.bind_some]
  rw [ho, num_bad]
  simp only [Option.bind_some]
  rw [J211_bad, J172_bad, J172_bad]
  (repeat' split) <;> rfl
theorem J103_no (hn : 0 ≤ no ∧ no ≤ 30) {ln tp v1 v2 fr to so F : Int32} {w : Int64} {tb NOr : Nat → Int32} : mX10_readOrder_J103 ln tp tb (iI 0) v1 v2 (iI no) fr to so w F (iI 0) NOr = some (iI no, fr, to, so, w, fr, iI 1, NOr) := by
  obtain ⟨o, ho⟩ := has_some hn w NOr
  rw [mX10_readOrder_J103, must_no]
  simp only [Option.bind_some]
  rw [ho, num_bad]
  simp only [Option.bind_some]
  rw [J211_bad, J172_bad, J172_bad]
  (repeat' split) <;> rfl
theorem J61_bad (hn : 0 ≤ no ∧ no ≤ 30) {ln tp s1 v1 fr to so F : Int32} {w : Int64} {tb NOr : Nat → Int32} : mX10_readOrder_J61 ln tp tb s1 v1 (iI no) fr to so w F (iI 1) NOr = some (iI no, fr, to, so, w, F, iI 1, NOr) := by
  obtain ⟨o, ho⟩ := isWord_some (iI 97) (iI 116) (iI 0) (iI 0) (iI 0) so w
  obtain ⟨o2, ho2⟩ := isWord_some (iI 97) (iI 102) (iI 116) (iI 101) (iI 114) so w
  rw [mX10_readOrder_J61, must_bad]
  simp only [Option.bind_some]
  rw [ho, ho2]
  simp only [Option.bind_some]
  rw [J103_bad hn, J103_bad hn]
  (repeat' split) <;> rfl
theorem J61_no (hn : 0 ≤ no ∧ no ≤ 30) {ln tp v1 fr to so F : Int32} {w : Int64} {tb NOr : Nat → Int32} : mX10_readOrder_J61 ln tp tb (iI 0) v1 (iI no) fr to so w F (iI 0) NOr = some (iI no, fr, to, so, w, fr, iI 1, NOr) := by
  obtain ⟨o, ho⟩ := isWord_some (iI 97) (iI 116) (iI 0) (iI 0) (iI 0) so w
  obtain ⟨o2, ho2⟩ := isWord_some (iI 97) (iI 102) (iI 116) (iI 101) (iI 114) so w
  rw [mX10_readOrder_J61, must_no]
  simp only [Option.bind_some]
  rw [ho, ho2]
  simp only [Option.bind_some]
  rw [J103_bad hn, J103_bad hn]
  (repeat' split) <;> rfl
end
/-- which lines have an order in the draft, on both sides -/
def HA (no : Int) (oL : F1) (z : Int) : Prop := ∃ k : Nat, (k : Int) < no ∧ oL k = z
def DR (n no : Int) (oL af hr wi NO : F1) : Prop := PV n no oL af hr wi ∧ ∀ k : Nat, (k : Int) < no → NO (4 * k) = oL k ∧ NO (4 * k + 1) = af (oL k).toNat ∧ NO (4 * k + 2) = hr (oL k).toNat ∧ NO (4 * k + 3) = wi (oL k).toNat
variable {n no : Int} {oL af hr wi NO : F1}
theorem has10 (h : DR n no oL af hr wi NO) (hn : n ≤ 30) {z : Int} (hz : -1 ≤ z ∧ z ≤ 1073741823) : (HA no oL z ∧ mX10_hasOrder (lI z) (iI no) (iF NO) = some (iI 1)) ∨ (¬ HA no oL z ∧ mX10_hasOrder (lI z) (iI no) (iF NO) = some (iI 0)) := by
  have hkF := kF_ge
  have h0 := h.1.1
  have h30 := h.1.2.1
  have go : ∀ (d k m : Nat) (v : Int), (k : Int) + d = no → d < m → (v = 0 ∨ v = 1) → ((v = 1 ∨ ∃ j : Nat, k ≤ j ∧ (j : Int) < no ∧ oL j = z) ∧ mX10_hasOrder_L5 (lI z) (iI no) (iF NO) m (iI v) (iI (k : Int)) = some (iI 1)) ∨ (¬ (v = 1 ∨ ∃ j : Nat, k ≤ j ∧ (j : Int) < no ∧ oL j = z) ∧ mX10_hasOrder_L5 (lI z) (iI no) (iF NO) m (iI v) (iI (k : Int)) = some (iI 0)) := by
    intro d
    induction d with
    | zero =>
      intro k m v hk hm hv
      obtain ⟨m, rfl⟩ : ∃ a, m = a + 1 := ⟨m - 1, by omega⟩
      rw [mX10_hasOrder_L5, if_pos ((iI_le (by omega) (by omega) (by omega) (by omega)).mpr (by omega))]
      rcases hv with rfl | rfl
      · refine Or.inr ⟨?_, rfl⟩
        rintro (y | ⟨j, j1, j2, -⟩)
        · omega
        · omega
      · exact Or.inl ⟨Or.inl rfl, rfl⟩
    | succ d ih =>
      intro k m v hk hm hv
      obtain ⟨m, rfl⟩ : ∃ a, m = a + 1 := ⟨m - 1, by omega⟩
      have g := gdn (z := 4 * (k : Int)) (n := 120) (by omega) (by omega) (by omega)
      have ek : (4 * (k : Int)).toNat = 4 * k := by omega
      have ro := h.1.2.2.1 k (by omega)
      have e4 := (h.2 k (by omega)).1
      rw [mX10_hasOrder_L5, if_neg (fun k => by have := (iI_le (by omega) (by omega) (by omega) (by omega)).mp k; omega), iI_mul, if_neg g, iI_add, rd (by omega) (by omega), ek, e4, iI_l (by omega) (by omega)]
      rcases hv with rfl | rfl
      · rw [if_pos z00]
        by_cases q : oL k = z
        · rw [if_pos ((lg_cmp_eq _ _).mpr (by rw [q]))]
          rcases ih (k + 1) m 1 (by omega) (by omega) (Or.inr rfl) with ⟨y1, y2⟩ | ⟨y1, y2⟩
          · exact Or.inl ⟨Or.inr ⟨k, Nat.le_refl k, by omega, q⟩, y2⟩
          · exact absurd (Or.inl rfl) y1
        · rw [if_neg (fun y => q ((lI_eq (by omega) (by omega) (by omega) (by omega)).mp ((lg_cmp_eq _ _).mp y)))]
          rcases ih (k + 1) m 0 (by omega) (by omega) (Or.inl rfl) with ⟨y1, y2⟩ | ⟨y1, y2⟩
          · refine Or.inl ⟨?_, y2⟩
            rcases y1 with y1 | ⟨j, j1, j2, j3⟩
            · omega
            · exact Or.inr ⟨j, by omega, j2, j3⟩
          · refine Or.inr ⟨?_, y2⟩
            rintro (y | ⟨j, j1, j2, j3⟩)
            · omega
            · by_cases c : j = k
              · rw [c] at j3; exact q j3
              · exact y1 (Or.inr ⟨j, by omega, j2, j3⟩)
      · rw [if_neg n10]
        rcases ih (k + 1) m 1 (by omega) (by omega) (Or.inr rfl) with ⟨y1, y2⟩ | ⟨y1, y2⟩
        · exact Or.inl ⟨Or.inl rfl, y2⟩
        · exact absurd (Or.inl rfl) y1
  rw [mX10_hasOrder]
  rcases go no.toNat 0 kF 0 (by omega) (by omega) (Or.inl rfl) with ⟨y1, y2⟩ | ⟨y1, y2⟩
  · refine Or.inl ⟨?_, y2⟩
    rcases y1 with y1 | ⟨j, j1, j2, j3⟩
    · omega
    · exact ⟨j, j2, j3⟩
  · refine Or.inr ⟨?_, y2⟩
    rintro ⟨j, j2, j3⟩
    exact y1 (Or.inr ⟨j, Nat.zero_le j, j2, j3⟩)
theorem has2 (h : PV n no oL af hr wi) (hn : n ≤ 30) {z : Int} (hz : -1 ≤ z ∧ z ≤ 1000) : (HA no oL z ∧ mX2_hasOrder (iI z) (iF wi) = iI 1) ∨ (¬ HA no oL z ∧ mX2_hasOrder (iI z) (iF wi) = iI 0) := by
  rw [mX2_hasOrder, at_iI (by omega) (by omega) (by omega)]
  by_cases c : HA no oL z
  · refine Or.inl ⟨c, ?_⟩
    obtain ⟨k, hk, rfl⟩ := c
    have ro := h.2.2.1 k hk
    rw [at_in (by omega) (by omega), if_neg (fun y => by
      have r : wi (oL k).toNat ≤ 99 := ro.2.2.2.2.2.1
      have := (iI_le0 (by omega) (by omega)).mp y
      omega)]
  · refine Or.inr ⟨c, ?_⟩
    by_cases q : 0 ≤ z ∧ z < 30
    · have w0 : wi z.toNat = 0 := h.2.2.2 z.toNat (by omega) fun k hk e => c ⟨k, hk, by omega⟩
      rw [at_in (by omega) (by omega), w0, if_pos (by decide)]
    · rw [atI, if_neg (show ¬ (0 ≤ z ∧ z < ((30 : Nat) : Int)) by omega), if_pos (by decide)]
end OD
