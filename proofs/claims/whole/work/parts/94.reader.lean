/-! ORDERS: line, start and gangs of one order -/
section RD3
variable {T : Nat} {TB : F1} {n no : Int} {oL af hr wi NO : F1}
/-- a text that is bad at p, as the reference leaves it -/
def BADR (no : Int) (NO : F1) (p : Nat) (x : Option (Int32 × Int32 × Int32 × Int32 × Int64 × Int32 × Int32 × (Nat → Int32))) : Prop := ∃ (fr to so : Int32) (w : Int64), x = some (iI no, fr, to, so, w, iI (p : Int), iI 1, iF NO)
theorem line_two (hT : T ≤ 400) (hB : TBV TB) (hn : 0 ≤ n ∧ n ≤ 30) (hd : DR n no oL af hr wi NO) {s e : Nat} (h : TOK T TB s e) (tl F : Int32) :
    (∃ (x y : Int32) (p : Nat), p ≤ T ∧ mX4_readLine tl (iI (T : Int)) (iI (s : Int)) (iI (e : Int)) (iF TB) (iI n) (iF wi) = some (iI 0, x, iI (p : Int), y) ∧ BADR no NO p (mX10_readOrder (iI n) (iI no) (iI (T : Int)) (iI (s : Int)) (iI (e : Int)) (iI (SO T TB s)) (lI (WO T TB s e)) F (iI 0) (iF NO) (iF TB))) ∨
    (∃ (l : Int) (s0 e0 : Nat), TOK T TB s0 e0 ∧ 0 ≤ l ∧ l < n ∧ ¬ HA no oL l ∧ mX4_readLine tl (iI (T : Int)) (iI (s : Int)) (iI (e : Int)) (iF TB) (iI n) (iF wi) = some (iI 1, iI l, iI ((NS T TB e0 : Nat) : Int), iI ((NE T TB e0 : Nat) : Int)) ∧ mX10_readOrder (iI n) (iI no) (iI (T : Int)) (iI (s : Int)) (iI (e : Int)) (iI (SO T TB s)) (lI (WO T TB s e)) F (iI 0) (iF NO) (iF TB) = mX10_readOrder_J61 (iI n) (iI (T : Int)) (iF TB) (iI 1) (iI l) (iI no) (iI (s0 : Int)) (iI (e0 : Int)) (iI (SO T TB s0)) (lI (WO T TB s0 e0)) F (iI 0) (iF NO)) := by
  have hno : 0 ≤ no ∧ no ≤ 30 := ⟨hd.1.1, hd.1.2.1⟩
  rw [mX4_readLine, take2 hT hB (by omega) h, mX10_readOrder, isW_line hB h]
  simp only [Option.bind_some]
  rcases AT_in (TB := TB) 0 s e with q | q
  · refine Or.inl ⟨tl, iI (e : Int), s, h.le.1, ?_, iI (s : Int), iI (e : Int), iI (SO T TB s), lI (WO T TB s e), ?_⟩
    · rw [q, if_neg (by omega)]
      rfl
    · obtain ⟨o, ho⟩ := has_some hno (lI (WO T TB s e)) (iF NO)
      rw [q, must_no]
      simp only [Option.bind_some]
      rw [ho]
      simp only [Option.bind_some]
      rw [J61_bad hno, J61_bad hno]
      (repeat' split) <;> rfl
  · have h2 : TOK T TB (NS T TB e) (NE T TB e) := NT_tok h.le.2.1
    rw [q, if_pos rfl, must_ok hT hB h.le.2.1]
    simp only [Option.bind_some]
    generalize NS T TB e = s0 at h2 ⊢
    generalize NE T TB e = e0 at h2 ⊢
    have rs := SO_in (T := T) (TB := TB) s0
    have rw2 := WO_in hB h2
    rw [if_neg n10, number_iI hB hT h2]
    simp only [Option.bind_some]
    have bad : mX1_isThere (iI (NU T TB s0 e0)) (iI n) = 0 → (if mX1_isThere (iI (NU T TB s0 e0)) (iI n) = 0 then some (iI 0, iI (NU T TB s0 e0), iI (s0 : Int), iI (e0 : Int)) else (if (mX2_hasOrder (iI (NU T TB s0 e0)) (iF wi)) = 0 then (Option.bind (mX6_next (iI (T : Int)) (iI (e0 : Int)) (iF TB)) (fun o8 => some (iI 1, iI (NU T TB s0 e0), o8.1, o8.2))) else some (iI 0, iI (NU T TB s0 e0), iI (s0 : Int), iI (e0 : Int)))) = some (iI 0, iI (NU T TB s0 e0), iI (s0 : Int), iI (e0 : Int)) := fun y => if_pos y
    by_cases c : SO T TB s0 = 2
    · have r := WO_dig h2 c
      have e2 : iI (SO T TB s0) = iI 2 := by rw [c]
      rw [if_pos e2]
      by_cases d : WO T TB s0 e0 < n
      · have e3 : ¬ 0 ≤ lg_cmp (lI (WO T TB s0 e0)) (Int32.toInt64 (iI n)) := fun y => by
          rw [iI_l (by omega) (by omega)] at y
          have := (lI_le (by omega) (by omega) (by omega) (by omega)).mp ((lg_cmp_ge _ _).mp y)
          omega
        have nu : NU T TB s0 e0 = WO T TB s0 e0 := by omega
        have e4 : ¬ mX1_isThere (iI (NU T TB s0 e0)) (iI n) = 0 := fun y => (isT1 (by omega) (by omega) hn.1 (by omega)).mp y ⟨by omega, by omega⟩
        rw [if_neg e3, if_neg e4, nu]
        rcases has2 hd.1 hn.2 (z := WO T TB s0 e0) (by omega) with ⟨y1, y2⟩ | ⟨y1, y2⟩
        · rcases has10 hd hn.2 (z := WO T TB s0 e0) (by omega) with ⟨z1, z2⟩ | ⟨z1, z2⟩
          · refine Or.inl ⟨iI (WO T TB s0 e0), iI (e0 : Int), s0, h2.le.1, ?_, iI (s0 : Int), iI (e0 : Int), iI (SO T TB s0), lI (WO T TB s0 e0), ?_⟩
            · rw [y2, if_neg n10]
            · rw [z2]
              simp only [Option.bind_some]
              rw [if_neg n10]
              exact J61_no hno
          · exact absurd y1 z1
        · rcases has10 hd hn.2 (z := WO T TB s0 e0) (by omega) with ⟨z1, z2⟩ | ⟨z1, z2⟩
          · exact absurd z1 y1
          · refine Or.inr ⟨WO T TB s0 e0, s0, e0, h2, r.1, d, y1, ?_, ?_⟩
            · rw [y2, if_pos z00, next2 hT hB h2.le.2.1]
              rfl
            · rw [z2]
              simp only [Option.bind_some]
              rw [if_pos z00, lI_i]
      · refine Or.inl ⟨iI (NU T TB s0 e0), iI (e0 : Int), s0, h2.le.1, ?_, iI (s0 : Int), iI (e0 : Int), iI (SO T TB s0), lI (WO T TB s0 e0), ?_⟩
        · exact bad ((isT1 (by omega) (by omega) hn.1 (by omega)).mpr (fun y => by omega))
        · have e3 : 0 ≤ lg_cmp (lI (WO T TB s0 e0)) (Int32.toInt64 (iI n)) := by
            rw [iI_l (by omega) (by omega)]
            exact (lg_cmp_ge _ _).mpr ((lI_le (by omega) (by omega) (by omega) (by omega)).mpr (by omega))
          rw [if_pos e3]
          exact J61_no hno
    · have nu := NU_no (T := T) (TB := TB) (e := e0) c
      refine Or.inl ⟨iI (NU T TB s0 e0), iI (e0 : Int), s0, h2.le.1, ?_, iI (s0 : Int), iI (e0 : Int), iI (SO T TB s0), lI (WO T TB s0 e0), ?_⟩
      · exact bad ((isT1 (by omega) (by omega) hn.1 (by omega)).mpr (fun y => by omega))
      · rw [if_neg (fun y => c ((iI_eq (by omega) (by omega) (by omega) (by omega)).mp y))]
        exact J61_no hno
/-- behind the line: when -/
theorem start_two (hT : T ≤ 400) (hB : TBV TB) (hn : 0 ≤ n ∧ n ≤ 30) (hd : DR n no oL af hr wi NO) {s0 e0 : Nat} (h0 : TOK T TB s0 e0) (l ta th F : Int32) :
    (∃ (x z y : Int32) (p : Nat), p ≤ T ∧ mX4_readStart ta th (iI (T : Int)) (iI ((NS T TB e0 : Nat) : Int)) (iI ((NE T TB e0 : Nat) : Int)) (iF TB) (iF wi) = some (iI 0, x, z, iI (p : Int), y) ∧ BADR no NO p (mX10_readOrder_J61 (iI n) (iI (T : Int)) (iF TB) (iI 1) l (iI no) (iI (s0 : Int)) (iI (e0 : Int)) (iI (SO T TB s0)) (lI (WO T TB s0 e0)) F (iI 0) (iF NO))) ∨
    (∃ (a h : Int) (s e : Nat), TOK T TB s e ∧ (a = -1 ∨ HA no oL a) ∧ 0 ≤ h ∧ h ≤ 100 ∧ mX4_readStart ta th (iI (T : Int)) (iI ((NS T TB e0 : Nat) : Int)) (iI ((NE T TB e0 : Nat) : Int)) (iF TB) (iF wi) = some (iI 1, iI a, iI h, iI (s : Int), iI (e : Int)) ∧ mX10_readOrder_J61 (iI n) (iI (T : Int)) (iF TB) (iI 1) l (iI no) (iI (s0 : Int)) (iI (e0 : Int)) (iI (SO T TB s0)) (lI (WO T TB s0 e0)) F (iI 0) (iF NO) = mX10_readOrder_J211 (iI (T : Int)) (iF TB) l (iI a) (iI h) (iI no) (iI (s : Int)) (iI (e : Int)) (iI (SO T TB s)) (lI (WO T TB s e)) F (iI 0) (iF NO)) := by
  have hno : 0 ≤ no ∧ no ≤ 30 := ⟨hd.1.1, hd.1.2.1⟩
  have h : TOK T TB (NS T TB e0) (NE T TB e0) := NT_tok h0.le.2.1
  rw [mX10_readOrder_J61, must_ok hT hB h0.le.2.1]
  simp only [Option.bind_some]
  generalize NS T TB e0 = s at h ⊢
  generalize NE T TB e0 = e at h ⊢
  rw [mX4_readStart, take2 hT hB (by omega) h, isW_at hB h]
  simp only [Option.bind_some]
  rcases AT_in (TB := TB) 2 s e with q | q
  · rw [q, if_neg (by omega), if_pos z00]
    simp only [Option.bind_some]
    rw [if_pos z00, take2 hT hB (by omega) h, isW_after hB h]
    simp only [Option.bind_some]
    rcases AT_in (TB := TB) 3 s e with q3 | q3
    · refine Or.inl ⟨ta, th, iI (e : Int), s, h.le.1, ?_, iI (s : Int), iI (e : Int), iI (SO T TB s), lI (WO T TB s e), ?_⟩
      · rw [q3, if_neg (by omega)]
        rfl
      · rw [q3, if_pos z00]
        exact J103_no hno
    · have h2 : TOK T TB (NS T TB e) (NE T TB e) := NT_tok h.le.2.1
      rw [q3, if_pos rfl, if_neg n10, mX10_readOrder_J103, must_ok hT hB h.le.2.1]
      simp only [Option.bind_some]
      rw [if_neg n10, if_pos z00]
      generalize NS T TB e = s1 at h2 ⊢
      generalize NE T TB e = e1 at h2 ⊢
      have rs := SO_in (T := T) (TB := TB) s1
      have rw2 := WO_in hB h2
      rw [mX4_readAfter, number_iI hB hT h2]
      simp only [Option.bind_some]
      by_cases c : SO T TB s1 = 2 ∧ WO T TB s1 e1 < n ∧ HA no oL (WO T TB s1 e1)
      · obtain ⟨c1, c2, c3⟩ := c
        have r := WO_dig h2 c1
        have nu : NU T TB s1 e1 = WO T TB s1 e1 := by omega
        have h3 : TOK T TB (NS T TB e1) (NE T TB e1) := NT_tok h2.le.2.1
        rcases has2 hd.1 hn.2 (z := WO T TB s1 e1) (by omega) with ⟨y1, y2⟩ | ⟨y1, y2⟩
        · rcases has10 hd hn.2 (z := WO T TB s1 e1) (by omega) with ⟨z1, z2⟩ | ⟨z1, z2⟩
          · have e2 : iI (SO T TB s1) = iI 2 := by rw [c1]
            have e3 : ¬ 0 ≤ lg_cmp (lI (WO T TB s1 e1)) (Int32.toInt64 (iI n)) := fun y => by
              rw [iI_l (by omega) (by omega)] at y
              have := (lI_le (by omega) (by omega) (by omega) (by omega)).mp ((lg_cmp_ge _ _).mp y)
              omega
            rw [nu, y2, if_neg n10, next2 hT hB h2.le.2.1, if_pos e2, if_neg e3, z2]
            simp only [Option.bind_some]
            rw [if_neg n10, mX10_readOrder_J172, must_ok hT hB h2.le.2.1, lI_i]
            simp only [Option.bind_some]
            rw [if_pos z00]
            generalize NS T TB e1 = s2 at h3 ⊢
            generalize NE T TB e1 = e2 at h3 ⊢
            rw [take2 hT hB (by omega) h3, isW_and hB h3]
            simp only [Option.bind_some]
            rcases AT_in (TB := TB) 4 s2 e2 with q4 | q4
            · refine Or.inr ⟨WO T TB s1 e1, 0, s2, e2, h3, Or.inr c3, by omega, by omega, ?_, ?_⟩
              · rw [q4, if_neg (by omega)]
                rfl
              · rw [q4, if_pos z00]
            · have h4 : TOK T TB (NS T TB e2) (NE T TB e2) := NT_tok h3.le.2.1
              rw [q4, if_pos rfl, if_neg n10, next10 hT hB _ h3.le.2.1]
              simp only [Option.bind_some]
              rw [if_neg n10]
              generalize NS T TB e2 = s3 at h4 ⊢
              generalize NE T TB e2 = e3 at h4 ⊢
              rw [takeNum2 hT hB h4 (by omega) (by omega), num_tok hT hB h4 (by omega) (by omega)]
              by_cases d : SO T TB s3 = 2 ∧ 0 ≤ WO T TB s3 e3 ∧ WO T TB s3 e3 ≤ 99
              · refine Or.inr ⟨WO T TB s1 e1, WO T TB s3 e3, NS T TB e3, NE T TB e3, NT_tok h4.le.2.1, Or.inr c3, by omega, by omega, ?_, ?_⟩
                · rw [if_pos d]
                  simp only [Option.bind_some]
                  rw [if_neg (fun y => by have := (iI_eq (by omega) (by omega) (by omega) (by omega)).mp y; omega)]
                  rfl
                · rw [if_pos d]
                  rfl
              · refine Or.inl ⟨iI (WO T TB s1 e1), iI (-1), iI (e3 : Int), s3, h4.le.1, ?_, iI (s3 : Int), iI (e3 : Int), iI (SO T TB s3), lI (WO T TB s3 e3), ?_⟩
                · rw [if_neg d]
                  rfl
                · rw [if_neg d]
                  simp only [Option.bind_some]
                  exact J211_bad
          · exact absurd y1 z1
        · exact absurd c3 y1
      · refine Or.inl ⟨iI (NU T TB s1 e1), th, iI (e1 : Int), s1, h2.le.1, ?_, iI (s1 : Int), iI (e1 : Int), iI (SO T TB s1), lI (WO T TB s1 e1), ?_⟩
        · have z : mX2_hasOrder (iI (NU T TB s1 e1)) (iF wi) = iI 0 := by
            by_cases c1 : SO T TB s1 = 2
            · have r := WO_dig h2 c1
              rcases has2 hd.1 hn.2 (z := NU T TB s1 e1) (by omega) with ⟨y1, y2⟩ | ⟨y1, y2⟩
              · exfalso
                obtain ⟨k, hk, ek⟩ := y1
                obtain ⟨ro0, ro1, -⟩ := hd.1.2.2.1 k hk
                have r30 := hn.2
                have nu : NU T TB s1 e1 = WO T TB s1 e1 := by omega
                exact c ⟨c1, by omega, k, hk, by omega⟩
              · exact y2
            · have nu := NU_no (T := T) (TB := TB) (e := e1) c1
              rw [nu]
              rcases has2 hd.1 hn.2 (z := -1) (by omega) with ⟨y1, y2⟩ | ⟨y1, y2⟩
              · exfalso
                obtain ⟨k, hk, ek⟩ := y1
                obtain ⟨ro0, ro1, -⟩ := hd.1.2.2.1 k hk
                omega
              · exact y2
          rw [z, if_pos z00]
          rfl
        · by_cases c1 : SO T TB s1 = 2
          · rw [if_pos (by rw [c1])]
            by_cases c2 : WO T TB s1 e1 < n
            · rw [if_neg (fun y => by
                rw [iI_l (by omega) (by omega)] at y
                have := (lI_le (by omega) (by omega) (by omega) (by omega)).mp ((lg_cmp_ge _ _).mp y)
                omega)]
              rcases has10 hd hn.2 (z := WO T TB s1 e1) (by omega) with ⟨z1, z2⟩ | ⟨z1, z2⟩
              · exact absurd ⟨c1, c2, z1⟩ c
              · rw [z2]
                simp only [Option.bind_some]
                rw [if_pos z00]
                exact J172_no
            · rw [if_pos (by
                rw [iI_l (by omega) (by omega)]
                exact (lg_cmp_ge _ _).mpr ((lI_le (by omega) (by omega) (by omega) (by omega)).mpr (by omega)))]
              exact J172_no
          · rw [if_neg (fun y => c1 ((iI_eq (by omega) (by omega) (by omega) (by omega)).mp y))]
            exact J172_no
  · have h2 : TOK T TB (NS T TB e) (NE T TB e) := NT_tok h.le.2.1
    rw [q, if_pos rfl, if_neg n10, mX10_readOrder_J103, must_ok hT hB h.le.2.1]
    simp only [Option.bind_some]
    rw [if_neg n10, if_neg n10]
    generalize NS T TB e = s1 at h2 ⊢
    generalize NE T TB e = e1 at h2 ⊢
    rw [takeNum2 hT hB h2 (by omega) (by omega), num_tok hT hB h2 (by omega) (by omega)]
    by_cases d : SO T TB s1 = 2 ∧ 0 ≤ WO T TB s1 e1 ∧ WO T TB s1 e1 ≤ 100
    · refine Or.inr ⟨-1, WO T TB s1 e1, NS T TB e1, NE T TB e1, NT_tok h2.le.2.1, Or.inl rfl, by omega, by omega, ?_, ?_⟩
      · rw [if_pos d]
        simp only [Option.bind_some]
        rw [if_neg (fun y => by have := (iI_eq (by omega) (by omega) (by omega) (by omega)).mp y; omega)]
      · rw [if_pos d]
        rfl
    · refine Or.inl ⟨iI (-1), iI (-1), iI (e1 : Int), s1, h2.le.1, ?_, iI (s1 : Int), iI (e1 : Int), iI (SO T TB s1), lI (WO T TB s1 e1), ?_⟩
      · rw [if_neg d]
        rfl
      · rw [if_neg d]
        simp only [Option.bind_some]
        exact J211_bad
/-- and with how many gangs -/
theorem gangs_two (hT : T ≤ 400) (hB : TBV TB) (hno : 0 ≤ no ∧ no < 30) {s e : Nat} (h : TOK T TB s e) (l a hh : Int) (tg F : Int32) :
    (∃ (x y : Int32) (p : Nat), p ≤ T ∧ mX4_readGangs tg (iI (T : Int)) (iI (s : Int)) (iI (e : Int)) (iF TB) = some (iI 0, x, iI (p : Int), y) ∧ BADR no NO p (mX10_readOrder_J211 (iI (T : Int)) (iF TB) (iI l) (iI a) (iI hh) (iI no) (iI (s : Int)) (iI (e : Int)) (iI (SO T TB s)) (lI (WO T TB s e)) F (iI 0) (iF NO))) ∨
    (∃ (g : Int) (s2 e2 : Nat), TOK T TB s2 e2 ∧ 1 ≤ g ∧ g ≤ 99 ∧ mX4_readGangs tg (iI (T : Int)) (iI (s : Int)) (iI (e : Int)) (iF TB) = some (iI 1, iI g, iI (s2 : Int), iI (e2 : Int)) ∧ mX10_readOrder_J211 (iI (T : Int)) (iF TB) (iI l) (iI a) (iI hh) (iI no) (iI (s : Int)) (iI (e : Int)) (iI (SO T TB s)) (lI (WO T TB s e)) F (iI 0) (iF NO) = some (iI (no + 1), iI (s2 : Int), iI (e2 : Int), iI (SO T TB s2), lI (WO T TB s2 e2), F, iI 0, iF (upI (upI (upI (upI NO (4 * no.toNat) l) (4 * no.toNat + 1) a) (4 * no.toNat + 2) hh) (4 * no.toNat + 3) g))) := by
  rw [mX4_readGangs, take2 hT hB (by omega) h, mX10_readOrder_J211, isW_with hB h]
  simp only [Option.bind_some]
  rcases AT_in (TB := TB) 5 s e with q | q
  · refine Or.inl ⟨tg, iI (e : Int), s, h.le.1, ?_, iI (s : Int), iI (e : Int), iI (SO T TB s), lI (WO T TB s e), ?_⟩
    · rw [q, if_neg (by omega)]
      rfl
    · rw [q, must_no]
      simp only [Option.bind_some]
      rw [num_bad]
      simp only [Option.bind_some]
      rw [if_neg n10]
  · have h2 : TOK T TB (NS T TB e) (NE T TB e) := NT_tok h.le.2.1
    rw [q, if_pos rfl, must_ok hT hB h.le.2.1]
    simp only [Option.bind_some]
    rw [if_neg n10]
    generalize NS T TB e = s1 at h2 ⊢
    generalize NE T TB e = e1 at h2 ⊢
    rw [takeNum2 hT hB h2 (by omega) (by omega), num_tok hT hB h2 (by omega) (by omega)]
    by_cases d : SO T TB s1 = 2 ∧ 1 ≤ WO T TB s1 e1 ∧ WO T TB s1 e1 ≤ 99
    · have g0 := gdn (z := 4 * no) (n := 120) (by omega) (by omega) (by omega)
      have g1 := gdn (z := 4 * no + 1) (n := 120) (by omega) (by omega) (by omega)
      have g2 := gdn (z := 4 * no + 2) (n := 120) (by omega) (by omega) (by omega)
      have g3 := gdn (z := 4 * no + 3) (n := 120) (by omega) (by omega) (by omega)
      refine Or.inr ⟨WO T TB s1 e1, NS T TB e1, NE T TB e1, NT_tok h2.le.2.1, by omega, by omega, ?_, ?_⟩
      · rw [if_pos d]
        simp only [Option.bind_some]
        rw [if_neg (fun y => by have := (iI_eq (by omega) (by omega) (by omega) (by omega)).mp y; omega)]
      · rw [if_pos d]
        simp only [Option.bind_some]
        rw [if_pos z00, iI_mul, iI_add, iI_add, iI_add, iI_add, if_neg g0, if_neg g1, if_neg g2, if_neg g3, wr (by omega) (by omega), wr (by omega) (by omega), wr (by omega) (by omega), wr (by omega) (by omega), show (4 * no).toNat = 4 * no.toNat by omega, show (4 * no + 1).toNat = 4 * no.toNat + 1 by omega, show (4 * no + 2).toNat = 4 * no.toNat + 2 by omega, show (4 * no + 3).toNat = 4 * no.toNat + 3 by omega]
    · refine Or.inl ⟨iI (-1), iI (e1 : Int), s1, h2.le.1, ?_, iI (s1 : Int), iI (e1 : Int), iI (SO T TB s1), lI (WO T TB s1 e1), ?_⟩
      · rw [if_neg d]
        rfl
      · rw [if_neg d]
        simp only [Option.bind_some]
        rw [if_neg n10]
end RD3
