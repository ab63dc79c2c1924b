/-! ORDERS: the whole text -/
section OO
variable {T : Nat} {TB : F1} {n no : Int} {oL af hr wi NO : F1}
theorem DR.add (h : DR n no oL af hr wi NO) (hn : n ≤ 30) {l a hh g : Int} (l0 : 0 ≤ l) (l1 : l < n) (hl : ¬ HA no oL l) (ha : a = -1 ∨ HA no oL a) (h0 : 0 ≤ hh) (h1 : hh ≤ 100) (g0 : 1 ≤ g) (g1 : g ≤ 99) : no < 30 ∧ DR n (no + 1) (upI oL no.toNat l) (upI af l.toNat a) (upI hr l.toNat hh) (upI wi l.toNat g) (upI (upI (upI (upI NO (4 * no.toNat) l) (4 * no.toNat + 1) a) (4 * no.toNat + 2) hh) (4 * no.toNat + 3) g) := by
  obtain ⟨p0, p1, p2, p3⟩ := h.1
  have ne : ∀ k : Nat, (k : Int) < no → oL k ≠ l := fun k hk e => hl ⟨k, hk, e⟩
  have lt : no < 30 := by
    have := pigeon 30 no.toNat (fun i => if (i : Int) < no then (oL i).toNat else l.toNat) (fun i hi => by
      show (if (i : Int) < no then (oL i).toNat else l.toNat) < 30
      by_cases c : (i : Int) < no
      · rw [if_pos c]
        obtain ⟨q0, q1, -⟩ := p2 i c
        omega
      · rw [if_neg c]; omega) (fun i k hik hk => by
      show (if (i : Int) < no then (oL i).toNat else l.toNat) ≠ (if (k : Int) < no then (oL k).toNat else l.toNat)
      rw [if_pos (show (i : Int) < no by omega)]
      obtain ⟨q0, q1, -⟩ := p2 i (by omega)
      by_cases c : (k : Int) < no
      · rw [if_pos c]
        obtain ⟨q2, q3, -, -, -, -, -, q4⟩ := p2 k c
        have := q4 i hik
        omega
      · rw [if_neg c]
        have := ne i (by omega)
        omega)
    omega
  have same : ∀ k : Nat, (k : Int) < no → (oL k).toNat ≠ l.toNat := fun k hk => by
    obtain ⟨q0, q1, -⟩ := p2 k hk
    have := ne k hk
    omega
  have oK : ∀ k : Nat, (k : Int) < no → upI oL no.toNat l k = oL k := fun k hk => upI_n (by omega)
  have oN : upI oL no.toNat l no.toNat = l := upI_s _ _ _
  refine ⟨lt, ⟨by omega, by omega, fun k hk => ?_, fun q hq hn2 => ?_⟩, fun k hk => ?_⟩
  · by_cases c : (k : Int) < no
    · obtain ⟨q0, q1, q2, q3, q4, q5, q6, q7⟩ := p2 k c
      rw [oK k c, upI_n (same k c), upI_n (same k c), upI_n (same k c)]
      refine ⟨q0, q1, q2, q3, q4, q5, ?_, fun j hj => ?_⟩
      · rcases q6 with q6 | ⟨j, hj, e⟩
        · exact Or.inl q6
        · exact Or.inr ⟨j, hj, by rw [oK j (by omega)]; exact e⟩
      · rw [oK j (by omega)]; exact q7 j hj
    · have e : k = no.toNat := by omega
      subst e
      rw [oN, upI_s, upI_s, upI_s]
      refine ⟨l0, l1, h0, h1, g0, g1, ?_, fun j hj => ?_⟩
      · rcases ha with ha | ⟨j, hj, e⟩
        · exact Or.inl ha
        · exact Or.inr ⟨j, by omega, by rw [oK j hj]; exact e⟩
      · rw [oK j (by omega)]; exact ne j (by omega)
  · have ql : q ≠ l.toNat := fun e => by
      have := hn2 no.toNat (by omega)
      rw [oN] at this
      omega
    rw [upI_n ql]
    refine p3 q hq fun k hk => ?_
    have := hn2 k (by omega)
    rw [oK k hk] at this
    exact this
  · by_cases c : (k : Int) < no
    · obtain ⟨e0, e1, e2, e3⟩ := h.2 k c
      rw [oK k c, upI_n (same k c), upI_n (same k c), upI_n (same k c)]
      refine ⟨?_, ?_, ?_, ?_⟩
      · rw [upI_n (by omega), upI_n (by omega), upI_n (by omega), upI_n (by omega)]; exact e0
      · rw [upI_n (by omega), upI_n (by omega), upI_n (by omega), upI_n (by omega)]; exact e1
      · rw [upI_n (by omega), upI_n (by omega), upI_n (by omega), upI_n (by omega)]; exact e2
      · rw [upI_n (by omega), upI_n (by omega), upI_n (by omega), upI_n (by omega)]; exact e3
    · have e : k = no.toNat := by omega
      subst e
      rw [oN, upI_s, upI_s, upI_s]
      refine ⟨?_, ?_, ?_, ?_⟩
      · rw [upI_n (by omega), upI_n (by omega), upI_n (by omega), upI_s]
      · rw [upI_n (by omega), upI_n (by omega), upI_s]
      · rw [upI_n (by omega), upI_s]
      · rw [upI_s]
/-- what the reference does behind the last order -/
noncomputable def Kord (ts tor tp : Int32) (tb oA oH oLn oW : Nat → Int32) : Int32 → Int32 → Int32 → Int32 → Int64 → Int32 → Int32 → (Nat → Int32) → Option (Int32 × Int32 × Int32 × Int32 × Int32 × Int32 × Int32 × Int32 × Int32 × Int64 × Int32 × Int32 × (Nat → Int32) × (Nat → Int32) × (Nat → Int32) × (Nat → Int32) × (Nat → Int32)) :=
  fun nm fr to so w F bd NOr => (if bd = 0 then (if so = 0 then mX10_orders_J96 (iI 0) ts tor nm tp fr to so w F bd NOr oA oH oLn oW else (Option.bind (mX10_must (iI 0) tp fr to so w F bd tb) (fun o24 => mX10_orders_J96 (iI 0) ts tor nm tp o24.1 o24.2.1 o24.2.2.1 o24.2.2.2.1 o24.2.2.2.2.1 o24.2.2.2.2.2 NOr oA oH oLn oW))) else mX10_orders_J96 (iI 0) ts tor nm tp fr to so w F bd NOr oA oH oLn oW)
/-- a bad text, as the reference answers it -/
def BADO (tor : Int32) (oA oH oLn oW : Nat → Int32) (p : Nat) (x : Option (Int32 × Int32 × Int32 × Int32 × Int32 × Int32 × Int32 × Int32 × Int32 × Int64 × Int32 × Int32 × (Nat → Int32) × (Nat → Int32) × (Nat → Int32) × (Nat → Int32) × (Nat → Int32))) : Prop := ∃ (nm fr to so : Int32) (w : Int64) (NO' : F1), x = some (iI (-6), iI 0, iI (-6), tor, nm, iI 0, fr, to, so, w, iI (p : Int), iI 1, iF NO', oA, oH, oLn, oW)
theorem J96_bad {ts tor nm tp fr to so F : Int32} {w : Int64} {NOr oA oH oLn oW : Nat → Int32} : mX10_orders_J96 (iI 0) ts tor nm tp fr to so w F (iI 1) NOr oA oH oLn oW = some (iI (-6), iI 0, iI (-6), tor, nm, iI 0, fr, to, so, w, F, iI 1, NOr, oA, oH, oLn, oW) := by
  rw [mX10_orders_J96, if_neg n10, told_iI (by omega) (by omega)]
  rfl
theorem K_bad {ts tor tp nm fr to so : Int32} {w : Int64} {p : Nat} {NO : F1} {tb oA oH oLn oW : Nat → Int32} : BADO tor oA oH oLn oW p (Kord ts tor tp tb oA oH oLn oW nm fr to so w (iI (p : Int)) (iI 1) (iF NO)) := by
  refine ⟨nm, fr, to, so, w, NO, ?_⟩
  unfold Kord
  rw [if_neg n10]
  exact J96_bad
theorem K_no {ts tor tp nm to so F : Int32} {w : Int64} {p : Nat} {NO : F1} {tb oA oH oLn oW : Nat → Int32} (h : ¬ so = 0) : BADO tor oA oH oLn oW p (Kord ts tor tp tb oA oH oLn oW nm (iI (p : Int)) to so w F (iI 0) (iF NO)) := by
  refine ⟨nm, iI (p : Int), to, so, w, NO, ?_⟩
  unfold Kord
  rw [if_pos z00, if_neg h, must_no]
  simp only [Option.bind_some]
  exact J96_bad
theorem L40_bad {ln tp nm fr to so F : Int32} {w : Int64} {tb NOr : Nat → Int32} (m : Nat) (kk : Int32 → Int32 → Int32 → Int32 → Int64 → Int32 → Int32 → (Nat → Int32) → Option (Int32 × Int32 × Int32 × Int32 × Int32 × Int32 × Int32 × Int32 × Int32 × Int64 × Int32 × Int32 × (Nat → Int32) × (Nat → Int32) × (Nat → Int32) × (Nat → Int32) × (Nat → Int32))) : mX10_orders_L40 ln tp tb kk (m + 1) nm fr to so w F (iI 1) NOr = kk nm fr to so w F (iI 1) NOr := by
  rw [mX10_orders_L40, if_neg n10]
theorem SO_end {s e : Nat} (h : TOK T TB s e) : (SO T TB s = 0 ∧ s = T) ∨ (SO T TB s ≠ 0 ∧ s < T) := by
  rcases h with ⟨rfl, rfl⟩ | ⟨h1, h2, h3, h4, -⟩
  · exact Or.inl ⟨if_neg (Nat.lt_irrefl _), rfl⟩
  · exact Or.inr ⟨by rw [SO, if_pos h1]; exact h4, h1⟩
theorem orders_go (hT : T ≤ 400) (hB : TBV TB) (hn : 0 ≤ n ∧ n ≤ 30) (bg dn : Nat → Int32) (ts tor F : Int32) (oA oH oLn oW : Nat → Int32) : ∀ (d m m2 : Nat) (no : Int) (oL af hr wi NO : F1) (s e : Nat) (tl ta th tg : Int32), no + d = 30 → d < m → d < m2 → DR n no oL af hr wi NO → TOK T TB s e →
    (∃ (p : Nat) (x1 x2 x3 x4 x5 nm : Int32) (af' wi' hr' oL' : F1), p ≤ T ∧ mX4_readOrders_L20 (iI (T : Int)) (iF TB) (iI n) bg dn m (iI no) tl ta th tg (iI (s : Int)) (iI (e : Int)) (iI no) (iF af) (iF wi) (iF hr) (iF oL) = some (iI 0, x1, x2, x3, x4, iI (p : Int), x5, nm, iF af', bg, dn, iF wi', iF hr', iF oL') ∧ BADO tor oA oH oLn oW p (Option.bind (mX10_readOrder (iI n) (iI no) (iI (T : Int)) (iI (s : Int)) (iI (e : Int)) (iI (SO T TB s)) (lI (WO T TB s e)) F (iI 0) (iF NO) (iF TB)) (fun o15 => mX10_orders_L40 (iI n) (iI (T : Int)) (iF TB) (Kord ts tor (iI (T : Int)) (iF TB) oA oH oLn oW) m2 o15.1 o15.2.1 o15.2.2.1 o15.2.2.2.1 o15.2.2.2.2.1 o15.2.2.2.2.2.1 o15.2.2.2.2.2.2.1 o15.2.2.2.2.2.2.2))) ∨
    (∃ (x1 x2 x3 x4 x5 x6 fr to so : Int32) (w : Int64) (no' : Int) (af' wi' hr' oL' NO' : F1), mX4_readOrders_L20 (iI (T : Int)) (iF TB) (iI n) bg dn m (iI no) tl ta th tg (iI (s : Int)) (iI (e : Int)) (iI no) (iF af) (iF wi) (iF hr) (iF oL) = some (iI 1, x1, x2, x3, x4, x5, x6, iI no', iF af', bg, dn, iF wi', iF hr', iF oL') ∧ DR n no' oL' af' hr' wi' NO' ∧ so = 0 ∧ (Option.bind (mX10_readOrder (iI n) (iI no) (iI (T : Int)) (iI (s : Int)) (iI (e : Int)) (iI (SO T TB s)) (lI (WO T TB s e)) F (iI 0) (iF NO) (iF TB)) (fun o15 => mX10_orders_L40 (iI n) (iI (T : Int)) (iF TB) (Kord ts tor (iI (T : Int)) (iF TB) oA oH oLn oW) m2 o15.1 o15.2.1 o15.2.2.1 o15.2.2.2.1 o15.2.2.2.2.1 o15.2.2.2.2.2.1 o15.2.2.2.2.2.2.1 o15.2.2.2.2.2.2.2)) = Kord ts tor (iI (T : Int)) (iF TB) oA oH oLn oW (iI no') fr to so w F (iI 0) (iF NO')) := by
  intro d
  induction d with
  | zero =>
    intro m m2 no oL af hr wi NO s e tl ta th tg hi hm hm2 hd htok
    obtain ⟨m, rfl⟩ : ∃ a, m = a + 1 := ⟨m - 1, by omega⟩
    obtain ⟨m2, rfl⟩ : ∃ a, m2 = a + 1 := ⟨m2 - 1, by omega⟩
    have e30 : no = 30 := by omega
    rw [mX4_readOrders_L20, if_neg (fun k => by have := (iI_lt (by omega) (by omega) (by omega) (by omega)).mp k; omega)]
    rcases line_two hT hB hn hd htok tl F with ⟨x, y, p, hp, c1, fr, to, so, w, r1⟩ | ⟨l, s0, e0, h0, l0, l1, hl, c1, r1⟩
    · refine Or.inl ⟨p, x, ta, th, tg, y, iI no, af, wi, hr, oL, hp, ?_, ?_⟩
      · rw [c1]
        simp only [Option.bind_some]
        rw [if_pos z00]
      · rw [r1]
        simp only [Option.bind_some]
        rw [L40_bad]
        exact K_bad
    · have := (DR.add hd hn.2 (a := -1) (hh := 0) (g := 1) l0 l1 hl (Or.inl rfl) (by omega) (by omega) (by omega) (by omega)).1
      omega
  | succ d ih =>
    intro m m2 no oL af hr wi NO s e tl ta th tg hi hm hm2 hd htok
    obtain ⟨m, rfl⟩ : ∃ a, m = a + 1 := ⟨m - 1, by omega⟩
    obtain ⟨m2, rfl⟩ : ∃ a, m2 = a + 1 := ⟨m2 - 1, by omega⟩
    have hno := hd.1.1
    rw [mX4_readOrders_L20, if_neg (fun k => by have := (iI_lt (by omega) (by omega) (by omega) (by omega)).mp k; omega)]
    rcases line_two hT hB hn hd htok tl F with ⟨x, y, p, hp, c1, fr, to, so, w, r1⟩ | ⟨l, s0, e0, h0, l0, l1, hl, c1, r1⟩
    · refine Or.inl ⟨p, x, ta, th, tg, y, iI no, af, wi, hr, oL, hp, ?_, ?_⟩
      · rw [c1]
        simp only [Option.bind_some]
        rw [if_pos z00]
      · rw [r1]
        simp only [Option.bind_some]
        rw [L40_bad]
        exact K_bad
    · rw [c1]
      simp only [Option.bind_some]
      rw [if_neg n10]
      rcases start_two hT hB hn hd h0 (iI l) ta th F with ⟨x, z, y, p, hp, c2, fr, to, so, w, r2⟩ | ⟨a, hh, s2, e2, h2, ha, hh0, hh1, c2, r2⟩
      · refine Or.inl ⟨p, iI l, x, z, tg, y, iI no, af, wi, hr, oL, hp, ?_, ?_⟩
        · rw [c2]
          simp only [Option.bind_some]
          rw [if_pos z00]
        · rw [r1, r2]
          simp only [Option.bind_some]
          rw [L40_bad]
          exact K_bad
      · rw [c2]
        simp only [Option.bind_some]
        rw [if_neg n10]
        rcases gangs_two (NO := NO) hT hB (no := no) ⟨hno, by omega⟩ h2 l a hh tg F with ⟨x, y, p, hp, c3, fr, to, so, w, r3⟩ | ⟨g, s3, e3, h3, g0, g1, c3, r3⟩
        · refine Or.inl ⟨p, iI l, iI a, iI hh, x, y, iI no, af, wi, hr, oL, hp, ?_, ?_⟩
          · rw [c3]
            simp only [Option.bind_some]
            rw [if_pos z00]
          · rw [r1, r2, r3]
            simp only [Option.bind_some]
            rw [L40_bad]
            exact K_bad
        · obtain ⟨lt, hd2⟩ := DR.add hd hn.2 l0 l1 hl ha hh0 hh1 g0 g1
          have hn30 := hn.2
          have ha2 : -1 ≤ a := by
            rcases ha with ha | ⟨j, hj, e⟩
            · omega
            · obtain ⟨q0, -⟩ := hd.1.2.2.1 j hj
              omega
          have ll : (l : Int).toNat = l.toNat := rfl
          have pu : ∀ (z v : Int) (G : F1), 0 ≤ z → z < 30 → mX9_put 30 (iI z) (iI v) (iF G) = iF (upI G z.toNat v) := fun z v G z0 z1 => by rw [pu_iI (by omega) (by omega) (by omega), pu_in (by omega) (by omega)]
          rw [c3]
          simp only [Option.bind_some]
          rw [if_neg n10, mX2_add]
          simp only [Option.bind_some]
          rw [pu l a af l0 (by omega), pu l g wi l0 (by omega), pu l hh hr l0 (by omega), pu no l oL hno lt, iI_add, mX6_isAtEnd]
          rw [r1, r2, r3]
          simp only [Option.bind_some]
          have lt3 := h3.le
          rcases SO_end h3 with ⟨q1, q2⟩ | ⟨q1, q2⟩
          · refine Or.inr ⟨iI l, iI a, iI hh, iI g, iI (s3 : Int), iI (e3 : Int), iI (s3 : Int), iI (e3 : Int), iI (SO T TB s3), lI (WO T TB s3 e3), no + 1, _, _, _, _, _, ?_, hd2, ?_, ?_⟩
            · rw [if_neg (show ¬ iI (s3 : Int) < iI (T : Int) from fun y => by have := (iI_lt (by omega) (by omega) (by omega) (by omega)).mp y; omega), if_neg n10]
            · rw [q1]; rfl
            · rw [mX10_orders_L40, if_pos z00, q1, if_neg (fun y => by have := (iI_eq (by omega) (by omega) (by omega) (by omega)).mp y; omega)]
          · rw [if_pos (show iI (s3 : Int) < iI (T : Int) from (iI_lt (by omega) (by omega) (by omega) (by omega)).mpr (by omega)), if_pos z00, take2 hT hB (by omega) h3, mX10_orders_L40, if_pos z00]
            have rs := SO_in (T := T) (TB := TB) s3
            have rw2 := WO_in hB h3
            have stop : AT TB 1 s3 e3 ≠ 1 → (if iI (SO T TB s3) = iI 3 then (if (lg_cmp (lI (WO T TB s3 e3)) (lI 59)) = 0 then (Option.bind (mX10_next (iI (T : Int)) (iI (e3 : Int)) (iI (SO T TB s3)) (iF TB)) (fun o19 => (Option.bind (mX10_readOrder (iI n) (iI (no + 1)) (iI (T : Int)) o19.1 o19.2.1 o19.2.2.1 o19.2.2.2 F (iI 0) (iF (upI (upI (upI (upI NO (4 * no.toNat) l) (4 * no.toNat + 1) a) (4 * no.toNat + 2) hh) (4 * no.toNat + 3) g)) (iF TB)) (fun o20 => (mX10_orders_L40 (iI n) (iI (T : Int)) (iF TB) (Kord ts tor (iI (T : Int)) (iF TB) oA oH oLn oW) m2 o20.1 o20.2.1 o20.2.2.1 o20.2.2.2.1 o20.2.2.2.2.1 o20.2.2.2.2.2.1 o20.2.2.2.2.2.2.1 o20.2.2.2.2.2.2.2))))) else (Kord ts tor (iI (T : Int)) (iF TB) oA oH oLn oW (iI (no + 1)) (iI (s3 : Int)) (iI (e3 : Int)) (iI (SO T TB s3)) (lI (WO T TB s3 e3)) F (iI 0) (iF (upI (upI (upI (upI NO (4 * no.toNat) l) (4 * no.toNat + 1) a) (4 * no.toNat + 2) hh) (4 * no.toNat + 3) g)))) else (Kord ts tor (iI (T : Int)) (iF TB) oA oH oLn oW (iI (no + 1)) (iI (s3 : Int)) (iI (e3 : Int)) (iI (SO T TB s3)) (lI (WO T TB s3 e3)) F (iI 0) (iF (upI (upI (upI (upI NO (4 * no.toNat) l) (4 * no.toNat + 1) a) (4 * no.toNat + 2) hh) (4 * no.toNat + 3) g)))) = Kord ts tor (iI (T : Int)) (iF TB) oA oH oLn oW (iI (no + 1)) (iI (s3 : Int)) (iI (e3 : Int)) (iI (SO T TB s3)) (lI (WO T TB s3 e3)) F (iI 0) (iF (upI (upI (upI (upI NO (4 * no.toNat) l) (4 * no.toNat + 1) a) (4 * no.toNat + 2) hh) (4 * no.toNat + 3) g)) := fun hat => by
              by_cases c : SO T TB s3 = 3
              · rw [if_pos (by rw [c]), if_neg (fun y => hat ((at_sign h3).mpr ⟨c, (lI_eq (by omega) (by omega) (by omega) (by omega)).mp ((lg_cmp_eq _ _).mp y)⟩))]
              · rw [if_neg (fun y => c ((iI_eq (by omega) (by omega) (by omega) (by omega)).mp y))]
            by_cases q : AT TB 1 s3 e3 = 1
            · obtain ⟨v1, v2⟩ := (at_sign h3).mp q
              have h4 : TOK T TB (NS T TB e3) (NE T TB e3) := NT_tok h3.le.2.1
              have e5 : iI (SO T TB s3) = iI 3 := by rw [v1]
              have e6 : lg_cmp (lI (WO T TB s3 e3)) (lI 59) = 0 := (lg_cmp_eq _ _).mpr (by rw [v2])
              rw [if_pos q, if_pos e5, if_pos e6, next10 hT hB _ h3.le.2.1]
              simp only [Option.bind_some]
              rw [if_neg n10]
              exact ih m m2 (no + 1) _ _ _ _ _ _ _ (iI l) (iI a) (iI hh) (iI g) (by omega) (by omega) (by omega) hd2 h4
            · refine Or.inl ⟨s3, iI l, iI a, iI hh, iI g, iI (e3 : Int), iI (no + 1), upI af l.toNat a, upI wi l.toNat g, upI hr l.toNat hh, upI oL no.toNat l, h3.le.1, ?_, ?_⟩
              · rw [if_neg q]
                rfl
              · rw [stop q]
                exact K_no (fun y => q1 ((iI_eq0 (by omega) (by omega)).mp y))
end OO
