/-! WAY: the reference's layers -/
section WE
variable {n tr : Int} {A B Ho BG DN : F1}
theorem BH_or (hw : WV n tr A B Ho BG DN) (e : Nat) {v : Nat} (hv : v < 32) : BH n A B e v = -1 ∨ ∃ b : Nat, b < 32 ∧ BH n A B e v = (b : Int) := by
  unfold BH
  by_cases h1 : e = 30
  · rw [if_pos h1]; exact Or.inr ⟨(v + 16) % 32, by omega, rfl⟩
  · rw [if_neg h1]
    by_cases h2 : (e : Int) < n
    · obtain ⟨a0, a1, b0, b1, ne, h0, h3⟩ := hw.2.2.2.2.1 e h2
      rw [if_pos h2]
      by_cases h4 : A e = ((v % 16 : Nat) : Int)
      · rw [if_pos h4]; exact Or.inr ⟨v - v % 16 + (B e).toNat, by omega, by omega⟩
      · rw [if_neg h4]
        by_cases h5 : B e = ((v % 16 : Nat) : Int)
        · rw [if_pos h5]; exact Or.inr ⟨v - v % 16 + (A e).toNat, by omega, by omega⟩
        · rw [if_neg h5]; exact Or.inl rfl
    · rw [if_neg h2]; exact Or.inl rfl
theorem behind10 (hw : WV n tr A B Ho BG DN) {e v : Nat} (he : e ≤ 30) (hv : v < 32) : mX10_stateBehind (iI (v : Int)) (iI (e : Int)) (iI n) (iF A) (iF B) = some (iI (BH n A B e v)) := by
  have n0 := hw.1
  have h30 := hw.2.1
  by_cases h1 : e = 30
  · subst h1
    rw [mX10_stateBehind, if_pos (show iI ((30 : Nat) : Int) = iI 30 from rfl), iI_add, iI_div (by omega) (by omega) (by omega) (by omega), iI_mul, iI_sub, BH, if_pos rfl]
    rw [show (v : Int) + 16 - ((v : Int) + 16) / 32 * 32 = (((v + 16) % 32 : Nat) : Int) by omega]
  · have x1 : ¬ iI (e : Int) = iI 30 := fun y => by have := (iI_eq (by omega) (by omega) (by omega) (by omega)).mp y; omega
    rw [mX10_stateBehind, if_neg x1, BH, if_neg h1]
    by_cases h2 : (e : Int) < n
    · obtain ⟨a0, a1, b0, b1, ne, h0, h3⟩ := hw.2.2.2.2.1 e h2
      have g := gdn (z := (e : Int)) (n := 30) (by omega) (by omega) (by omega)
      have ee : (e : Int).toNat = e := by omega
      have rr : ∀ F : F1, iF F (iI (e : Int)).toNatClampNeg = iI (F e) := fun F => by rw [rd (by omega) (by omega), ee]
      have eq : (v : Int) - (v : Int) / 16 * 16 = ((v % 16 : Nat) : Int) := by omega
      rw [if_pos ((iI_lt (by omega) (by omega) (by omega) (by omega)).mpr h2), if_neg g, iI_div (by omega) (by omega) (by omega) (by omega), iI_mul, iI_sub, eq, rr, rr, if_pos h2]
      by_cases h4 : A e = ((v % 16 : Nat) : Int)
      · rw [if_pos (by rw [h4]), if_pos h4, if_neg g, if_neg (fun y => by have := (iI_eq (by omega) (by omega) (by omega) (by omega)).mp y; omega), iI_sub, iI_add]
        rw [show (v : Int) - ((v % 16 : Nat) : Int) + B e = ((v - v % 16 : Nat) : Int) + B e by omega]
      · rw [if_neg (fun y => h4 ((iI_eq (by omega) (by omega) (by omega) (by omega)).mp y)), if_neg h4, if_neg g]
        by_cases h5 : B e = ((v % 16 : Nat) : Int)
        · rw [if_pos (by rw [h5]), if_pos h5, if_neg g, if_neg (fun y => by have := (iI_eq (by omega) (by omega) (by omega) (by omega)).mp y; omega), iI_sub, iI_add]
          rw [show (v : Int) - ((v % 16 : Nat) : Int) + A e = ((v - v % 16 : Nat) : Int) + A e by omega]
        · rw [if_neg (fun y => h5 ((iI_eq (by omega) (by omega) (by omega) (by omega)).mp y)), if_neg h5]
    · rw [if_neg (fun y => h2 ((iI_lt (by omega) (by omega) (by omega) (by omega)).mp y)), if_neg h2]
/-- begun and done, as the reference has reckoned them -/
def XY (BG DN X Y : F1) : Prop := ∀ l : Nat, l < 30 → X l = BG l ∧ Y l = DN l
variable {X Y : F1}
theorem comesBy10 (hw : WV n tr A B Ho BG DN) (hx : XY BG DN X Y) {e v : Nat} {t : Int} (he : e = 30 ∨ (e : Int) < n) (hv : v < 32) (ht : 0 ≤ t ∧ t ≤ 1000000) : mX10_comesBy (iI (v : Int)) (iI (e : Int)) (iI t) (iI tr) (iF X) (iF Y) (iF Ho) = some (iI (AW tr Ho BG DN e v t)) := by
  have h30 := hw.2.1
  by_cases h1 : e = 30
  · subst h1
    rw [mX10_comesBy, if_pos (show iI ((30 : Nat) : Int) = iI 30 from rfl), iI_add, AW_30]
  · have h2 := he.resolve_left h1
    have x1 : ¬ iI (e : Int) = iI 30 := fun y => by have := (iI_eq (by omega) (by omega) (by omega) (by omega)).mp y; omega
    obtain ⟨a0, a1, b0, b1, ne, h0, h3⟩ := hw.2.2.2.2.1 e h2
    obtain ⟨g0, g1, d0, d1⟩ := hw.2.2.2.2.2 e (by omega)
    have g := gdn (z := (e : Int)) (n := 30) (by omega) (by omega) (by omega)
    have ee : (e : Int).toNat = e := by omega
    have rr : ∀ F : F1, iF F (iI (e : Int)).toNatClampNeg = iI (F e) := fun F => by rw [rd (by omega) (by omega), ee]
    obtain ⟨ex, ey⟩ := hx e (by omega)
    rw [mX10_comesBy, if_neg x1]
    by_cases c : 16 ≤ v
    · rw [if_pos ((iI_le (by omega) (by omega) (by omega) (by omega)).mpr (by omega)), if_neg g, rr, rr, ey, AW_new h1 c]
      by_cases d : DN e ≤ t
      · rw [if_pos ((iI_le (by omega) (by omega) (by omega) (by omega)).mpr d), if_pos d, if_neg g, iI_add]
      · rw [if_neg (fun y => d ((iI_le (by omega) (by omega) (by omega) (by omega)).mp y)), if_neg d, if_neg g, if_neg g, iI_add]
    · rw [if_neg (fun y => by have := (iI_le (by omega) (by omega) (by omega) (by omega)).mp y; omega), if_neg g, if_neg g, rr, rr, ex, iI_add, AW_old h1 c]
      by_cases d : BG e < t + Ho e
      · rw [if_pos ((iI_lt (by omega) (by omega) (by omega) (by omega)).mpr d), if_pos d]
      · rw [if_neg (fun y => d ((iI_lt (by omega) (by omega) (by omega) (by omega)).mp y)), if_neg d, if_neg g]
/-- the k-th row of 32 -/
def RW (k : Nat) (E Y : F1) : Prop := ∀ v : Nat, v < 32 → E (32 * k + v) = Y v
def OUTR (k : Nat) (E E' : F1) : Prop := ∀ i : Nat, (i < 32 * k ∨ 32 * k + 32 ≤ i) → E' i = E i
theorem OUTR.rf (k : Nat) (E : F1) : OUTR k E E := fun _ _ => rfl
theorem OUTR.go {k : Nat} {E E' E'' : F1} (h : OUTR k E E') (h2 : OUTR k E' E'') : OUTR k E E'' := fun i hi => (h2 i hi).trans (h i hi)
theorem OUTR.rw {j k : Nat} {E E' Y : F1} (h : OUTR k E E') (hj : j ≠ k) (hr : RW j E Y) : RW j E' Y := fun v hv => by
  rw [h (32 * j + v) (by omega)]
  exact hr v hv
theorem RW.up {k b : Nat} {E S : F1} (h : RW k E S) (x : Int) : RW k (upI E (32 * k + b) x) (upI S b x) := fun v hv => by
  by_cases e : v = b
  · subst e; rw [upI_s, upI_s]
  · rw [upI_n e, upI_n (by omega)]; exact h v hv
theorem OUTR.up {k b : Nat} {E : F1} (hb : b < 32) (x : Int) : OUTR k E (upI E (32 * k + b) x) := fun i hi => upI_n (by omega)
theorem early_put {k b e : Nat} {x : Int} {E S : F1} (hk : k < 32) (hE : RW (k + 1) E S) (hS : HR S) (hb : b < 32) (hx : 0 ≤ x ∧ x ≤ 2000000) (v4 : Int32) (kk : Int32 → (Nat → Int32) → Option (Nat → Int32)) : ∃ E' : F1, mX10_goEarly_J116 kk (iI x) (iI (k : Int)) v4 (iI (e : Int)) (iI (b : Int)) (iF E) = kk (iI ((e + 1 : Nat) : Int)) (iF E') ∧ RW (k + 1) E' (rw_ x S b) ∧ OUTR (k + 1) E E' ∧ HR (rw_ x S b) := by
  have g := gdn (z := 32 * (k : Int) + 32 + b) (n := 1056) (by omega) (by omega) (by omega)
  have ei : (32 * (k : Int) + 32 + b).toNat = 32 * (k + 1) + b := by omega
  have r := hS b hb
  have b1 : iF E (iI (32 * (k : Int) + 32 + b)).toNatClampNeg = iI (S b) := by rw [rd (by omega) (by omega), ei, hE b hb]
  rw [mX10_goEarly_J116, iI_mul, iI_add, iI_add, iI_add]
  by_cases c : 120 < x
  · have f9 : fw x = 1000000 := if_neg (by omega)
    have nn : ¬ fw x < S b := by rw [f9]; omega
    refine ⟨E, ?_, ?_, OUTR.rf _ _, ?_⟩
    · rw [if_pos ((iI_lt (by omega) (by omega) (by omega) (by omega)).mpr c)]; rfl
    · rw [rw_, if_neg nn]; exact hE
    · rw [rw_, if_neg nn]; exact hS
  · have f : fw x = x := if_pos (by omega)
    rw [if_neg (fun y => c ((iI_lt (by omega) (by omega) (by omega) (by omega)).mp y)), if_neg g, b1]
    by_cases d : x < S b
    · refine ⟨upI E (32 * (k + 1) + b) x, ?_, ?_, OUTR.up hb x, ?_⟩
      · rw [if_neg (fun y => by have := (iI_le (by omega) (by omega) (by omega) (by omega)).mp y; omega), if_neg g, wr (by omega) (by omega), ei]; rfl
      · rw [rw_, f, if_pos d]; exact hE.up x
      · rw [rw_, f, if_pos d]
        intro v hv
        by_cases y : v = b
        · subst y; rw [upI_s]; omega
        · rw [upI_n y]; exact hS v hv
    · refine ⟨E, ?_, ?_, OUTR.rf _ _, ?_⟩
      · rw [if_pos ((iI_le (by omega) (by omega) (by omega) (by omega)).mpr (by omega))]; rfl
      · rw [rw_, f, if_neg d]; exact hE
      · rw [rw_, f, if_neg d]; exact hS
theorem steps10_go (hw : WV n tr A B Ho BG DN) (hx : XY BG DN X Y) {k s : Nat} (hk : k < 32) (hs : s < 32) {Z : F1} (hZ : HR Z) (kk : (Nat → Int32) → Option (Nat → Int32)) : ∀ (d e m : Nat) (E S : F1), e + d = 31 → d < m → RW k E Z → RW (k + 1) E S → HR S → MINP n tr A B Ho BG DN (fun a e' => a < s ∨ (a = s ∧ e' < e)) (fun _ => 1000000) Z S → ∃ E' S' : F1, mX10_goEarly_L51 (iI n) (iI tr) (iF X) (iF Y) (iF A) (iF B) (iF Ho) (iI (k : Int)) (iI (s : Int)) kk m (iI (e : Int)) (iF E) = kk (iF E') ∧ RW (k + 1) E' S' ∧ OUTR (k + 1) E E' ∧ HR S' ∧ MINP n tr A B Ho BG DN (fun a _ => a < s + 1) (fun _ => 1000000) Z S' := by
  intro d
  induction d with
  | zero =>
    intro e m E S hi hm hE1 hE2 hS h
    obtain ⟨m, rfl⟩ : ∃ a, m = a + 1 := ⟨m - 1, by omega⟩
    refine ⟨E, S, ?_, hE2, OUTR.rf _ _, hS, h.skip (fun _ _ => Int.le_refl _) fun a e' b ha he hb hh hd => Or.inl (by omega)⟩
    rw [mX10_goEarly_L51, if_pos ((iI_lt (by omega) (by omega) (by omega) (by omega)).mpr (by omega))]
  | succ d ih =>
    intro e m E S hi hm hE1 hE2 hS h
    obtain ⟨m, rfl⟩ : ∃ a, m = a + 1 := ⟨m - 1, by omega⟩
    have g := gdn (z := 32 * (k : Int) + s) (n := 1056) (by omega) (by omega) (by omega)
    have ei : (32 * (k : Int) + s).toNat = 32 * k + s := by omega
    have r := hZ s hs
    have b1 : iF E (iI (32 * (k : Int) + s)).toNatClampNeg = iI (Z s) := by rw [rd (by omega) (by omega), ei, hE1 s hs]
    rw [mX10_goEarly_L51, if_neg (fun y => by have := (iI_lt (by omega) (by omega) (by omega) (by omega)).mp y; omega), iI_mul, iI_add, if_neg g, b1]
    by_cases c : 120 < Z s
    · rw [if_pos ((iI_lt (by omega) (by omega) (by omega) (by omega)).mpr c)]
      refine ⟨E, S, rfl, hE2, OUTR.rf _ _, hS, h.skip (fun _ _ => Int.le_refl _) fun a e' b ha he hb hh hd => ?_⟩
      by_cases q : a < s
      · exact Or.inl (Or.inl q)
      · have : a = s := by omega
        subst this
        refine Or.inr ?_
        rw [show Z a = 1000000 by omega]
        exact AR_never hw.2.2.1 hw.ho (BH_v hh)
    · rw [if_neg (fun y => c ((iI_lt (by omega) (by omega) (by omega) (by omega)).mp y)), behind10 hw (by omega) hs]
      simp only [Option.bind_some]
      have cont : ∀ E2 S2 : F1, RW (k + 1) E2 S2 → OUTR (k + 1) E E2 → HR S2 → MINP n tr A B Ho BG DN (fun a e' => a < s ∨ (a = s ∧ e' < e + 1)) (fun _ => 1000000) Z S2 → ∃ E' S' : F1, mX10_goEarly_L51 (iI n) (iI tr) (iF X) (iF Y) (iF A) (iF B) (iF Ho) (iI (k : Int)) (iI (s : Int)) kk m (iI ((e + 1 : Nat) : Int)) (iF E2) = kk (iF E') ∧ RW (k + 1) E' S' ∧ OUTR (k + 1) E E' ∧ HR S' ∧ MINP n tr A B Ho BG DN (fun a _ => a < s + 1) (fun _ => 1000000) Z S' := fun E2 S2 q1 q2 q3 q4 => by
        obtain ⟨E', S', y1, y2, y3, y4, y5⟩ := ih (e + 1) m E2 S2 (by omega) (by omega) (q2.rw (by omega) hE1) q1 q3 q4
        exact ⟨E', S', y1, y2, q2.go y3, y4, y5⟩
      rcases BH_or hw e hs with q | ⟨b, hb, q⟩
      · rw [q, if_pos rfl, mX10_goEarly_J116, if_pos ((iI_lt (by omega) (by omega) (by omega) (by omega)).mpr (by omega)), iI_add]
        refine cont E S hE2 (OUTR.rf _ _) hS (h.skip (fun _ _ => Int.le_refl _) fun a e' b ha he hb hh hd => ?_)
        rcases hd with hd | ⟨hd, hd2⟩
        · exact Or.inl (Or.inl hd)
        · by_cases q2 : e' < e
          · exact Or.inl (Or.inr ⟨hd, q2⟩)
          · have : e' = e := by omega
            subst this
            rw [hd, q] at hh
            omega
      · have hv := BH_v q
        have hge := AW_ge (BG := BG) (DN := DN) (v := s) hw.2.2.1 hw.ho hv (t := Z s) (by omega)
        have hle : AW tr Ho BG DN e s (Z s) ≤ 2000000 := by
          by_cases h1 : e = 30
          · subst h1; rw [AW_30]; have := hw.2.2.2.1; omega
          · have h3 := hw.2.2.2.2.1 e (hv.resolve_left h1)
            have h4 := hw.2.2.2.2.2 e (by omega)
            by_cases h2 : 16 ≤ s
            · rw [AW_new h1 h2]; split <;> omega
            · rw [AW_old h1 h2]; split <;> omega
        obtain ⟨E2, x1, x2, x3, x4⟩ := early_put (e := e) hk hE2 hS hb (x := AW tr Ho BG DN e s (Z s)) (by omega) (iI (s : Int)) (fun (v5_18 : Int32) (t_early_18 : Nat → Int32) => (mX10_goEarly_L51 (iI n) (iI tr) (iF X) (iF Y) (iF A) (iF B) (iF Ho) (iI (k : Int)) (iI (s : Int)) kk m v5_18 t_early_18))
        rw [rw_rlx (e := e) (a := s) (Y := Z) (x := AW tr Ho BG DN e s (Z s)) rfl] at x2 x4
        rw [q, if_neg (fun y => by have := (iI_eq (by omega) (by omega) (by omega) (by omega)).mp y; omega), if_neg g, comesBy10 hw hx hv hs (by omega)]
        simp only [Option.bind_some]
        rw [x1]
        refine cont E2 _ x2 x3 x4 (h.step hs (by omega) hb q fun a' e' b' ha' he' hb' hh' hd => ?_)
        rcases hd with hd | ⟨hd, hd2⟩
        · exact Or.inl (Or.inl hd)
        · by_cases q2 : e' < e
          · exact Or.inl (Or.inr ⟨hd, q2⟩)
          · exact Or.inr ⟨hd, by omega⟩
theorem stands10_go (hw : WV n tr A B Ho BG DN) (hx : XY BG DN X Y) {k : Nat} (hk : k < 32) {Z : F1} (hZ : HR Z) (kk : (Nat → Int32) → Option (Nat → Int32)) : ∀ (d s m : Nat) (E S : F1), s + d = 32 → d < m → RW k E Z → RW (k + 1) E S → HR S → MINP n tr A B Ho BG DN (fun a _ => a < s) (fun _ => 1000000) Z S → ∃ E' S' : F1, mX10_goEarly_L41 (iI n) (iI tr) (iF X) (iF Y) (iF A) (iF B) (iF Ho) (iI (k : Int)) kk m (iI (s : Int)) (iF E) = kk (iF E') ∧ RW (k + 1) E' S' ∧ OUTR (k + 1) E E' ∧ HR S' ∧ MINR n tr A B Ho BG DN (fun _ => 1000000) Z S' := by
  have hkF := kF_ge
  intro d
  induction d with
  | zero =>
    intro s m E S hi hm hE1 hE2 hS h
    obtain ⟨m, rfl⟩ : ∃ a, m = a + 1 := ⟨m - 1, by omega⟩
    refine ⟨E, S, ?_, hE2, OUTR.rf _ _, hS, h.done fun a e b ha he hb hh => by omega⟩
    rw [mX10_goEarly_L41, if_pos ((iI_le (by omega) (by omega) (by omega) (by omega)).mpr (by omega))]
  | succ d ih =>
    intro s m E S hi hm hE1 hE2 hS h
    obtain ⟨m, rfl⟩ : ∃ a, m = a + 1 := ⟨m - 1, by omega⟩
    obtain ⟨E2, S2, x1, x2, x3, x4, x5⟩ := steps10_go hw hx hk (s := s) (by omega) hZ (fun (t_early_20 : Nat → Int32) => (mX10_goEarly_L41 (iI n) (iI tr) (iF X) (iF Y) (iF A) (iF B) (iF Ho) (iI (k : Int)) kk m ((iI (s : Int)) + (iI 1)) t_early_20)) 31 0 kF E S (by omega) (by omega) hE1 hE2 hS (h.skip (fun _ _ => Int.le_refl _) fun a e' b ha he hb hh hd => Or.inl (by omega))
    obtain ⟨E', S', y1, y2, y3, y4, y5⟩ := ih (s + 1) m E2 S2 (by omega) (by omega) (x3.rw (by omega) hE1) x2 x4 x5
    refine ⟨E', S', ?_, y2, x3.go y3, y4, y5⟩
    rw [mX10_goEarly_L41, if_neg (fun y => by have := (iI_le (by omega) (by omega) (by omega) (by omega)).mp y; omega)]
    refine x1.trans ?_
    show mX10_goEarly_L41 _ _ _ _ _ _ _ _ kk m (iI (s : Int) + iI 1) (iF E2) = _
    rw [iI_add]
    exact y1
/-- a row of 32 as a row of its own -/
def row32 (k : Nat) (E : F1) : F1 := fun v => E (32 * k + v)
theorem MINR.congr {base Y1 S1 Y2 S2 : F1} (h : MINR n tr A B Ho BG DN base Y1 S1) (hy : ∀ v : Nat, v < 32 → Y2 v = Y1 v) (hs : ∀ v : Nat, v < 32 → S2 v = S1 v) : MINR n tr A B Ho BG DN base Y2 S2 := by
  refine ⟨fun b hb => by rw [hs b hb]; exact h.1 b hb, fun a e b ha he hb hh => by rw [hs b hb, hy a ha]; exact h.2.1 a e b ha he hb hh, fun b hb => ?_⟩
  rw [hs b hb]
  rcases h.2.2 b hb with x | ⟨a, e, ha, he, hh, x⟩
  · exact Or.inl x
  · exact Or.inr ⟨a, e, ha, he, hh, by rw [hy a ha]; exact x⟩
theorem HR.congr {F G : F1} (h : HR F) (e : ∀ v : Nat, v < 32 → G v = F v) : HR G := fun v hv => by rw [e v hv]; exact h v hv
theorem layers_go (hw : WV n tr A B Ho BG DN) (hx : XY BG DN X Y) : ∀ (d k m : Nat) (E : F1), k + d = 32 → d < m → (∀ j : Nat, j < k → MINR n tr A B Ho BG DN (fun _ => 1000000) (row32 j E) (row32 (j + 1) E)) → (∀ j : Nat, j ≤ k → HR (row32 j E)) → (∀ i : Nat, 32 * k + 32 ≤ i → i < 1056 → E i = 1000000) → ∃ E' : F1, mX10_goEarly_L32 (iI n) (iI tr) (iF X) (iF Y) (iF A) (iF B) (iF Ho) m (iI (k : Int)) (iF E) = some (iF E') ∧ (∀ v : Nat, v < 32 → row32 0 E' v = row32 0 E v) ∧ (∀ j : Nat, j < 32 → MINR n tr A B Ho BG DN (fun _ => 1000000) (row32 j E') (row32 (j + 1) E')) ∧ ∀ j : Nat, j ≤ 32 → HR (row32 j E') := by
  have hkF := kF_ge
  intro d
  induction d with
  | zero =>
    intro k m E hi hm h1 h2 h3
    obtain ⟨m, rfl⟩ : ∃ a, m = a + 1 := ⟨m - 1, by omega⟩
    have e : k = 32 := by omega
    subst e
    refine ⟨E, ?_, fun _ _ => rfl, h1, h2⟩
    rw [mX10_goEarly_L32, if_pos ((iI_le (by omega) (by omega) (by omega) (by omega)).mpr (by omega))]
  | succ d ih =>
    intro k m E hi hm h1 h2 h3
    obtain ⟨m, rfl⟩ : ∃ a, m = a + 1 := ⟨m - 1, by omega⟩
    obtain ⟨E2, S2, x1, x2, x3, x4, x5⟩ := stands10_go hw hx (k := k) (by omega) (h2 k (Nat.le_refl k)) (fun (t_early_21 : Nat → Int32) => (mX10_goEarly_L32 (iI n) (iI tr) (iF X) (iF Y) (iF A) (iF B) (iF Ho) m ((iI (k : Int)) + (iI 1)) t_early_21)) 32 0 kF E (fun _ => 1000000) (by omega) (by omega) (fun _ _ => rfl) (fun v hv => h3 _ (by omega) (by omega)) (fun _ _ => Or.inr rfl) (MINP.start _ (fun a e _ _ h => by omega) _ _)
    have e1 : ∀ j : Nat, j ≠ k + 1 → ∀ v : Nat, v < 32 → row32 j E2 v = row32 j E v := fun j hj v hv => x3 (32 * j + v) (by omega)
    have e2 : ∀ v : Nat, v < 32 → row32 (k + 1) E2 v = S2 v := x2
    obtain ⟨E', y1, y2, y3⟩ := ih (k + 1) m E2 (by omega) (by omega) (fun j hj => by
      by_cases c : j = k
      · subst c; exact x5.congr (e1 j (by omega)) e2
      · exact (h1 j (by omega)).congr (e1 j (by omega)) (e1 (j + 1) (by omega))) (fun j hj => by
      by_cases c : j = k + 1
      · subst c; exact x4.congr e2
      · exact (h2 j (by omega)).congr (e1 j c)) (fun i h4 h5 => by rw [x3 i (by omega)]; exact h3 i (by omega) h5)
    refine ⟨E', ?_, fun v hv => (y2 v hv).trans (e1 0 (by omega) v hv), y3⟩
    rw [mX10_goEarly_L32, if_neg (fun y => by have := (iI_le (by omega) (by omega) (by omega) (by omega)).mp y; omega)]
    refine x1.trans ?_
    show mX10_goEarly_L32 _ _ _ _ _ _ _ m (iI (k : Int) + iI 1) (iF E2) = _
    rw [iI_add]
    exact y1
theorem filly_go (kk : (Nat → Int32) → Option (Nat → Int32)) {Z : Nat} (hZ : Z = 1056) : ∀ (d i m : Nat) (C : F1), i + d = Z → d < m → ∃ C' : F1, mX10_goEarly_L2 kk m (iI (i : Int)) (iF C) = kk (iF C') ∧ ∀ v : Nat, v < Z → (i ≤ v → C' v = 1000000) ∧ (v < i → C' v = C v) := by
  intro d
  induction d with
  | zero =>
    intro i m C hi hm
    obtain ⟨m, rfl⟩ : ∃ a, m = a + 1 := ⟨m - 1, by omega⟩
    refine ⟨C, ?_, fun v hv => ⟨fun h => by omega, fun _ => rfl⟩⟩
    rw [mX10_goEarly_L2, if_pos ((iI_le (by omega) (by omega) (by omega) (by omega)).mpr (by omega))]
  | succ d ih =>
    intro i m C hi hm
    obtain ⟨m, rfl⟩ : ∃ a, m = a + 1 := ⟨m - 1, by omega⟩
    have ei : (i : Int).toNat = i := by omega
    have g := gdn (z := (i : Int)) (n := 1056) (by omega) (by omega) (by omega)
    obtain ⟨C', x1, x2⟩ := ih (i + 1) m (upI C i 1000000) (by omega) (by omega)
    refine ⟨C', ?_, fun v hv => ⟨fun h => ?_, fun h => ?_⟩⟩
    · rw [mX10_goEarly_L2, if_neg (fun k => by have := (iI_le (by omega) (by omega) (by omega) (by omega)).mp k; omega), if_neg g, wr (by omega) (by omega), ei, iI_add]
      exact x1
    · by_cases e : v = i
      · rw [(x2 v hv).2 (by omega), e, upI_s]
      · exact (x2 v hv).1 (by omega)
    · rw [(x2 v hv).2 (by omega), upI_n (by omega)]
theorem goEarly_iI (hw : WV n tr A B Ho BG DN) (hx : XY BG DN X Y) {st : Nat} {h : Int} (hst : st < 32) (hh : 0 ≤ h ∧ h ≤ 120) (E : F1) : ∃ E' : F1, mX10_goEarly (iI (st : Int)) (iI h) (iI n) (iI tr) (iF X) (iF Y) (iF E) (iF A) (iF B) (iF Ho) = some (iF E') ∧ (∀ v : Nat, v < 32 → row32 0 E' v = if v = st then h else 1000000) ∧ (∀ j : Nat, j < 32 → MINR n tr A B Ho BG DN (fun _ => 1000000) (row32 j E') (row32 (j + 1) E')) ∧ ∀ j : Nat, j ≤ 32 → HR (row32 j E') := by
  have hkF := kF_ge
  have g := gdn (z := (st : Int)) (n := 1056) (by omega) (by omega) (by omega)
  have es : (st : Int).toNat = st := by omega
  obtain ⟨C, x1, x2⟩ := filly_go (fun (t_early_3 : Nat → Int32) => (if (iI (st : Int)) < 0 ∨ 1056 ≤ Int32.toNatClampNeg (iI (st : Int)) then none else mX10_goEarly_L32 (iI n) (iI tr) (iF X) (iF Y) (iF A) (iF B) (iF Ho) kF (iI 0) (upd t_early_3 (Int32.toNatClampNeg (iI (st : Int))) (iI h)))) (Z := 1056) rfl 1056 0 kF E (by omega) (by omega)
  have e0 : ∀ v : Nat, v < 32 → row32 0 (upI C st h) v = if v = st then h else 1000000 := fun v hv => by
    show upI C st h (32 * 0 + v) = _
    rw [show 32 * 0 + v = v by omega]
    by_cases c : v = st
    · subst c; rw [upI_s, if_pos rfl]
    · rw [upI_n c, if_neg c]; exact (x2 v (by omega)).1 (by omega)
  obtain ⟨E', y1, y2, y3⟩ := layers_go hw hx 32 0 kF (upI C st h) (by omega) (by omega) (fun j hj => by omega) (fun j hj => by
    have : j = 0 := by omega
    subst this
    intro v hv
    rw [e0 v hv]
    split <;> omega) (fun i h1 h2 => by rw [upI_n (by omega)]; exact (x2 i h2).1 (by omega))
  refine ⟨E', ?_, fun v hv => (y2 v hv).trans (e0 v hv), y3⟩
  rw [mX10_goEarly]
  refine x1.trans ?_
  show (if (iI (st : Int)) < 0 ∨ 1056 ≤ Int32.toNatClampNeg (iI (st : Int)) then none else _) = _
  rw [if_neg g, wr (by omega) (by omega), es]
  exact y1
end WE
