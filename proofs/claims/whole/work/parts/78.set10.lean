/-! PUSHED: the reference, chains and cars -/
section P8
variable {T : Nat → F1} {PU : F1} {E : Int} {N : Nat} {S M : F1}
theorem turn_go (hg : GV T PU E N) {k : Nat} {D : Nat → Prop} {q CB : F1} {L : Nat} (h : BF T PU E N M k D q L (fun d => CB (M d).toNat)) (h0 : M k = -1) {s0 : Int} : ∀ (n i m : Nat) (S0 M0 : F1) (s : Int), i < n → i < L → i < m → (∀ c : Nat, c < N → S0 c = M0 c) → 0 ≤ s → s < 1920 → CS T PU E N M q M0 i s → (∀ t : Int, 0 ≤ t → cn M0 t N + (if s = t then 1 else 0) = cn M t N + (if s0 = t then 1 else 0)) →
      ∃ S' M' : F1, mX10_turn_L10 (iI (k : Int)) (iF CB) m (iI s) (iI (q i)) (iF S0) = some (iF S') ∧ (∀ c : Nat, c < N → S' c = M' c) ∧ DNE T PU E N M k M' ∧ ∀ t : Int, 0 ≤ t → cn M' t N = cn M t N + (if s0 = t then 1 else 0) := by
  intro n
  induction n with
  | zero => intro i m S0 M0 s hi; exact absurd hi (Nat.not_lt_zero _)
  | succ n ih =>
    intro i m S0 M0 s hi hL hm hS hs0 hs1 hc hn
    obtain ⟨m, rfl⟩ : ∃ a, m = a + 1 := ⟨m - 1, by omega⟩
    have hN := hg.1
    have r := h.rg i hL
    have r0 := h.rg 0 h.l1
    have q0 := h.q0
    obtain ⟨x, ex⟩ : ∃ x : Nat, q i = (x : Int) := ⟨(q i).toNat, by omega⟩
    have hxx : (x : Int).toNat = x := by omega
    have tx : (q i).toNat = x := by omega
    have gx := gdn (z := (x : Int)) (n := 30) (by omega) (by omega) (by omega)
    have hS2 : ∀ c : Nat, c < N → upI S0 x s c = upI M0 x s c := fun c hcN => by
      by_cases e : c = x
      · rw [e, upI_s, upI_s]
      · rw [upI_n e, upI_n e]; exact hS c hcN
    rw [ex, mX10_turn_L10]
    rcases Nat.eq_zero_or_pos i with e | e
    · subst e
      have ek : x = k := by omega
      have e1 := CS.last hg h hc
      rw [tx] at e1
      refine ⟨upI S0 x s, upI M0 x s, ?_, hS2, e1, fun t ht => ?_⟩
      · rw [if_pos (by rw [ek]), if_neg gx, wr (by omega) (by omega), hxx]
      · have c0 := hc.2.2.1 0 (Nat.le_refl 0)
        rw [tx] at c0
        have := hn t ht
        rw [cn_up (by omega), c0, ek, h0, if_neg (by omega)]
        omega
    · have dk := h.ds 0 i e hL
      obtain ⟨j, a1, a2, a3⟩ := CS.next hg h e hL hc
      rw [tx] at a2 a3
      have rj := h.rg j (by omega)
      have u := a3.2.1.in hg (by omega)
      obtain ⟨-, -, -, -, -, -, -, -, -, -, -, s1, s2⟩ := u
      have c3 := hc.2.2.1 i (Nat.le_refl i)
      rw [tx] at c3
      have b1 : iF S0 (iI (x : Int)).toNatClampNeg = iI (M x) := by rw [rd (by omega) (by omega), hxx, hS x (by omega), c3]
      have gs := gdn (z := M x) (n := 1920) (by omega) (by omega) (by omega)
      have b2 : iF CB (iI (M x)).toNatClampNeg = iI (q j) := by
        rw [rd (by omega) (by omega)]
        exact congrArg iI a2
      rw [if_neg (fun y => by have := (iI_eq (by omega) (by omega) (by omega) (by omega)).mp y; omega), if_neg gx, if_neg gx, b1, if_neg gs, b2, wr (by omega) (by omega), hxx]
      refine ih j m (upI S0 x s) (upI M0 x s) (M x) (by omega) (by omega) (by omega) hS2 s1 s2 a3 (fun t ht => ?_)
      have := hn t ht
      rw [cn_up (by omega), c3]
      omega
theorem places10_go (hg : GV T PU E N) (hv : VM T PU E N M) {k : Nat} (h0 : M k = -1) (hS : ∀ c : Nat, c < N → S c = M c) {Fl C : F1} (hF : ∀ s : Nat, s < 1920 → Fl s = cn M s N) (hC : ∀ c : Nat, c < N → ∀ p : Nat, p < 16 → C (16 * c + p) = T c p) {x : Nat} (hx : x < N) {hd : Nat}
    (k142 : Int32 → (Nat → Int32) → (Nat → Int32) → Option (Int32 × (Nat → Int32) × (Nat → Int32) × (Nat → Int32) × (Nat → Int32))) (k216 : Int32 → (Nat → Int32) → (Nat → Int32) → Option (Int32 × (Nat → Int32) × (Nat → Int32) × (Nat → Int32) × (Nat → Int32))) :
    ∀ (d p m L : Nat) (CB q : F1), p + d = 16 → d < m → hd < L → q hd = (x : Int) → (∀ p' : Nat, p' < p → ∀ h' : Int, T x p' ≤ h' → h' < E → 0 < PU p' → VR CB (120 * (p' : Int) + h')) → KK T PU E N M k CB q L →
      (∃ (L' : Nat) (CB' q' : F1), mX10_place_L54 (iI E) (iI (N : Int)) (iF C) (iF Fl) (iF PU) (iF S) (iI (x : Int)) k142 k216 m (iI (L : Int)) (iI (p : Int)) (iF CB) (iF q) = k216 (iI (L' : Int)) (iF CB') (iF q') ∧ GOR T PU E N M k CB q L CB' q' L' ∧ ∀ s : Int, UU T PU E x s → VR CB' s) ∨
      (∃ (s : Int) (L' : Nat) (CB' q' : F1), mX10_place_L54 (iI E) (iI (N : Int)) (iF C) (iF Fl) (iF PU) (iF S) (iI (x : Int)) k142 k216 m (iI (L : Int)) (iI (p : Int)) (iF CB) (iF q) = k142 (iI s) (iF (upI CB' s.toNat (x : Int))) (iF q') ∧ GOR T PU E N M k CB q L CB' q' L' ∧ FRR T PU E N M x CB' s) := by
  intro d
  induction d with
  | zero =>
    intro p m L CB q hi hm hL hq hb hK
    obtain ⟨m, rfl⟩ : ∃ a, m = a + 1 := ⟨m - 1, by omega⟩
    refine Or.inl ⟨L, CB, q, ?_, ⟨hK, Nat.le_refl L, fun _ _ => rfl, fun _ hs => hs⟩, fun s hs => ?_⟩
    · rw [mX10_place_L54, if_pos ((iI_le (by omega) (by omega) (by omega) (by omega)).mpr (by omega))]
    · obtain ⟨p', h', e, h1, h2, h3, h4⟩ := hs
      rw [e]
      exact hb p' (by omega) h' h3 h4 h2
  | succ d ih =>
    intro p m L CB q hi hm hL hq hb hK
    obtain ⟨m, rfl⟩ : ∃ a, m = a + 1 := ⟨m - 1, by omega⟩
    have hp : p < 16 := by omega
    have hN := hg.1
    have hE0 := hg.2.1
    have hE1 := hg.2.2.1
    have ht := hg.2.2.2.2 x hx p hp
    have hkF := kF_ge
    have g := gdn (z := 16 * (x : Int) + (p : Int)) (n := 480) (by omega) (by omega) (by omega)
    have a1 : iF C (iI (16 * (x : Int) + (p : Int))).toNatClampNeg = iI (T x p) := by rw [rd (by omega) (by omega), show (16 * (x : Int) + (p : Int)).toNat = 16 * x + p by omega, hC x hx p hp]
    rw [mX10_place_L54, if_neg (fun k => by have := (iI_le (by omega) (by omega) (by omega) (by omega)).mp k; omega), iI_mul, iI_add, if_neg g, a1, iI_add]
    rcases hours10_go (S := S) hg hv h0 hS hF hx hp (hd := hd) (fun (v8_22 : Int32) (t_cameBy_22 : Nat → Int32) (t_queue_22 : Nat → Int32) => (k142 v8_22 t_cameBy_22 t_queue_22)) (fun (v4_23 : Int32) (t_cameBy_23 : Nat → Int32) (t_queue_23 : Nat → Int32) => (mX10_place_L54 (iI E) (iI (N : Int)) (iF C) (iF Fl) (iF PU) (iF S) (iI (x : Int)) k142 k216 m v4_23 (iI ((p : Int) + 1)) t_cameBy_23 t_queue_23)) 120 kF L (T x p) CB q (by omega) (Int.le_refl _) (by omega) (by omega) hL hq hK with ⟨L1, CB1, q1, y1, y2, y3⟩ | ⟨s1, L1, CB1, q1, y1, y2, y3⟩
    · have y22 := y2.2.1
      rcases ih (p + 1) m L1 CB1 q1 (by omega) (by omega) (by omega) (by rw [y2.2.2.1 hd hL]; exact hq) (fun p' hp' h' h1 h2 h3 => by
        by_cases e : p' = p
        · subst e; exact y3 h' h1 h2 h3
        · exact y2.2.2.2 _ (hb p' (by omega) h' h1 h2 h3)) y2.1 with ⟨L2, CB2, q2, z1, z2, z3⟩ | ⟨s2, L2, CB2, q2, z1, z2, z3⟩
      · exact Or.inl ⟨L2, CB2, q2, y1.trans z1, y2.tr z2, z3⟩
      · exact Or.inr ⟨s2, L2, CB2, q2, y1.trans z1, y2.tr z2, z3⟩
    · exact Or.inr ⟨s1, L1, CB1, q1, y1, y2, y3⟩
theorem set10_go (hg : GV T PU E N) (hv : VM T PU E N M) {k : Nat} (hk : k < N) (h0 : M k = -1) (hS : ∀ c : Nat, c < N → S c = M c) {Fl C : F1} (hF : ∀ s : Nat, s < 1920 → Fl s = cn M s N) (hC : ∀ c : Nat, c < N → ∀ p : Nat, p < 16 → C (16 * c + p) = T c p) :
    ∀ (d hd m L : Nat) (CB q : F1), hd + d = 30 → d < m → hd ≤ L → (∀ i : Nat, i < hd → ∀ s : Int, UU T PU E (q i).toNat s → VR CB s) → KK T PU E N M k CB q L →
      ∃ (a : Int) (CB' Fl' q' S' M' : F1), mX10_place_L34 (iI E) (iI (N : Int)) (iF C) (iF Fl) (iF PU) (iF S) (fun (v8_26 : Int32) (t_cameBy_26 : Nat → Int32) (t_queue_26 : Nat → Int32) => (if v8_26 < 0 ∨ 1920 ≤ Int32.toNatClampNeg v8_26 then none else (if v8_26 < 0 ∨ 1920 ≤ Int32.toNatClampNeg v8_26 then none else (Option.bind (mX10_turn v8_26 (iI (k : Int)) t_cameBy_26 (iF S)) (fun o29 => some ((iI 1), t_cameBy_26, (upd (iF Fl) (Int32.toNatClampNeg v8_26) (((iF Fl) (Int32.toNatClampNeg v8_26)) + (iI 1))), t_queue_26, o29)))))) m (iI (hd : Int)) (iI (L : Int)) (iF CB) (iF q) = some (iI a, iF CB', iF Fl', iF q', iF S') ∧ (∀ c : Nat, c < N → S' c = M' c) ∧ (∀ s : Nat, s < 1920 → Fl' s = cn M' s N) ∧ ((a = 0 ∧ M' = M ∧ ¬ EXT T PU E N M k) ∨ (a = 1 ∧ DNE T PU E N M k M')) := by
  intro d
  have hN := hg.1
  have hE1 := hg.2.2.1
  have stop : ∀ (hd L : Nat) (CB q : F1), L ≤ hd → (∀ i : Nat, i < hd → ∀ s : Int, UU T PU E (q i).toNat s → VR CB s) → KK T PU E N M k CB q L → ¬ EXT T PU E N M k := by
    intro hd L CB q c hpr hK
    refine no_ext hg hk h0 (V := VR CB) (fun s hs => hK.2.1 s hs) (fun s hs => ?_) (fun c hc hcv s hs => ?_)
    · have q0 := hK.2.2.q0
      have l1 := hK.2.2.l1
      refine hpr 0 (by omega) s ?_
      rw [show (q 0).toNat = k by omega]; exact hs
    · obtain ⟨i, a, b, e⟩ := hK.2.2.al c hc hcv
      refine hpr i (by omega) s ?_
      rw [show (q i).toNat = c by omega]; exact hs
  induction d with
  | zero =>
    intro hd m L CB q hi hm hL hpr hK
    obtain ⟨m, rfl⟩ : ∃ a, m = a + 1 := ⟨m - 1, by omega⟩
    have hLN := hK.2.2.len
    refine ⟨0, CB, Fl, q, S, M, ?_, hS, hF, Or.inl ⟨rfl, rfl, stop hd L CB q (by omega) hpr hK⟩⟩
    rw [mX10_place_L34, if_pos ((iI_le (by omega) (by omega) (by omega) (by omega)).mpr (by omega))]
  | succ d ih =>
    intro hd m L CB q hi hm hL hpr hK
    obtain ⟨m, rfl⟩ : ∃ a, m = a + 1 := ⟨m - 1, by omega⟩
    have hLN := hK.2.2.len
    by_cases c : L ≤ hd
    · refine ⟨0, CB, Fl, q, S, M, ?_, hS, hF, Or.inl ⟨rfl, rfl, stop hd L CB q c hpr hK⟩⟩
      rw [mX10_place_L34, if_pos ((iI_le (by omega) (by omega) (by omega) (by omega)).mpr (by omega))]
    · have r := hK.2.2.rg hd (by omega)
      have hkF := kF_ge
      obtain ⟨x, ex⟩ : ∃ x : Nat, q hd = (x : Int) := ⟨(q hd).toNat, by omega⟩
      have hdd : (hd : Int).toNat = hd := by omega
      have gh := gdn (z := (hd : Int)) (n := 30) (by omega) (by omega) (by omega)
      have b1 : iF q (iI (hd : Int)).toNatClampNeg = iI (x : Int) := by rw [rd (by omega) (by omega), hdd, ex]
      rw [mX10_place_L34, if_neg (fun k => by have := (iI_le (by omega) (by omega) (by omega) (by omega)).mp k; omega), if_neg gh, b1]
      rcases places10_go (S := S) hg hv h0 hS hF hC (x := x) (by omega) (hd := hd) (fun (v8_26 : Int32) (t_cameBy_26 : Nat → Int32) (t_queue_26 : Nat → Int32) => (if v8_26 < 0 ∨ 1920 ≤ Int32.toNatClampNeg v8_26 then none else (if v8_26 < 0 ∨ 1920 ≤ Int32.toNatClampNeg v8_26 then none else (Option.bind (mX10_turn v8_26 (iI (k : Int)) t_cameBy_26 (iF S)) (fun o29 => some ((iI 1), t_cameBy_26, (upd (iF Fl) (Int32.toNatClampNeg v8_26) (((iF Fl) (Int32.toNatClampNeg v8_26)) + (iI 1))), t_queue_26, o29)))))) (fun (v4_25 : Int32) (t_cameBy_25 : Nat → Int32) (t_queue_25 : Nat → Int32) => (mX10_place_L34 (iI E) (iI (N : Int)) (iF C) (iF Fl) (iF PU) (iF S) (fun (v8_26 : Int32) (t_cameBy_26 : Nat → Int32) (t_queue_26 : Nat → Int32) => (if v8_26 < 0 ∨ 1920 ≤ Int32.toNatClampNeg v8_26 then none else (if v8_26 < 0 ∨ 1920 ≤ Int32.toNatClampNeg v8_26 then none else (Option.bind (mX10_turn v8_26 (iI (k : Int)) t_cameBy_26 (iF S)) (fun o29 => some ((iI 1), t_cameBy_26, (upd (iF Fl) (Int32.toNatClampNeg v8_26) (((iF Fl) (Int32.toNatClampNeg v8_26)) + (iI 1))), t_queue_26, o29)))))) m (iI (hd : Int) + (iI 1)) v4_25 t_cameBy_25 t_queue_25)) 16 0 kF L CB q (by omega) (by omega) (by omega) ex (fun p' hp' => absurd hp' (Nat.not_lt_zero _)) hK with ⟨L1, CB1, q1, y1, y2, y3⟩ | ⟨s1, L1, CB1, q1, y1, y2, y3⟩
      · have y22 := y2.2.1
        obtain ⟨a, CB2, Fl2, q2, S2, M2, z1, z2⟩ := ih (hd + 1) m L1 CB1 q1 (by omega) (by omega) (by omega) (fun i hi2 s hs => by
          rw [y2.2.2.1 i (by omega)] at hs
          by_cases e : i = hd
          · subst e
            rw [show (q i).toNat = x by omega] at hs
            exact y3 s hs
          · exact y2.2.2.2 s (hpr i (by omega) s hs)) y2.1
        refine ⟨a, CB2, Fl2, q2, S2, M2, Eq.trans y1 ?_, z2⟩
        show mX10_place_L34 _ _ _ _ _ _ _ m (iI (hd : Int) + iI 1) _ _ _ = _
        rw [iI_add]
        exact z1
      · have y22 := y2.2.1
        have yq := y2.2.2.1 hd (by omega)
        obtain ⟨f1, f2, f3⟩ := y3
        obtain ⟨-, -, -, -, -, -, -, -, -, -, -, s0, s9⟩ := f1.in hg (by omega)
        have hl1 := y2.1.2.2.len
        have gs := gdn (z := s1) (n := 1920) (by omega) (by omega) (by omega)
        have hBF := y2.1.2.2.cp (P' := fun d => upI CB1 s1.toNat (x : Int) (M d).toNat) (fun c _ hc => by
          have c2 : M c ≠ s1 := fun y => f2 (by rw [← y]; exact hc)
          have c3 := hc.1
          exact upI_n (by omega))
        obtain ⟨S', M', z1, z2, z3, z4⟩ := turn_go (s0 := s1) hg hBF h0 30 hd kF S M s1 (by omega) (by omega) (by omega) hS s0 s9 ⟨hv, by rw [yq, show (q hd).toNat = x by omega]; exact f1, fun _ _ => rfl, f3, fun _ => Iff.rfl⟩ (fun t _ => rfl)
        refine ⟨1, upI CB1 s1.toNat (x : Int), upI Fl s1.toNat (Fl s1.toNat + 1), q1, S', M', ?_, z2, fun t ht => ?_, Or.inr ⟨rfl, z3⟩⟩
        · refine Eq.trans y1 ?_
          rw [yq, ex] at z1
          have z1' : mX10_turn (iI s1) (iI (k : Int)) (iF (upI CB1 s1.toNat (x : Int))) (iF S) = some (iF S') := by
            rw [mX10_turn, if_neg gs, rd (by omega) (by omega), upI_s]
            exact z1
          simp only [if_neg gs, z1', Option.bind_some]
          rw [rd (by omega) (by omega), iI_add, wr (by omega) (by omega)]
        · rw [z4 t (by omega)]
          by_cases e : t = s1.toNat
          · rw [e, upI_s, if_pos (by omega), hF _ (by omega)]
          · rw [upI_n e, if_neg (by omega), hF _ ht]; omega
end P8
