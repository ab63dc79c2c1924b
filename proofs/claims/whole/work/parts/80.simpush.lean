/-! PUSHED: answers -/
section P9
variable {T : Nat → F1} {PU : F1} {E : Int} {N : Nat} {S M : F1}
theorem fillm_go (kk : (Nat → Int32) → Option (Int32 × (Nat → Int32) × (Nat → Int32) × (Nat → Int32) × (Nat → Int32))) {Z : Nat} (hZ : Z = 1920) : ∀ (d i m : Nat) (C : F1), i + d = Z → d < m → ∃ C' : F1, mX10_place_L2 kk m (iI (i : Int)) (iF C) = kk (iF C') ∧ ∀ v : Nat, v < Z → (i ≤ v → C' v = -1) ∧ (v < i → C' v = C v) := by
  intro d
  induction d with
  | zero =>
    intro i m C hi hm
    obtain ⟨m, rfl⟩ : ∃ a, m = a + 1 := ⟨m - 1, by omega⟩
    refine ⟨C, ?_, fun v hv => ⟨fun h => by omega, fun _ => rfl⟩⟩
    rw [mX10_place_L2, if_pos ((iI_le (by omega) (by omega) (by omega) (by omega)).mpr (by omega))]
  | succ d ih =>
    intro i m C hi hm
    obtain ⟨m, rfl⟩ : ∃ a, m = a + 1 := ⟨m - 1, by omega⟩
    have ei : (i : Int).toNat = i := by omega
    have g := gdn (z := (i : Int)) (n := 1920) (by omega) (by omega) (by omega)
    obtain ⟨C', x1, x2⟩ := ih (i + 1) m (upI C i (-1)) (by omega) (by omega)
    refine ⟨C', ?_, fun v hv => ⟨fun h => ?_, fun h => ?_⟩⟩
    · rw [mX10_place_L2, if_neg (fun k => by have := (iI_le (by omega) (by omega) (by omega) (by omega)).mp k; omega), if_neg g, wr (by omega) (by omega), ei, iI_add]
      exact x1
    · by_cases e : v = i
      · rw [(x2 v hv).2 (by omega), e, upI_s]
      · exact (x2 v hv).1 (by omega)
    · rw [(x2 v hv).2 (by omega), upI_n (by omega)]
theorem fill0_go (kk : (Nat → Int32) → Option (Int32 × Int32 × Int32 × Int32 × (Nat → Int32) × (Nat → Int32) × (Nat → Int32) × (Nat → Int32) × (Nat → Int32) × (Nat → Int32) × (Nat → Int32) × (Nat → Int32))) {Z : Nat} (hZ : Z = 1920) : ∀ (d i m : Nat) (C : F1), i + d = Z → d < m → ∃ C' : F1, mX10_pushed_L24 kk m (iI (i : Int)) (iF C) = kk (iF C') ∧ ∀ v : Nat, v < Z → (i ≤ v → C' v = 0) ∧ (v < i → C' v = C v) := by
  intro d
  induction d with
  | zero =>
    intro i m C hi hm
    obtain ⟨m, rfl⟩ : ∃ a, m = a + 1 := ⟨m - 1, by omega⟩
    refine ⟨C, ?_, fun v hv => ⟨fun h => by omega, fun _ => rfl⟩⟩
    rw [mX10_pushed_L24, if_pos ((iI_le (by omega) (by omega) (by omega) (by omega)).mpr (by omega))]
  | succ d ih =>
    intro i m C hi hm
    obtain ⟨m, rfl⟩ : ∃ a, m = a + 1 := ⟨m - 1, by omega⟩
    have ei : (i : Int).toNat = i := by omega
    have g := gdn (z := (i : Int)) (n := 1920) (by omega) (by omega) (by omega)
    obtain ⟨C', x1, x2⟩ := ih (i + 1) m (upI C i 0) (by omega) (by omega)
    refine ⟨C', ?_, fun v hv => ⟨fun h => ?_, fun h => ?_⟩⟩
    · rw [mX10_pushed_L24, if_neg (fun k => by have := (iI_le (by omega) (by omega) (by omega) (by omega)).mp k; omega), if_neg g, wr (by omega) (by omega), ei, iI_add]
      exact x1
    · by_cases e : v = i
      · rw [(x2 v hv).2 (by omega), e, upI_s]
      · exact (x2 v hv).1 (by omega)
    · rw [(x2 v hv).2 (by omega), upI_n (by omega)]
theorem place_set (hg : GV T PU E N) {k : Nat} (hk : k < N) (hs : SET T PU E N k M) (hS : ∀ c : Nat, c < N → S c = M c) {Fl C : F1} (hF : ∀ s : Nat, s < 1920 → Fl s = cn M s N) (hC : ∀ c : Nat, c < N → ∀ p : Nat, p < 16 → C (16 * c + p) = T c p) (CB q : F1) :
    ∃ (a : Int) (CB' Fl' q' S' M' : F1), mX10_place (iI (k : Int)) (iI E) (iI (N : Int)) (iF CB) (iF C) (iF Fl) (iF PU) (iF q) (iF S) = some (iI a, iF CB', iF Fl', iF q', iF S') ∧ (∀ c : Nat, c < N → S' c = M' c) ∧ (∀ s : Nat, s < 1920 → Fl' s = cn M' s N) ∧ SET T PU E N (k + 1) M' ∧ (a = 0 ∨ a = 1) ∧ gi T PU E N k = a := by
  have hkF := kF_ge
  have hN := hg.1
  have h0 : M k = -1 := hs.no k (Nat.le_refl k)
  obtain ⟨CB1, x1, x2⟩ := fillm_go (fun (t_cameBy_3 : Nat → Int32) => mX10_place_L34 (iI E) (iI (N : Int)) (iF C) (iF Fl) (iF PU) (iF S) (fun (v8_26 : Int32) (t_cameBy_26 : Nat → Int32) (t_queue_26 : Nat → Int32) => (if v8_26 < 0 ∨ 1920 ≤ Int32.toNatClampNeg v8_26 then none else (if v8_26 < 0 ∨ 1920 ≤ Int32.toNatClampNeg v8_26 then none else (Option.bind (mX10_turn v8_26 (iI (k : Int)) t_cameBy_26 (iF S)) (fun o29 => some ((iI 1), t_cameBy_26, (upd (iF Fl) (Int32.toNatClampNeg v8_26) (((iF Fl) (Int32.toNatClampNeg v8_26)) + (iI 1))), t_queue_26, o29)))))) kF (iI 0) (iI 1) t_cameBy_3 (upd (iF q) (Int32.toNatClampNeg (iI 0)) (iI (k : Int)))) (Z := 1920) rfl 1920 0 kF CB (by omega) (by omega)
  have hz : ∀ v : Nat, v < 1920 → CB1 v = -1 := fun v hv => (x2 v hv).1 (Nat.zero_le v)
  have nv : ∀ s : Int, ¬ VR CB1 s := fun s ⟨a, b, c⟩ => c (hz _ (by omega))
  have hK : KK T PU E N M k CB1 (upI q 0 (k : Int)) 1 := by
    refine ⟨fun v hv => by rw [hz v hv]; omega, fun s h => absurd h (nv s), Nat.le_refl 1, upI_s _ _ _, fun i hi => ?_, fun i j hij hj => by omega, fun i h1 h2 => by omega, fun d _ hd => absurd hd (nv _), fun i h1 h2 => by omega⟩
    have : i = 0 := by omega
    subst this
    rw [upI_s]; omega
  obtain ⟨a, CB', Fl', q', S', M', y1, y2, y3, y4⟩ := set10_go hg hs.1 hk h0 hS hF hC 30 0 kF 1 CB1 _ (by omega) (by omega) (by omega) (fun i hi => absurd hi (Nat.not_lt_zero _)) hK
  refine ⟨a, CB', Fl', q', S', M', ?_, y2, y3, ?_⟩
  · rw [mX10_place]
    refine x1.trans ?_
    show mX10_place_L34 _ _ _ _ _ _ _ kF (iI 0) (iI 1) (iF CB1) (upd (iF q) (Int32.toNatClampNeg (iI 0)) (iI (k : Int))) = _
    rw [wr (by omega) (by omega)]
    exact y1
  · rcases y4 with ⟨rfl, rfl, x⟩ | ⟨rfl, x⟩
    · have y := hs.keep x
      exact ⟨y.1, Or.inl rfl, y.2⟩
    · have y := hs.more x
      exact ⟨y.1, Or.inr rfl, y.2⟩
theorem cars10_go (hg : GV T PU E N) {C : F1} (hC : ∀ c : Nat, c < N → ∀ p : Nat, p < 16 → C (16 * c + p) = T c p) (th : Int32) (bg dn wt : Nat → Int32) : ∀ (d k m : Nat) (CB Fl q S M : F1), k + d = N → d < m → (∀ c : Nat, c < N → S c = M c) → (∀ s : Nat, s < 1920 → Fl s = cn M s N) → SET T PU E N k M →
      ∃ CB' Fl' q' S' : F1, mX10_pushed_L76 (iI E) th (iI (N : Int)) bg (iF C) dn (iF PU) wt m (iI (sm (gi T PU E N) k)) (iI (k : Int)) (iF CB) (iF Fl) (iF q) (iF S) = some (iI (sm (gi T PU E N) N), th, iI 0, iI (N : Int), bg, iF CB', iF C, dn, iF Fl', iF q', iF S', wt) ∧ ∀ c : Nat, c < N → -1 ≤ S' c ∧ S' c < 1920 ∧ (S' c ≠ -1 ↔ GS T PU E N N c) := by
  intro d
  have hN := hg.1
  induction d with
  | zero =>
    intro k m CB Fl q S M hi hm hS hF hs
    obtain ⟨m, rfl⟩ : ∃ a, m = a + 1 := ⟨m - 1, by omega⟩
    have e : k = N := by omega
    subst e
    have gk := gs_in (T := T) (PU := PU) (E := E) (N := k) k
    refine ⟨CB, Fl, q, S, ?_, fun c hc => ?_⟩
    · rw [mX10_pushed_L76, if_pos ((iI_le (by omega) (by omega) (by omega) (by omega)).mpr (by omega)), told_iI (by omega) (by omega), show min (sm (gi T PU E k) k) 0 = 0 by omega]
      rfl
    · have r := hs.1.rg hg hc
      rw [hS c hc]
      exact ⟨r.1, r.2, hs.2 c⟩
  | succ d ih =>
    intro k m CB Fl q S M hi hm hS hF hs
    obtain ⟨m, rfl⟩ : ∃ a, m = a + 1 := ⟨m - 1, by omega⟩
    have hk : k < N := by omega
    have gk := gs_in (T := T) (PU := PU) (E := E) (N := N) k
    obtain ⟨a, CB1, Fl1, q1, S1, M1, x1, x2, x3, x4, x5, x6⟩ := place_set hg hk hs hS hF hC CB q
    have e2 : sm (gi T PU E N) (k + 1) = sm (gi T PU E N) k + a := by
      show sm _ k + gi _ _ _ _ k = _
      rw [x6]
    obtain ⟨CB2, Fl2, q2, S2, y1, y2⟩ := ih (k + 1) m CB1 Fl1 q1 S1 M1 (by omega) (by omega) x2 x3 x4
    refine ⟨CB2, Fl2, q2, S2, ?_, y2⟩
    rw [e2] at y1
    rw [mX10_pushed_L76, if_neg (fun y => by have := (iI_le (by omega) (by omega) (by omega) (by omega)).mp y; omega), x1]
    simp only [Option.bind_some]
    rcases x5 with rfl | rfl
    · rw [if_pos z00, iI_add, iI_add]
      exact y1
    · rw [if_neg (fun y => by have := (iI_eq0 (by omega) (by omega)).mp y; omega), iI_add, iI_add]
      exact y1
end P9
section PA
variable {n E : Int} {N : Nat} {A B Ho BG CP CH X : F1}
theorem come_go (hv : TV n A B Ho BG) (hx : ∀ l : Nat, l < 30 → X l = BG l) (hc : CV N CP CH) (kk : (Nat → Int32) → (Nat → Int32) → Option (Int32 × Int32 × Int32 × Int32 × (Nat → Int32) × (Nat → Int32) × (Nat → Int32) × (Nat → Int32) × (Nat → Int32) × (Nat → Int32) × (Nat → Int32) × (Nat → Int32))) : ∀ (d i m : Nat) (C S : F1), i + d = N → d < m → (∀ c : Nat, c < i → EQ16 (rw16 c C) (TC n A B Ho BG CP CH c) ∧ S c = -1) →
      ∃ C' S' : F1, mX10_pushed_L46 (iI n) (iI (N : Int)) (iF X) (iF CH) (iF CP) (iF A) (iF B) (iF Ho) kk m (iI (i : Int)) (iF C) (iF S) = kk (iF C') (iF S') ∧ ∀ c : Nat, c < N → EQ16 (rw16 c C') (TC n A B Ho BG CP CH c) ∧ S' c = -1
  | 0, i, 0, _, _, _, hm => absurd hm (Nat.not_lt_zero _)
  | 0, i, m + 1, C, S, hi, _ => fun h => by
    have hN := hc.2.1
    refine ⟨C, S, ?_, fun c hcN => h c (by omega)⟩
    rw [mX10_pushed_L46, if_pos ((iI_le (by omega) (by omega) (by omega) (by omega)).mpr (by omega))]
  | d + 1, i, 0, _, _, _, hm => absurd hm (Nat.not_lt_zero _)
  | d + 1, i, m + 1, C, S, hi, hm => fun h => by
    have hN := hc.2.1
    have ei : (i : Int).toNat = i := by omega
    obtain ⟨g0, g1, g2, g3⟩ := hc.2.2 i (by omega)
    have g := gdn (z := (i : Int)) (n := 30) (by omega) (by omega) (by omega)
    obtain ⟨C1, t3, t4, t5⟩ := travel10 (X := X) hv hx (c := i) (by omega) ⟨g0, g1⟩ ⟨g2, g3⟩ C
    obtain ⟨C', S', x1, x2⟩ := come_go hv hx hc kk d (i + 1) m C1 (upI S i (-1)) (by omega) (by omega) (fun c hcN => by
      by_cases e : c = i
      · subst e
        exact ⟨t4, upI_s _ _ _⟩
      · obtain ⟨a, b⟩ := h c (by omega)
        refine ⟨fun v hv2 => ?_, by rw [upI_n e]; exact b⟩
        rw [← a v hv2]
        exact t5 (16 * c + v) (by omega))
    refine ⟨C', S', ?_, x2⟩
    rw [mX10_pushed_L46, if_neg (fun k => by have := (iI_le (by omega) (by omega) (by omega) (by omega)).mp k; omega), if_neg g, t3]
    simp only [Option.bind_some]
    rw [wr (by omega) (by omega), ei, iI_add]
    exact x1
theorem normI (F : F1) : ∃ G : F1, iF F = iF G ∧ (∀ k : Nat, I32 (G k)) ∧ ∀ k : Nat, I32 (F k) → G k = F k := by
  obtain ⟨G, e, r⟩ := iF_x (iF F)
  refine ⟨G, e, r, fun k h => ?_⟩
  have e2 : iI (F k) = iI (G k) := congrFun e k
  obtain ⟨a, b⟩ := h
  obtain ⟨c, d⟩ := r k
  exact ((iI_eq a b c d).mp e2).symm
end PA
section PB
variable {n no : Int} {A B M Ho Se oL af hr wi rL rA rH rW BG DN CP CH PU w S : F1} {rs ro : Int}
theorem sim_pushed {E c hl pc tq : Int} (hp : I32 E) (hc : CV c CP CH) (h : PI n no A B M Ho Se oL af hr wi rL rA rH rW BG DN rs ro) (hPU : ∀ p : Nat, p < 16 → 0 ≤ PU p ∧ PU p ≤ 9) (hh : HAS c hl pc w S) (hw : ∀ k, I32 (w k)) (hS : ∀ k, I32 (S k)) (F0 HL HS q W X CB C Y Fl q0 V : F1) :
    ∃ (r hl' pc' tq' : Int) (F' HL' HS' q' w' W' X' CB' C' Y' Fl' q0' S' V' : F1),
      mX9_pushed (iI E) (iI c) (iF F0) (iF CH) (iF CP) (iI n) (iF Ho) (iF A) (iF B) (iF BG) (iF DN) (iI tq) (iI hl) (iF HL) (iF HS) (iF PU) (iF q) (iF w) (iF W) = some (iI r, iI (min r 0), iF F', iI tq', iI hl', iF HL', iF HS', iF q', iF w', iF W') ∧
      mX10_pushed (iI E) (iI n) (iI rs) (iI ro) (iI no) (iI c) (iI pc) (iF X) (iF CH) (iF CP) (iF CB) (iF C) (iF Y) (iF Fl) (iF A) (iF B) (iF Ho) (iF M) (iF Se) (iF rA) (iF rH) (iF rL) (iF rW) (iF PU) (iF q0) (iF S) (iF V) = some (iI r, iI 0, iI (min r 0), iI pc', iF X', iF CB', iF C', iF Y', iF Fl', iF q0', iF S', iF V') ∧
      HAS c hl' pc' w' S' ∧ (∀ k, I32 (w' k)) ∧ (∀ k, I32 (S' k)) := by
  obtain ⟨p0, p1⟩ := hp
  have hkF := kF_ge
  by_cases e : 0 ≤ E ∧ E ≤ 120
  · have hc0 := hc.1
    have hc1 := hc.2.1
    obtain ⟨N, rfl⟩ := Int.eq_ofNat_of_zero_le hc0
    have hv := h.tv
    have hg := gv_of (PU := PU) hv hc e hPU
    obtain ⟨X', Y', V', e1, e2⟩ := h.reckon X Y V
    obtain ⟨tq', HL', HS', q', w', W', F', a1, a2⟩ := pushed2 (DN := DN) (hl := hl) (tq := tq) hv hc e hPU HL HS q w W F0
    obtain ⟨tq2, rfl, -, -⟩ := iI_x tq'
    obtain ⟨G, g1, g2, g3⟩ := normI w'
    rw [g1] at a1
    obtain ⟨Fl1, b1, b2⟩ := fill0_go (fun (t_filled_6 : Nat → Int32) => mX10_pushed_L46 (iI n) (iI (N : Int)) (iF X') (iF CH) (iF CP) (iF A) (iF B) (iF Ho) (fun (t_come_10 : Nat → Int32) (t_slotOf_10 : Nat → Int32) => mX10_pushed_L76 (iI E) (iI 0) (iI (N : Int)) (iF X') t_come_10 (iF Y') (iF PU) (iF V') kF (iI 0) (iI 0) (iF CB) t_filled_6 (iF q0) t_slotOf_10) kF (iI 0) (iF C) (iF S)) (Z := 1920) rfl 1920 0 kF Fl (by omega) (by omega)
    obtain ⟨C', S1, c1, c2⟩ := come_go (X := X') hv (fun l hl => (e2 l hl).1) hc (fun (t_come_10 : Nat → Int32) (t_slotOf_10 : Nat → Int32) => mX10_pushed_L76 (iI E) (iI 0) (iI (N : Int)) (iF X') t_come_10 (iF Y') (iF PU) (iF V') kF (iI 0) (iI 0) (iF CB) (iF Fl1) (iF q0) t_slotOf_10) N 0 kF C S (by omega) (by omega) (fun c h => absurd h (Nat.not_lt_zero _))
    have hs : SET (TC n A B Ho BG CP CH) PU E N 0 (fun _ => -1) := by
      refine ⟨⟨fun c _ => Or.inl rfl, fun p h hp h0 h1 => ?_⟩, fun c => ⟨fun y => absurd rfl y, fun y => False.elim y⟩⟩
      have : cn (fun _ => -1) (120 * (p : Int) + h) N = 0 := by
        unfold cn
        rw [show (fun _ : Nat => if (-1 : Int) = 120 * (p : Int) + h then (1 : Int) else 0) = fun _ => 0 from funext fun _ => if_neg (by omega)]
        exact sm_zero N
      have := hPU p hp
      omega
    obtain ⟨CB', Fl', q0', S', d1, d2⟩ := cars10_go (PU := PU) hg (C := C') (fun c hc p hp => (c2 c hc).1 p hp) (iI 0) (iF X') (iF Y') (iF V') N 0 kF CB Fl1 q0 S1 (fun _ => -1) (by omega) (by omega) (fun c hc => (c2 c hc).2) (fun s hs => by
      rw [(b2 s hs).1 (Nat.zero_le s)]
      unfold cn
      rw [show (fun _ : Nat => if (-1 : Int) = (s : Int) then (1 : Int) else 0) = fun _ => 0 from funext fun _ => if_neg (by omega)]
      exact (sm_zero N).symm) hs
    obtain ⟨G2, k1, k2, k3⟩ := normI S'
    rw [k1] at d1
    have gk := gs_in (T := TC n A B Ho BG CP CH) (PU := PU) (E := E) (N := N) N
    refine ⟨sm (gi (TC n A B Ho BG CP CH) PU E N) N, 1, (N : Int), tq2, F', HL', HS', q', G, W', X', CB', C', Y', Fl', q0', G2, V', ?_, ?_, Or.inr ⟨rfl, by omega, by omega, fun k hk => ?_, fun k hk hk2 => ?_⟩, g2, k2⟩
    · rw [show min (sm (gi (TC n A B Ho BG CP CH) PU E N) N) 0 = 0 by omega]
      exact a1
    · rw [show min (sm (gi (TC n A B Ho BG CP CH) PU E N) N) 0 = 0 by omega, mX10_pushed, if_neg (fun y => (hour10 (by omega) (by omega)).mp y e), e1]
      simp only [Option.bind_some]
      exact b1.trans (c1.trans d1)
    · obtain ⟨x1, x2, x3⟩ := a2 k (by omega)
      obtain ⟨y1, y2, y3⟩ := d2 k (by omega)
      rw [g3 k ⟨by omega, by omega⟩, k3 k ⟨by omega, by omega⟩]
      constructor
      · intro z
        rcases Int.decEq (S' k) (-1) with u | u
        · exact absurd z (x3.mpr (y3.mp u))
        · exact u
      · intro z
        rcases Int.decEq (w' k) (-1) with u | u
        · exact absurd z (y3.mpr (x3.mp u))
        · exact u
    · obtain ⟨x1, x2, x3⟩ := a2 k hk
      rw [g3 k ⟨by omega, by omega⟩]
      rcases Int.decEq (w' k) (-1) with u | u
      · have := GS_lt (x3.mp u)
        omega
      · exact u
  · refine ⟨-1, hl, pc, tq, F0, HL, HS, q, w, W, X, CB, C, Y, Fl, q0, S, V, ?_, ?_, hh, hw, hS⟩
    · rw [mX9_pushed, mX5_push, if_pos ((hour0 p0 p1).mpr e)]
      simp only [Option.bind_some]
      rw [ans_iI (by omega) (by omega)]
      rfl
    · rw [mX10_pushed, if_pos ((hour10 p0 p1).mpr e), told_iI (by omega) (by omega)]
      rfl
end PB
