/-! ORDERS: answers -/
section OZ
variable {T : Nat} {TB : F1} {n no : Int} {A B M Ho Se oL af hr wi rL rA rH rW BG DN : F1} {rs ro : Int}
theorem copy_go {NO : F1} {nd : Int} (hn : 0 ≤ nd ∧ nd ≤ 30) (th tp fr to so F bd : Int32) (w : Int64) : ∀ (d k m : Nat) (a h l g : F1), (k : Int) + d = nd → d < m → ∃ a' h' l' g' : F1, mX10_orders_L125 th (iI nd) (iI nd) tp fr to so w F bd (iF NO) m (iI (k : Int)) (iF a) (iF h) (iF l) (iF g) = some (iI nd, th, iI (min nd 0), iI nd, iI nd, tp, fr, to, so, w, F, bd, iF NO, iF a', iF h', iF l', iF g') ∧ ∀ j : Nat, (j : Int) < nd → (k ≤ j → l' j = NO (4 * j) ∧ a' j = NO (4 * j + 1) ∧ h' j = NO (4 * j + 2) ∧ g' j = NO (4 * j + 3)) ∧ (j < k → l' j = l j ∧ a' j = a j ∧ h' j = h j ∧ g' j = g j) := by
  intro d
  induction d with
  | zero =>
    intro k m a h l g hk hm
    obtain ⟨m, rfl⟩ : ∃ a, m = a + 1 := ⟨m - 1, by omega⟩
    refine ⟨a, h, l, g, ?_, fun j hj => ⟨fun y => by omega, fun _ => ⟨rfl, rfl, rfl, rfl⟩⟩⟩
    rw [mX10_orders_L125, if_pos ((iI_le (by omega) (by omega) (by omega) (by omega)).mpr (by omega)), told_iI (by omega) (by omega)]
    rfl
  | succ d ih =>
    intro k m a h l g hk hm
    obtain ⟨m, rfl⟩ : ∃ a, m = a + 1 := ⟨m - 1, by omega⟩
    have kk : (k : Int).toNat = k := by omega
    have g0 := gdn (z := 4 * (k : Int)) (n := 120) (by omega) (by omega) (by omega)
    have g1 := gdn (z := 4 * (k : Int) + 1) (n := 120) (by omega) (by omega) (by omega)
    have g2 := gdn (z := 4 * (k : Int) + 2) (n := 120) (by omega) (by omega) (by omega)
    have g3 := gdn (z := 4 * (k : Int) + 3) (n := 120) (by omega) (by omega) (by omega)
    have g4 := gdn (z := (k : Int)) (n := 30) (by omega) (by omega) (by omega)
    have e0 : (4 * (k : Int)).toNat = 4 * k := by omega
    have e1 : (4 * (k : Int) + 1).toNat = 4 * k + 1 := by omega
    have e2 : (4 * (k : Int) + 2).toNat = 4 * k + 2 := by omega
    have e3 : (4 * (k : Int) + 3).toNat = 4 * k + 3 := by omega
    obtain ⟨a', h', l', g', x1, x2⟩ := ih (k + 1) m (upI a k (NO (4 * k + 1))) (upI h k (NO (4 * k + 2))) (upI l k (NO (4 * k))) (upI g k (NO (4 * k + 3))) (by omega) (by omega)
    refine ⟨a', h', l', g', ?_, fun j hj => ⟨fun y => ?_, fun y => ?_⟩⟩
    · rw [mX10_orders_L125, if_neg (fun k => by have := (iI_le (by omega) (by omega) (by omega) (by omega)).mp k; omega), iI_mul, iI_add, iI_add, iI_add, iI_add, if_neg g0, if_neg g4, if_neg g1, if_neg g4, if_neg g2, if_neg g4, if_neg g3, if_neg g4, rd (by omega) (by omega), rd (by omega) (by omega), rd (by omega) (by omega), rd (by omega) (by omega), e0, e1, e2, e3, wr (by omega) (by omega), wr (by omega) (by omega), wr (by omega) (by omega), wr (by omega) (by omega), kk]
      exact x1
    · by_cases c : j = k
      · subst c
        have := (x2 j hj).2 (by omega)
        rw [upI_s, upI_s, upI_s, upI_s] at this
        exact this
      · exact (x2 j hj).1 (by omega)
    · have := (x2 j hj).2 (by omega)
      rw [upI_n (by omega), upI_n (by omega), upI_n (by omega), upI_n (by omega)] at this
      exact this
theorem sim_orders (hT : T ≤ 400) (hB : TBV TB) (h : PI n no A B M Ho Se oL af hr wi rL rA rH rW BG DN rs ro) (daf dbg ddn dwi dhr doL NO : F1) (tf ts9 x1 x2 x3 x4 ts so0 : Int32) :
    (∃ (r f : Int) (p9 y1 y2 y3 y4 y5 y6 nm fr to so bd : Int32) (w : Int64) (daf' dbg' ddn' dwi' dhr' doL' NO' : F1),
      mX9_orders tf ts9 (iF daf) (iF dbg) (iF ddn) (iF dwi) (iF dhr) (iF doL) (iI n) (iI rs) (iI ro) (iF M) (iF Se) x1 x2 x3 x4 (iI (T : Int)) (iF TB) = some (iI r, iI f, iI (min r 0), p9, iF daf', iF dbg', iF ddn', iF dwi', iF dhr', iF doL', y1, y2, y3, y4, iI 0, y5, y6, false) ∧
      mX10_orders ts (iI n) (iI no) (iI (T : Int)) so0 (iF NO) (iF rA) (iF rH) (iF rL) (iF rW) (iF TB) = some (iI r, iI 0, iI (min r 0), iI no, nm, iI 0, fr, to, so, w, iI f, bd, iF NO', iF rA, iF rH, iF rL, iF rW) ∧ -1 ≤ f ∧ f ≤ 400) ∨
    (∃ (r f no' : Int) (y1 y2 y3 y4 y5 y6 nm fr to so bd : Int32) (w : Int64) (af' BG' DN' wi' hr' oL' NO' rA' rH' rL' rW' : F1),
      mX9_orders tf ts9 (iF daf) (iF dbg) (iF ddn) (iF dwi) (iF dhr) (iF doL) (iI n) (iI rs) (iI ro) (iF M) (iF Se) x1 x2 x3 x4 (iI (T : Int)) (iF TB) = some (iI r, iI f, iI (min r 0), iI no', iF af', iF BG', iF DN', iF wi', iF hr', iF oL', y1, y2, y3, y4, iI 0, y5, y6, true) ∧
      mX10_orders ts (iI n) (iI no) (iI (T : Int)) so0 (iF NO) (iF rA) (iF rH) (iF rL) (iF rW) (iF TB) = some (iI r, iI 0, iI (min r 0), iI no', nm, iI 0, fr, to, so, w, iI f, bd, iF NO', iF rA', iF rH', iF rL', iF rW') ∧ PI n no' A B M Ho Se oL' af' hr' wi' rL' rA' rH' rW' BG' DN' rs ro ∧ -1 ≤ f ∧ f ≤ 400) := by
  have hkF := kF_ge
  have hn : 0 ≤ n ∧ n ≤ 30 := ⟨h.1.1, h.1.2.1⟩
  have f0 : (fun j => if j < 30 then iI 0 else iF dwi j) = iF (fun j => if j < 30 then 0 else dwi j) := funext fun j => by
    show (if j < 30 then iI 0 else iI (dwi j)) = iI (if j < 30 then 0 else dwi j)
    split <;> rfl
  have f1 : (fun j => if j < 30 then iI 1000000 else iF dbg j) = iF (fun j => if j < 30 then 1000000 else dbg j) := funext fun j => by
    show (if j < 30 then iI 1000000 else iI (dbg j)) = iI (if j < 30 then 1000000 else dbg j)
    split <;> rfl
  have f2 : (fun j => if j < 30 then iI 1000000 else iF ddn j) = iF (fun j => if j < 30 then 1000000 else ddn j) := funext fun j => by
    show (if j < 30 then iI 1000000 else iI (ddn j)) = iI (if j < 30 then 1000000 else ddn j)
    split <;> rfl
  have clr : mX2_clear (iF dbg) (iF ddn) (iF dwi) = some (iI 0, iF (fun j => if j < 30 then 1000000 else dbg j), iF (fun j => if j < 30 then 1000000 else ddn j), iF (fun j => if j < 30 then 0 else dwi j)) := by
    rw [mX2_clear, kfill (n := 30) (by omega), kfill (n := 30) (by omega), kfill (n := 30) (by omega), f0, f1, f2]
    rfl
  have hd0 : DR n 0 doL daf dhr (fun j => if j < 30 then 0 else dwi j) NO := ⟨⟨by omega, by omega, fun k hk => by omega, fun l hl _ => if_pos hl⟩, fun k hk => by omega⟩
  have tk : TOK T TB (NS T TB 0) (NE T TB 0) := NT_tok (Nat.zero_le T)
  have rw9 : mX6_rewind (iI (T : Int)) (iF TB) = some (iI ((NS T TB 0 : Nat) : Int), iI ((NE T TB 0 : Nat) : Int)) := by
    rw [mX6_rewind, show iI 0 = iI ((0 : Nat) : Int) from rfl, next2 hT hB (Nat.zero_le T)]
    rfl
  have nx10 : mX10_next (iI (T : Int)) (iI 0) so0 (iF TB) = some (iI ((NS T TB 0 : Nat) : Int), iI ((NE T TB 0 : Nat) : Int), iI (SO T TB (NS T TB 0)), lI (WO T TB (NS T TB 0) (NE T TB 0))) := next10 hT hB so0 (Nat.zero_le T)
  generalize NS T TB 0 = s at tk rw9 nx10
  generalize NE T TB 0 = e at tk rw9 nx10
  have rso := SO_in (T := T) (TB := TB) s
  have cut0 : mX6_cut (iI 0) (iI (T : Int)) = some (iI 1, iI 0) := by
    rw [mX6_cut, if_neg (by decide), if_pos ((iI_le (by omega) (by omega) (by omega) (by omega)).mpr (by omega))]
  -- a good end, on both sides
  have good : ∀ (y1 y2 y3 y4 y5 y6 fr to so : Int32) (w : Int64) (nd : Int) (af' wi' hr' oL' NO' : F1), DR n nd oL' af' hr' wi' NO' →
      ∃ (r f no' : Int) (nm fr' to' so' bd : Int32) (w' : Int64) (af'' BG' DN' wi'' hr'' oL'' NO'' rA' rH' rL' rW' : F1),
        mX9_orders_J42 (iI rs) (iI ro) (iF M) (iF Se) (iI (-1)) (iI 1) tf ts9 (iI nd) (iF af') (iF (fun j => if j < 30 then 1000000 else dbg j)) (iF (fun j => if j < 30 then 1000000 else ddn j)) (iF wi') (iF hr') (iF oL') y1 y2 y3 y4 (iI (T : Int)) y5 y6 = some (iI r, iI f, iI (min r 0), iI no', iF af'', iF BG', iF DN', iF wi'', iF hr'', iF oL'', y1, y2, y3, y4, iI 0, y5, y6, true) ∧
        mX10_orders_J96 (iI 0) ts (iI no) (iI nd) (iI (T : Int)) fr to so w (iI (-1)) (iI 0) (iF NO') (iF rA) (iF rH) (iF rL) (iF rW) = some (iI r, iI 0, iI (min r 0), iI no', nm, iI 0, fr', to', so', w', iI f, bd, iF NO'', iF rA', iF rH', iF rL', iF rW') ∧ PI n no' A B M Ho Se oL'' af'' hr'' wi'' rL' rA' rH' rW' BG' DN' rs ro ∧ f = -1 := fun y1 y2 y3 y4 y5 y6 fr to so w nd af' wi' hr' oL' NO' hd => by
    have n30 := hd.1.2.1
    have n0 := hd.1.1
    obtain ⟨BG', DN', b1, b2⟩ := reckon2 h.1 hd.1 (fun j => if j < 30 then 1000000 else dbg j) (fun j => if j < 30 then 1000000 else ddn j) (fun l hl _ => ⟨if_pos hl, if_pos hl⟩)
    obtain ⟨a', h', l', g', c1, c2⟩ := copy_go (NO := NO') (nd := nd) ⟨n0, n30⟩ (iI 0) (iI 0) fr to so (iI (-1)) (iI 0) w nd.toNat 0 kF rA rH rL rW (by omega) (by omega)
    refine ⟨nd, -1, nd, iI nd, fr, to, so, iI 0, w, af', BG', DN', wi', hr', oL', NO', a', h', l', g', ?_, ?_, ⟨h.1, hd.1, fun k hk => ?_, b2⟩, rfl⟩
    · rw [mX9_orders_J42, cut0]
      simp only [Option.bind_some]
      rw [if_neg n10, mX3_takeDraft, b1]
      simp only [Option.bind_some]
      rw [ans_iI (by omega) (by omega)]
      rfl
    · rw [mX10_orders_J96, if_pos z00]
      exact c1
    · obtain ⟨e0, e1, e2, e3⟩ := hd.2 k hk
      obtain ⟨d0, d1, d2, d3⟩ := (c2 k hk).1 (Nat.zero_le k)
      exact ⟨d0.trans e0, d1.trans e1, d2.trans e2, d3.trans e3⟩
  rw [mX9_orders, mX4_readOrders, clr]
  simp only [Option.bind_some]
  rw [rw9]
  simp only [Option.bind_some]
  rw [mX6_isAtEnd, mX10_orders, nx10]
  simp only [Option.bind_some]
  rcases SO_end tk with ⟨q1, q2⟩ | ⟨q1, q2⟩
  · have ns : ¬ iI (s : Int) < iI (T : Int) := fun y => by have := (iI_lt (by omega) (by omega) (by omega) (by omega)).mp y; omega
    have e8 : iI (SO T TB s) = 0 := by rw [q1]; rfl
    rw [if_neg ns, if_neg n10, if_pos e8]
    simp only [Option.bind_some]
    rw [if_neg n10]
    obtain ⟨r, f, no', nm, fr', to', so', bd, w', af'', BG', DN', wi'', hr'', oL'', NO'', rA', rH', rL', rW', g1, g2, g3, g4⟩ := good x1 x2 x3 x4 (iI (s : Int)) (iI (e : Int)) (iI (s : Int)) (iI (e : Int)) (iI (SO T TB s)) (lI (WO T TB s e)) 0 daf _ dhr doL NO hd0
    exact Or.inr ⟨r, f, no', _, _, _, _, _, _, nm, fr', to', so', bd, w', af'', BG', DN', wi'', hr'', oL'', NO'', rA', rH', rL', rW', g1, g2, g3, by omega, by omega⟩
  · have ns : iI (s : Int) < iI (T : Int) := (iI_lt (by omega) (by omega) (by omega) (by omega)).mpr (by omega)
    have e8 : ¬ iI (SO T TB s) = 0 := fun y => q1 ((iI_eq0 (by omega) (by omega)).mp y)
    rw [if_pos ns, if_pos z00, if_neg e8]
    rcases orders_go hT hB hn (iF (fun j => if j < 30 then 1000000 else dbg j)) (iF (fun j => if j < 30 then 1000000 else ddn j)) ts (iI no) (iI (-1)) (iF rA) (iF rH) (iF rL) (iF rW) 30 kF kF 0 doL daf dhr (fun j => if j < 30 then 0 else dwi j) NO s e x1 x2 x3 x4 (by omega) (by omega) (by omega) hd0 tk with ⟨p, z1, z2, z3, z4, z5, nm9, af', wi', hr', oL', hp, c1, nm, fr, to, so, w, NO', r1⟩ | ⟨z1, z2, z3, z4, z5, z6, fr, to, so, w, nd, af', wi', hr', oL', NO', c1, hd', hso, r1⟩
    · refine Or.inl ⟨-6, p, nm9, z1, z2, z3, z4, iI (p : Int), z5, nm, fr, to, so, iI 1, w, af', (fun j => if j < 30 then 1000000 else dbg j), (fun j => if j < 30 then 1000000 else ddn j), wi', hr', oL', NO', ?_, ?_, by omega, by omega⟩
      · rw [c1]
        simp only [Option.bind_some]
        rw [if_pos z00, mX9_orders_J42, cut0]
        simp only [Option.bind_some]
        rw [if_pos z00, ans_iI (by omega) (by omega)]
        rfl
      · exact r1
    · obtain ⟨r, f, no', nm, fr', to', so', bd, w', af'', BG', DN', wi'', hr'', oL'', NO'', rA', rH', rL', rW', g1, g2, g3, g4⟩ := good z1 z2 z3 z4 z5 z6 fr to so w nd af' wi' hr' oL' NO' hd'
      refine Or.inr ⟨r, f, no', z1, z2, z3, z4, z5, z6, nm, fr', to', so', bd, w', af'', BG', DN', wi'', hr'', oL'', NO'', rA', rH', rL', rW', ?_, ?_, g3, by omega, by omega⟩
      · rw [c1]
        simp only [Option.bind_some]
        rw [if_neg n10]
        exact g1
      · refine r1.trans ?_
        unfold Kord
        rw [if_pos z00, if_pos hso]
        exact g2
end OZ
