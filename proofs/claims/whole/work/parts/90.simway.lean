/-! WAY: answers -/
section WZ
variable {n no : Int} {A B M Ho Se oL af hr wi rL rA rH rW BG DN : F1} {rs ro : Int}
theorem PI.wv (h : PI n no A B M Ho Se oL af hr wi rL rA rH rW BG DN rs ro) {tr : Int} (ht : 0 ≤ tr ∧ tr ≤ 12) : WV n tr A B Ho BG DN := by
  refine ⟨h.1.1, h.1.2.1, ht.1, ht.2, fun l hl => ?_, fun l hl => ?_⟩
  · obtain ⟨a0, a1, b0, b1, ne, m0, m1, h0, h1, -⟩ := h.1.2.2.2.2.2.2 l hl
    exact ⟨a0, a1, b0, b1, ne, h0, h1⟩
  · have := h.pf l hl
    omega
theorem way_core {tr h : Int} {s to : Nat} {X Y : F1} (hw : WV n tr A B Ho BG DN) (hx : XY BG DN X Y) {s0 s1 t0 t1 : Int32} (hs : s < 32) (e1 : s0 + s1 = iI ((cl s : Nat) : Int)) (e2 : t0 + t1 = iI (s : Int)) (hh : 0 ≤ h ∧ h ≤ 120) (ht : to < 16) (st tc : Int) (hst : -1 ≤ st ∧ st ≤ 31) (ts : Int32) (LT R SN SO E Q W : F1) :
    ∃ (r st' tc' : Int) (LT' R' SN' SO' E' Q' : F1), mX7_find_J37 (iI h) (iI (to : Int)) (iI tr) (iI n) (iF Ho) (iF A) (iF B) (iF BG) (iF DN) s0 s1 (iI st) (iI tc) (iF LT) (iF R) (iF SN) (iF SO) = some (iI r, iI st', iI tc', iF LT', iF R', iF SN', iF SO') ∧ mX10_way_J48 (iI h) (iI (to : Int)) (iI n) (iI tr) (iF A) (iF B) (iF Ho) t0 t1 (iI 0) ts (iI st) (iF X) (iF Y) (iF E) (iF Q) (iF R) (iF W) = some (iI r, iI 0, iI (min r 0), iI st', iF X, iF Y, iF E', iF Q', iF R', iF W) ∧ -1 ≤ st' ∧ st' ≤ 31 ∧ -6 ≤ r ∧ r ≤ 120 := by
  have hkF := kF_ge
  obtain ⟨E', x1, x2, x3, x4⟩ := goEarly_iI hw hx hs hh E
  obtain ⟨f, c, SN', SO', y1, y2⟩ := fewest2 hw (X := fun j => row32 j E') ht hs hh x3 x4 x2 SN SO
  obtain ⟨c', f', z1, z2⟩ := scan_go (E := E') (to := to) (fun (v6_18 : Int32) (v7_18 : Int32) => (if v6_18 ≤ (iI 120) then (Option.bind (mX10_goLate (iI (to : Int)) v6_18 v7_18 (iI n) (iI tr) (iF X) (iF Y) (iF A) (iF B) (iF Ho) (iF Q)) (fun o20 => mX10_way_L165 (iI 0) ts (iI n) (iI tr) (iI st) (iF X) (iF Y) (iF E') (iF A) (iF B) (iF Ho) o20 (iF W) v6_18 v7_18 kF (t0 + t1) (iI h) (iI 0) (iF R))) else (Option.bind (mX10_told (iI (-6))) (fun o38 => some (o38.1, (iI 0), o38.2, (iI st), (iF X), (iF Y), (iF E'), (iF Q), (iF R), (iF W)))))) ht x4 33 0 kF 1000000 0 (by omega) (by omega) (Or.inl ⟨rfl, rfl, fun j hj => by omega⟩)
  rcases few_same ht y2 z2 with ⟨rfl, rfl, rfl⟩ | ⟨rfl, rfl, c0, c1, f0, f1, hg⟩
  · refine ⟨-6, st, 1000000, LT, R, SN', SO', E', Q, ?_, ?_, hst.1, hst.2, by omega, by omega⟩
    · rw [mX7_find_J37, e1, y1]
      simp only [Option.bind_some]
      exact if_pos trivial
    · rw [mX10_way_J48, e2, x1]
      simp only [Option.bind_some]
      rw [e2] at z1
      refine z1.trans ?_
      show (if iI 1000000 ≤ iI 120 then _ else (Option.bind (mX10_told (iI (-6))) _)) = _
      rw [if_neg (fun y => by have := (iI_le (by omega) (by omega) (by omega) (by omega)).mp y; omega), told_iI (by omega) (by omega)]
      rfl
  · obtain ⟨k, ek⟩ : ∃ k : Nat, f' = (k : Int) := ⟨f'.toNat, by omega⟩
    subst ek
    rw [Int.toNat_natCast] at hg
    have hk : k ≤ 31 := by omega
    obtain ⟨Q', q1, q2, q3⟩ := goLate_iI hw hx (to := to) (f := k) (c := c') ht (by omega) ⟨c0, c1⟩ Q
    obtain ⟨LT', l1, l2⟩ := late2 hw (Z := fun j => row32 j Q') ht hk ⟨c0, c1⟩ q2 q3 LT
    have hz : ∀ i : Nat, i ≤ k → HL (row32 i Q') := fun i hi v hv => by
      by_cases q : i = 0
      · subst q
        rw [q2 v hv]
        split <;> omega
      · have := q3 (i - 1) (by omega) v hv
        rw [show i - 1 + 1 = i by omega] at this
        exact ⟨this.1, this.2.1⟩
    have hin := within_go hw (X0 := fun j => row32 j E') (Z := fun j => row32 j Q') (st := s) (h := h) hk ht ⟨c0, c1⟩ hg x3 x4 q2 hz q3 x2 hs
    obtain ⟨R', w1, w2⟩ := row_go hw hx (L := LT') (Q := Q') (Z := fun j => row32 j Q') hk ⟨c0, c1⟩ l2 (fun i _ v _ => rfl) hz q3 ts (iI st) (iF E') (iF W) k 0 kF kF s h R (by omega) (by omega) (by omega) hs hh.1 hin
    refine ⟨c', k, c', LT', R', SN', SO', E', Q', ?_, ?_, by omega, by omega, by omega, by omega⟩
    · rw [mX7_find_J37, e1, y1]
      simp only [Option.bind_some]
      rw [if_neg (fun y => by have := (iI_eq (by omega) (by omega) (by omega) (by omega)).mp y; omega), l1]
      simp only [Option.bind_some]
      rw [mX7_writeRow]
      rw [show iI 0 = iI ((0 : Nat) : Int) from rfl, w1]
      rfl
    · rw [mX10_way_J48, e2, x1]
      simp only [Option.bind_some]
      rw [e2] at z1
      refine z1.trans ?_
      show (if iI c' ≤ iI 120 then (Option.bind (mX10_goLate _ _ _ _ _ _ _ _ _ _ _) _) else _) = _
      rw [if_pos ((iI_le (by omega) (by omega) (by omega) (by omega)).mpr c1), q1]
      simp only [Option.bind_some]
      exact w2
theorem sim_way {p h g st tr tc : Int} (hp : I32 p) (hh : I32 h) (hg : I32 g) (b : Int32) (ht : 0 ≤ tr ∧ tr ≤ 12) (hs : -1 ≤ st ∧ st ≤ 31) (hi : PI n no A B M Ho Se oL af hr wi rL rA rH rW BG DN rs ro) (ts : Int32) (LT R SN SO X E Q Y W : F1) :
    ∃ (r st' tc' : Int) (LT' R' SN' SO' X' E' Q' Y' W' : F1), mX9_way (iI p) (iI h) b (iI g) (iI n) (iF Ho) (iF A) (iF B) (iF BG) (iF DN) (iI st) (iI tr) (iI tc) (iF LT) (iF R) (iF SN) (iF SO) = some (iI r, iI (min r 0), iI st', iI tc', iF LT', iF R', iF SN', iF SO') ∧
      mX10_way (iI p) (iI h) b (iI g) ts (iI n) (iI rs) (iI ro) (iI tr) (iI no) (iI st) (iF X) (iF Y) (iF E) (iF A) (iF B) (iF Ho) (iF M) (iF Se) (iF Q) (iF rA) (iF rH) (iF rL) (iF rW) (iF R) (iF W) = some (iI r, iI 0, iI (min r 0), iI st', iF X', iF Y', iF E', iF Q', iF R', iF W') ∧ -1 ≤ st' ∧ st' ≤ 31 := by
  obtain ⟨p0, p1⟩ := hp
  obtain ⟨h0, h1⟩ := hh
  obtain ⟨g0, g1⟩ := hg
  have hw := hi.wv ht
  by_cases d1 : 0 ≤ p ∧ p ≤ 15
  · by_cases d2 : 0 ≤ g ∧ g ≤ 15
    · by_cases d3 : 0 ≤ h ∧ h ≤ 120
      · obtain ⟨X', Y', W', e1, e2⟩ := hi.reckon X Y W
        obtain ⟨to, rfl⟩ : ∃ to : Nat, g = (to : Int) := ⟨g.toNat, by omega⟩
        obtain ⟨pl, rfl⟩ : ∃ pl : Nat, p = (pl : Int) := ⟨p.toNat, by omega⟩
        have hx : XY BG DN X' Y' := fun l hl => ⟨(e2 l hl).1, (e2 l hl).2.1⟩
        have fin : ∀ (s : Nat) (s1 t1 : Int32), s < 32 → iI 2 * iI (pl : Int) + s1 = iI ((cl s : Nat) : Int) → iI (pl : Int) + t1 = iI (s : Int) → ∃ (r st' tc' : Int) (LT' R' SN' SO' E' Q' : F1), mX7_find_J37 (iI h) (iI (to : Int)) (iI tr) (iI n) (iF Ho) (iF A) (iF B) (iF BG) (iF DN) (iI 2 * iI (pl : Int)) s1 (iI st) (iI tc) (iF LT) (iF R) (iF SN) (iF SO) = some (iI r, iI st', iI tc', iF LT', iF R', iF SN', iF SO') ∧ mX10_way_J48 (iI h) (iI (to : Int)) (iI n) (iI tr) (iF A) (iF B) (iF Ho) (iI (pl : Int)) t1 (iI 0) ts (iI st) (iF X') (iF Y') (iF E) (iF Q) (iF R) (iF W') = some (iI r, iI 0, iI (min r 0), iI st', iF X', iF Y', iF E', iF Q', iF R', iF W') ∧ -1 ≤ st' ∧ st' ≤ 31 ∧ -6 ≤ r ∧ r ≤ 120 := fun s s1 t1 hs2 q1 q2 => way_core hw hx hs2 q1 q2 d3 (by omega) st tc hs ts LT R SN SO E Q W'
        have a9 : mX9_way (iI (pl : Int)) (iI h) b (iI (to : Int)) (iI n) (iF Ho) (iF A) (iF B) (iF BG) (iF DN) (iI st) (iI tr) (iI tc) (iF LT) (iF R) (iF SN) (iF SO) = (Option.bind (if b = 0 then mX7_find_J37 (iI h) (iI (to : Int)) (iI tr) (iI n) (iF Ho) (iF A) (iF B) (iF BG) (iF DN) (iI 2 * iI (pl : Int)) (iI 0) (iI st) (iI tc) (iF LT) (iF R) (iF SN) (iF SO) else mX7_find_J37 (iI h) (iI (to : Int)) (iI tr) (iI n) (iF Ho) (iF A) (iF B) (iF BG) (iF DN) (iI 2 * iI (pl : Int)) (iI 1) (iI st) (iI tc) (iF LT) (iF R) (iF SN) (iF SO)) (fun o1 => (Option.bind (mX9_answered o1.1) (fun o2 => some (o2.1, o2.2, o1.2.1, o1.2.2.1, o1.2.2.2.1, o1.2.2.2.2.1, o1.2.2.2.2.2.1, o1.2.2.2.2.2.2))))) := by
          rw [mX9_way, mX7_find, if_neg (fun y => (place0 p0 p1).mp y d1), if_neg (fun y => (hour0 h0 h1).mp y d3), if_neg (fun y => (place0 g0 g1).mp y d2)]
        have a10 : mX10_way (iI (pl : Int)) (iI h) b (iI (to : Int)) ts (iI n) (iI rs) (iI ro) (iI tr) (iI no) (iI st) (iF X) (iF Y) (iF E) (iF A) (iF B) (iF Ho) (iF M) (iF Se) (iF Q) (iF rA) (iF rH) (iF rL) (iF rW) (iF R) (iF W) = (if b = 0 then mX10_way_J48 (iI h) (iI (to : Int)) (iI n) (iI tr) (iF A) (iF B) (iF Ho) (iI (pl : Int)) (iI 0) (iI 0) ts (iI st) (iF X') (iF Y') (iF E) (iF Q) (iF R) (iF W') else mX10_way_J48 (iI h) (iI (to : Int)) (iI n) (iI tr) (iF A) (iF B) (iF Ho) (iI (pl : Int)) (iI 16) (iI 0) ts (iI st) (iF X') (iF Y') (iF E) (iF Q) (iF R) (iF W')) := by
          rw [mX10_way, if_neg (fun y => (place10 p0 p1).mp y d1), if_neg (fun y => (place10 g0 g1).mp y d2), if_neg (fun y => (hour10 h0 h1).mp y d3), e1]
          rfl
        rw [a9, a10]
        by_cases q : b = 0
        · obtain ⟨r, st', tc', LT', R', SN', SO', E', Q', u1, u2, u3, u4, u5, u6⟩ := fin pl (iI 0) (iI 0) (by omega) (by rw [iI_mul, iI_add, show ((cl pl : Nat) : Int) = 2 * (pl : Int) + 0 by unfold cl; omega]) (by rw [iI_add, Int.add_zero])
          refine ⟨r, st', tc', LT', R', SN', SO', X', E', Q', Y', W', ?_, ?_, u3, u4⟩
          · rw [if_pos q, u1]
            simp only [Option.bind_some]
            rw [ans_iI (by omega) (by omega)]
            rfl
          · rw [if_pos q]; exact u2
        · obtain ⟨r, st', tc', LT', R', SN', SO', E', Q', u1, u2, u3, u4, u5, u6⟩ := fin (pl + 16) (iI 1) (iI 16) (by omega) (by rw [iI_mul, iI_add, show ((cl (pl + 16) : Nat) : Int) = 2 * (pl : Int) + 1 by unfold cl; omega]) (by rw [iI_add]; rfl)
          refine ⟨r, st', tc', LT', R', SN', SO', X', E', Q', Y', W', ?_, ?_, u3, u4⟩
          · rw [if_neg q, u1]
            simp only [Option.bind_some]
            rw [ans_iI (by omega) (by omega)]
            rfl
          · rw [if_neg q]; exact u2
      · refine ⟨-1, st, tc, LT, R, SN, SO, X, E, Q, Y, W, ?_, ?_, hs.1, hs.2⟩
        · rw [mX9_way, mX7_find, if_neg (fun y => (place0 p0 p1).mp y d1), if_pos ((hour0 h0 h1).mpr d3)]
          simp only [Option.bind_some]
          rw [ans_iI (by omega) (by omega)]
          rfl
        · rw [mX10_way, if_neg (fun y => (place10 p0 p1).mp y d1), if_neg (fun y => (place10 g0 g1).mp y d2), if_pos ((hour10 h0 h1).mpr d3), told_iI (by omega) (by omega)]
          rfl
    · refine ⟨-1, st, tc, LT, R, SN, SO, X, E, Q, Y, W, ?_, ?_, hs.1, hs.2⟩
      · by_cases d3 : 0 ≤ h ∧ h ≤ 120
        · rw [mX9_way, mX7_find, if_neg (fun y => (place0 p0 p1).mp y d1), if_neg (fun y => (hour0 h0 h1).mp y d3), if_pos ((place0 g0 g1).mpr d2)]
          simp only [Option.bind_some]
          rw [ans_iI (by omega) (by omega)]
          rfl
        · rw [mX9_way, mX7_find, if_neg (fun y => (place0 p0 p1).mp y d1), if_pos ((hour0 h0 h1).mpr d3)]
          simp only [Option.bind_some]
          rw [ans_iI (by omega) (by omega)]
          rfl
      · rw [mX10_way, if_neg (fun y => (place10 p0 p1).mp y d1), if_pos ((place10 g0 g1).mpr d2), told_iI (by omega) (by omega)]
        rfl
  · refine ⟨-1, st, tc, LT, R, SN, SO, X, E, Q, Y, W, ?_, ?_, hs.1, hs.2⟩
    · rw [mX9_way, mX7_find, if_pos ((place0 p0 p1).mpr d1)]
      simp only [Option.bind_some]
      rw [ans_iI (by omega) (by omega)]
      rfl
    · rw [mX10_way, if_pos ((place10 p0 p1).mpr d1), told_iI (by omega) (by omega)]
      rfl
end WZ
