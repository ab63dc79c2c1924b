/-! THE LAW: calls -/
section Le
set_option maxHeartbeats 4000000 in
set_option maxRecDepth 100000 in
theorem case_way {p : Program} {l : Launch} {e : Env} {s : State} {m : MethodId} {below : List Frame} {meth : Method} {c : Code} {b L : Nat} {xs : Nat → Int32} {E : KE} {Q : State → Prop} (C : LC p s m c b L xs E) {i : Nat} (hi : i + 5 < L) (hn : NX p l e s m below meth c b E Q i 908) {g ft ss n rs ro no t st tr tc cn tq hv nw ms pk : Int} {A B M Ho Se oL af hr wi BG DN dL da dh dw db dd TB w1 w2 w3 RR CP CH cf PU hm sl wb qq hs TC SL SC SH SK rL rA rH rW NO bx dx wx E1 E2 cm S Fl cb q2 : Nat → Int} {j0 j1 j2 j3 j4 j5 j6 k0 k1 k2 k3 k4 k6 : Int32} {k5 : Int64} {a v : Nat → Nat} {H : Heap} {locs : List Loc} {ls : Array Slot} (hP : va_P (kD E) vwCl (WX E a v (a 8) (a 15) (iI g) (iI ft) (iI ss) (iF A) (iF B) (iF M) (iF Ho) (iF Se) (iI n) (iI rs) (iI ro) (iF oL) (iF af) (iF hr) (iF wi) (iF BG) (iF DN) (iI no) (iF dL) (iF da) (iF dh) (iF dw) (iF db) (iF dd) j0 (iF TB) (iI t) j1 j2 j3 j4 j5 j6 (iF w1) (iF w2) (iF w3) (iF RR) (iI st) (iI tr) (iI tc) (iF CP) (iF CH) (iF cf) (iI cn) (iF PU) (iF hm) (iF sl) (iF wb) (iF qq) (iF hs) (iI tq) (iI hv) (iF TC) (iF SL) (iF SC) (iF SH) (iF SK) (iI nw) (iI ms) k0 (iI ss) (iI n) (iF A) (iF B) (iF M) (iF Ho) (iF Se) (iI rs) (iI ro) (iI g) (iI tr) (iI no) (iF rL) (iF rA) (iF rH) (iF rW) k1 (iF NO) (iF bx) (iF dx) (iF wx) (iF TB) (iI t) k2 k3 k4 k5 (iI ft) k6 (iF E1) (iF E2) (iF RR) (iI st) (iF PU) (iI cn) (iF CP) (iF CH) (iF cm) (iF S) (iF Fl) (iF cb) (iF q2) (iI pk) (iI nw) (iF TC) (iI ms) (iF SL) (iF SC) (iF SH) (iF SK)) H) (hD : va_D (lA s) (WX E a v (a 8) (a 15) (iI g) (iI ft) (iI ss) (iF A) (iF B) (iF M) (iF Ho) (iF Se) (iI n) (iI rs) (iI ro) (iF oL) (iF af) (iF hr) (iF wi) (iF BG) (iF DN) (iI no) (iF dL) (iF da) (iF dh) (iF dw) (iF db) (iF dd) j0 (iF TB) (iI t) j1 j2 j3 j4 j5 j6 (iF w1) (iF w2) (iF w3) (iF RR) (iI st) (iI tr) (iI tc) (iF CP) (iF CH) (iF cf) (iI cn) (iF PU) (iF hm) (iF sl) (iF wb) (iF qq) (iF hs) (iI tq) (iI hv) (iF TC) (iF SL) (iF SC) (iF SH) (iF SK) (iI nw) (iI ms) k0 (iI ss) (iI n) (iF A) (iF B) (iF M) (iF Ho) (iF Se) (iI rs) (iI ro) (iI g) (iI tr) (iI no) (iF rL) (iF rA) (iF rH) (iF rW) k1 (iF NO) (iF bx) (iF dx) (iF wx) (iF TB) (iI t) k2 k3 k4 k5 (iI ft) k6 (iF E1) (iF E2) (iF RR) (iI st) (iF PU) (iI cn) (iF CP) (iF CH) (iF cm) (iF S) (iF Fl) (iF cb) (iF q2) (iI pk) (iI nw) (iF TC) (iI ms) (iF SL) (iF SC) (iF SH) (iF SK))) (hS : va_S (lA s) s.heap H locs) (hl : lv_has ls 4 [(0, .ref b), (1, .ref (a 0)), (2, .ref (v 0)), (3, .int (nI i))]) (hI : INV n rs ro g t no st tr cn hv pk nw ms A B M Ho Se oL af hr wi rL rA rH rW BG DN TB CP CH PU sl S SH SK SL) : W p l e room_1 s m #[Value.ref b] below meth c H locs 78 12028 Q (F0 m 516 ls []) := by
  obtain ⟨hx, hb, hml, hown, hts, hX, hbl, hE, hL⟩ := C
  have hA : ∀ q, s.heap.size ≤ q → lA s q := fun _ h => h
  have hbA : ¬ lA s b := Nat.not_le.mpr hbl
  obtain ⟨I1, I2, I3, I4, I5, I6, I7, I8, I9, I10, I11, I12, I13, I14⟩ := hI
  obtain ⟨p1, e1, r1⟩ := iI_x (xs (nI i + iI 1).toNatClampNeg)
  have v1 : vp_in (nI i + iI 1) L := vp_at 1 (by omega) hL
  obtain ⟨p2, e2, r2⟩ := iI_x (xs (nI i + iI 2).toNatClampNeg)
  have v2 : vp_in (nI i + iI 2) L := vp_at 2 (by omega) hL
  obtain ⟨p3, e3, r3⟩ := iI_x (xs (nI i + iI 3).toNatClampNeg)
  have v3 : vp_in (nI i + iI 3) L := vp_at 3 (by omega) hL
  obtain ⟨p4, e4, r4⟩ := iI_x (xs (nI i + iI 4).toNatClampNeg)
  have v4 : vp_in (nI i + iI 4) L := vp_at 4 (by omega) hL
  by_cases cz : iI p3 = 0
  · obtain ⟨r, st', tc', w3', RR', w2', w1', bx', E1', E2', dx', wx', h9, h10, i1, i2⟩ := sim_way (tc := tc) r1 r2 r4 (iI (0 : Int)) I6 I5 I1 (iI ss) w3 RR w2 w1 bx E1 E2 dx wx
    refine lv_aload_n hx hb dL_law_516 rfl (lv_at hl 1 rfl) ?_
    refine lv_aload_n hx hb dL_law_517 rfl (lv_at hl 0 rfl) ?_
    refine lv_iload_n hx hb dL_law_518 rfl (lv_at hl 3 rfl) ?_
    refine lv_iconst (v := iI 1) hx hb dL_law_519 (by decide) ?_
    refine lv_iadd hx hb dL_law_520 ?_
    refine va_sld hx hb hX hbl hbA hS v1 dL_law_521 ?_
    rw [e1]
    refine lv_aload_n hx hb dL_law_522 rfl (lv_at hl 0 rfl) ?_
    refine lv_iload_n hx hb dL_law_523 rfl (lv_at hl 3 rfl) ?_
    refine lv_iconst (v := iI 2) hx hb dL_law_524 (by decide) ?_
    refine lv_iadd hx hb dL_law_525 ?_
    refine va_sld hx hb hX hbl hbA hS v2 dL_law_526 ?_
    rw [e2]
    refine lv_aload_n hx hb dL_law_527 rfl (lv_at hl 0 rfl) ?_
    refine lv_iload_n hx hb dL_law_528 rfl (lv_at hl 3 rfl) ?_
    refine lv_iconst (v := iI 3) hx hb dL_law_529 (by decide) ?_
    refine lv_iadd hx hb dL_law_530 ?_
    refine va_sld hx hb hX hbl hbA hS v3 dL_law_531 ?_
    rw [e3]
    refine lv_if_eq (tgt := 539) hx hb dL_law_532 (by decide) (fun _ => ?_) (fun cy => absurd cz cy)
    refine lv_iconst (v := iI 0) hx hb dL_law_539 (by decide) ?_
    refine lv_aload_n hx hb dL_law_540 rfl (lv_at hl 0 rfl) ?_
    refine lv_iload_n hx hb dL_law_541 rfl (lv_at hl 3 rfl) ?_
    refine lv_iconst (v := iI 4) hx hb dL_law_542 (by decide) ?_
    refine lv_iadd hx hb dL_law_543 ?_
    refine va_sld hx hb hX hbl hbA hS v4 dL_law_544 ?_
    rw [e4]
    refine kciV2 (N := 78) (l := l) (E := E) (wc := [oo (a 0) 9 [.ref (a 1), .ref (a 22), .ref (a 24), .ref (a 25), .ref (a 30), .ref (a 34), .ref (a 41), .int (iI g), .int (iI ft), .int (iI ss)], oo (a 1) 3 [.ref (a 2), .ref (a 8), .ref (a 15)], oo (a 2) 1 [.ref (a 3), .ref (a 4), .ref (a 5), .ref (a 6), .ref (a 7), .int (iI n), .int (iI rs), .int (iI ro)], ar E (a 6) 30 (iF Ho), ar E (a 3) 30 (iF A), ar E (a 4) 30 (iF B), oo (a 8) 2 [.ref (a 9), .ref (a 10), .ref (a 11), .ref (a 12), .ref (a 13), .ref (a 14), .int (iI no)], ar E (a 13) 30 (iF BG), ar E (a 14) 30 (iF DN), oo (a 25) 7 [.ref (a 26), .ref (a 27), .ref (a 28), .ref (a 29), .int (iI st), .int (iI tr), .int (iI tc)], ar E (a 28) 1024 (iF w3), ar E (a 29) 32 (iF RR), ar E (a 27) 32 (iF w2), ar E (a 26) 32 (iF w1)]) (w1 := [oo (a 0) 9 [.ref (a 1), .ref (a 22), .ref (a 24), .ref (a 25), .ref (a 30), .ref (a 34), .ref (a 41), .int (iI g), .int (iI ft), .int (iI (min r 0))], oo (a 1) 3 [.ref (a 2), .ref (a 8), .ref (a 15)], oo (a 2) 1 [.ref (a 3), .ref (a 4), .ref (a 5), .ref (a 6), .ref (a 7), .int (iI n), .int (iI rs), .int (iI ro)], ar E (a 6) 30 (iF Ho), ar E (a 3) 30 (iF A), ar E (a 4) 30 (iF B), oo (a 8) 2 [.ref (a 9), .ref (a 10), .ref (a 11), .ref (a 12), .ref (a 13), .ref (a 14), .int (iI no)], ar E (a 13) 30 (iF BG), ar E (a 14) 30 (iF DN), oo (a 25) 7 [.ref (a 26), .ref (a 27), .ref (a 28), .ref (a 29), .int (iI st'), .int (iI tr), .int (iI tc')], ar E (a 28) 1024 (iF w3'), ar E (a 29) 32 (iF RR'), ar E (a 27) 32 (iF w2'), ar E (a 26) 32 (iF w1')]) (w' := WX E a v (a 8) (a 15) (iI g) (iI ft) (iI (min r 0)) (iF A) (iF B) (iF M) (iF Ho) (iF Se) (iI n) (iI rs) (iI ro) (iF oL) (iF af) (iF hr) (iF wi) (iF BG) (iF DN) (iI no) (iF dL) (iF da) (iF dh) (iF dw) (iF db) (iF dd) j0 (iF TB) (iI t) j1 j2 j3 j4 j5 j6 (iF w1') (iF w2') (iF w3') (iF RR') (iI st') (iI tr) (iI tc') (iF CP) (iF CH) (iF cf) (iI cn) (iF PU) (iF hm) (iF sl) (iF wb) (iF qq) (iF hs) (iI tq) (iI hv) (iF TC) (iF SL) (iF SC) (iF SH) (iF SK) (iI nw) (iI ms) k0 (iI ss) (iI n) (iF A) (iF B) (iF M) (iF Ho) (iF Se) (iI rs) (iI ro) (iI g) (iI tr) (iI no) (iF rL) (iF rA) (iF rH) (iF rW) k1 (iF NO) (iF bx) (iF dx) (iF wx) (iF TB) (iI t) k2 k3 k4 k5 (iI ft) k6 (iF E1) (iF E2) (iF RR) (iI st) (iF PU) (iI cn) (iF CP) (iF CH) (iF cm) (iF S) (iF Fl) (iF cb) (iF q2) (iI pk) (iI nw) (iF TC) (iI ms) (iF SL) (iF SC) (iF SH) (iF SK)) (ads := [(a 0), (a 1), (a 2), (a 6), (a 3), (a 4), (a 8), (a 13), (a 14), (a 25), (a 28), (a 29), (a 27), (a 26)]) (r := iI r) (As := [.int (iI p1), .int (iI p2), .int (iI 0), .int (iI p4)]) (rest := []) (kX9_way l E (out := (iI r, iI (min r 0), iI st', iI tc', iF w3', iF RR', iF w2', iF w1')) h9) ⟨hx, hb, hml, hown, hts⟩ (cwV 4 hts gL_law_X9_way rfl rfl rfl (by decide +kernel) ⟨Nat.le_of_ble_eq_true rfl, Nat.le_of_ble_eq_true rfl⟩) hE hP hD hS hA [0, 1, 2, 6, 3, 4, 8, 13, 14, 25, 28, 29, 27, 26] (by decide) rfl rfl rfl [5, 7, 9, 10, 11, 12, 15, 16, 17, 18, 19, 20, 21, 22, 23, 24, 30, 31, 32, 33, 34, 35, 36, 37, 38, 39, 40, 41, 42, 43, 44, 45, 46, 47, 48, 49, 50, 51, 52, 53, 54, 55, 56, 57, 58, 59, 60, 61, 62, 63, 64, 65, 66, 67, 68, 69, 70, 71, 72, 73, 74, 75, 76, 77] rfl rfl rfl (cov_of (by decide +kernel)) rfl rfl rfl rfl hl.1 rfl (Nat.le_of_ble_eq_true rfl) dL_law_545 ⟨Nat.le_of_ble_eq_true rfl, Nat.le_of_ble_eq_true rfl⟩ (fun H locs hP hD hS => ?_)
    refine lv_aload_n hx hb dL_law_548 rfl (lv_at hl 2 rfl) ?_
    refine lv_aload_n hx hb dL_law_549 rfl (lv_at hl 0 rfl) ?_
    refine lv_iload_n hx hb dL_law_550 rfl (lv_at hl 3 rfl) ?_
    refine lv_iconst (v := iI 1) hx hb dL_law_551 (by decide) ?_
    refine lv_iadd hx hb dL_law_552 ?_
    refine va_sld hx hb hX hbl hbA hS v1 dL_law_553 ?_
    rw [e1]
    refine lv_aload_n hx hb dL_law_554 rfl (lv_at hl 0 rfl) ?_
    refine lv_iload_n hx hb dL_law_555 rfl (lv_at hl 3 rfl) ?_
    refine lv_iconst (v := iI 2) hx hb dL_law_556 (by decide) ?_
    refine lv_iadd hx hb dL_law_557 ?_
    refine va_sld hx hb hX hbl hbA hS v2 dL_law_558 ?_
    rw [e2]
    refine lv_aload_n hx hb dL_law_559 rfl (lv_at hl 0 rfl) ?_
    refine lv_iload_n hx hb dL_law_560 rfl (lv_at hl 3 rfl) ?_
    refine lv_iconst (v := iI 3) hx hb dL_law_561 (by decide) ?_
    refine lv_iadd hx hb dL_law_562 ?_
    refine va_sld hx hb hX hbl hbA hS v3 dL_law_563 ?_
    rw [e3]
    refine lv_if_eq (tgt := 571) hx hb dL_law_564 (by decide) (fun _ => ?_) (fun cy => absurd cz cy)
    refine lv_iconst (v := iI 0) hx hb dL_law_571 (by decide) ?_
    refine lv_aload_n hx hb dL_law_572 rfl (lv_at hl 0 rfl) ?_
    refine lv_iload_n hx hb dL_law_573 rfl (lv_at hl 3 rfl) ?_
    refine lv_iconst (v := iI 4) hx hb dL_law_574 (by decide) ?_
    refine lv_iadd hx hb dL_law_575 ?_
    refine va_sld hx hb hX hbl hbA hS v4 dL_law_576 ?_
    rw [e4]
    refine kciV2 (N := 78) (l := l) (E := E) (wc := [oo (v 0) 10 (.int k0 :: .int (iI ss) :: .int (iI n) :: .ref (v 1) :: .ref (v 2) :: .ref (v 3) :: .ref (v 4) :: .ref (v 5) :: .int (iI rs) :: .int (iI ro) :: .int (iI g) :: .int (iI tr) :: .int (iI no) :: .ref (v 6) :: .ref (v 7) :: .ref (v 8) :: .ref (v 9) :: .int k1 :: .ref (v 10) :: .ref (v 11) :: .ref (v 12) :: .ref (v 13) :: .ref (v 14) :: .int (iI t) :: .int k2 :: .int k3 :: .int k4 :: .long k5 :: .int (iI ft) :: .int k6 :: .ref (v 15) :: .ref (v 16) :: .ref (v 17) :: .int (iI st) :: .ref (v 18) :: .int (iI cn) :: .ref (v 19) :: .ref (v 20) :: .ref (v 21) :: .ref (v 22) :: .ref (v 23) :: .ref (v 24) :: .ref (v 25) :: .int (iI pk) :: .int (iI nw) :: .ref (v 26) :: .int (iI ms) :: .ref (v 27) :: .ref (v 28) :: .ref (v 29) :: .ref (v 30) :: []), ar E (v 11) 30 (iF bx), ar E (v 12) 30 (iF dx), ar E (v 15) 1056 (iF E1), ar E (v 1) 30 (iF A), ar E (v 2) 30 (iF B), ar E (v 4) 30 (iF Ho), ar E (v 3) 30 (iF M), az E (v 5) 30 (iF Se), ar E (v 16) 1056 (iF E2), ar E (v 7) 30 (iF rA), ar E (v 8) 30 (iF rH), ar E (v 6) 30 (iF rL), ar E (v 9) 30 (iF rW), ar E (v 17) 32 (iF RR), ar E (v 13) 30 (iF wx)]) (w1 := [oo (v 0) 10 (.int (iI 0) :: .int (iI (min r 0)) :: .int (iI n) :: .ref (v 1) :: .ref (v 2) :: .ref (v 3) :: .ref (v 4) :: .ref (v 5) :: .int (iI rs) :: .int (iI ro) :: .int (iI g) :: .int (iI tr) :: .int (iI no) :: .ref (v 6) :: .ref (v 7) :: .ref (v 8) :: .ref (v 9) :: .int k1 :: .ref (v 10) :: .ref (v 11) :: .ref (v 12) :: .ref (v 13) :: .ref (v 14) :: .int (iI t) :: .int k2 :: .int k3 :: .int k4 :: .long k5 :: .int (iI ft) :: .int k6 :: .ref (v 15) :: .ref (v 16) :: .ref (v 17) :: .int (iI st') :: .ref (v 18) :: .int (iI cn) :: .ref (v 19) :: .ref (v 20) :: .ref (v 21) :: .ref (v 22) :: .ref (v 23) :: .ref (v 24) :: .ref (v 25) :: .int (iI pk) :: .int (iI nw) :: .ref (v 26) :: .int (iI ms) :: .ref (v 27) :: .ref (v 28) :: .ref (v 29) :: .ref (v 30) :: []), ar E (v 11) 30 (iF bx'), ar E (v 12) 30 (iF dx'), ar E (v 15) 1056 (iF E1'), ar E (v 1) 30 (iF A), ar E (v 2) 30 (iF B), ar E (v 4) 30 (iF Ho), ar E (v 3) 30 (iF M), az E (v 5) 30 (iF Se), ar E (v 16) 1056 (iF E2'), ar E (v 7) 30 (iF rA), ar E (v 8) 30 (iF rH), ar E (v 6) 30 (iF rL), ar E (v 9) 30 (iF rW), ar E (v 17) 32 (iF RR'), ar E (v 13) 30 (iF wx')]) (w' := WX E a v (a 8) (a 15) (iI g) (iI ft) (iI (min r 0)) (iF A) (iF B) (iF M) (iF Ho) (iF Se) (iI n) (iI rs) (iI ro) (iF oL) (iF af) (iF hr) (iF wi) (iF BG) (iF DN) (iI no) (iF dL) (iF da) (iF dh) (iF dw) (iF db) (iF dd) j0 (iF TB) (iI t) j1 j2 j3 j4 j5 j6 (iF w1') (iF w2') (iF w3') (iF RR') (iI st') (iI tr) (iI tc') (iF CP) (iF CH) (iF cf) (iI cn) (iF PU) (iF hm) (iF sl) (iF wb) (iF qq) (iF hs) (iI tq) (iI hv) (iF TC) (iF SL) (iF SC) (iF SH) (iF SK) (iI nw) (iI ms) (iI 0) (iI (min r 0)) (iI n) (iF A) (iF B) (iF M) (iF Ho) (iF Se) (iI rs) (iI ro) (iI g) (iI tr) (iI no) (iF rL) (iF rA) (iF rH) (iF rW) k1 (iF NO) (iF bx') (iF dx') (iF wx') (iF TB) (iI t) k2 k3 k4 k5 (iI ft) k6 (iF E1') (iF E2') (iF RR') (iI st') (iF PU) (iI cn) (iF CP) (iF CH) (iF cm) (iF S) (iF Fl) (iF cb) (iF q2) (iI pk) (iI nw) (iF TC) (iI ms) (iF SL) (iF SC) (iF SH) (iF SK)) (ads := [(v 0), (v 11), (v 12), (v 15), (v 1), (v 2), (v 4), (v 3), (v 5), (v 16), (v 7), (v 8), (v 6), (v 9), (v 17), (v 13)]) (r := iI r) (As := [.int (iI p1), .int (iI p2), .int (iI 0), .int (iI p4)]) (rest := [.int (iI r)]) (kX10_way l E (out := (iI r, iI 0, iI (min r 0), iI st', iF bx', iF dx', iF E1', iF E2', iF RR', iF wx')) h10) ⟨hx, hb, hml, hown, hts⟩ (cwV 4 hts gL_law_X10_way rfl rfl rfl (by decide +kernel) ⟨Nat.le_of_ble_eq_true rfl, Nat.le_of_ble_eq_true rfl⟩) hE hP hD hS hA [47, 58, 59, 62, 48, 49, 51, 50, 52, 63, 54, 55, 53, 56, 64, 60] (by decide) rfl rfl rfl [0, 1, 2, 3, 4, 5, 6, 7, 8, 9, 10, 11, 12, 13, 14, 15, 16, 17, 18, 19, 20, 21, 22, 23, 24, 25, 26, 27, 28, 29, 30, 31, 32, 33, 34, 35, 36, 37, 38, 39, 40, 41, 42, 43, 44, 45, 46, 57, 61, 65, 66, 67, 68, 69, 70, 71, 72, 73, 74, 75, 76, 77] rfl rfl rfl (cov_of (by decide +kernel)) rfl rfl rfl rfl hl.1 rfl (Nat.le_of_ble_eq_true rfl) dL_law_577 ⟨Nat.le_of_ble_eq_true rfl, Nat.le_of_ble_eq_true rfl⟩ (fun H locs hP hD hS => ?_)
    refine lv_icmp_eq (tgt := 908) hx hb dL_law_580 (by decide) (fun _ => ?_) (fun cy => absurd rfl cy)
    exact hn hP hD hS hl (⟨I1, I2, I3, I4, ⟨i1, i2⟩, I6, I7, I8, I9, I10, I11, I12, I13, I14⟩)
  · obtain ⟨r, st', tc', w3', RR', w2', w1', bx', E1', E2', dx', wx', h9, h10, i1, i2⟩ := sim_way (tc := tc) r1 r2 r4 (iI (1 : Int)) I6 I5 I1 (iI ss) w3 RR w2 w1 bx E1 E2 dx wx
    refine lv_aload_n hx hb dL_law_516 rfl (lv_at hl 1 rfl) ?_
    refine lv_aload_n hx hb dL_law_517 rfl (lv_at hl 0 rfl) ?_
    refine lv_iload_n hx hb dL_law_518 rfl (lv_at hl 3 rfl) ?_
    refine lv_iconst (v := iI 1) hx hb dL_law_519 (by decide) ?_
    refine lv_iadd hx hb dL_law_520 ?_
    refine va_sld hx hb hX hbl hbA hS v1 dL_law_521 ?_
    rw [e1]
    refine lv_aload_n hx hb dL_law_522 rfl (lv_at hl 0 rfl) ?_
    refine lv_iload_n hx hb dL_law_523 rfl (lv_at hl 3 rfl) ?_
    refine lv_iconst (v := iI 2) hx hb dL_law_524 (by decide) ?_
    refine lv_iadd hx hb dL_law_525 ?_
    refine va_sld hx hb hX hbl hbA hS v2 dL_law_526 ?_
    rw [e2]
    refine lv_aload_n hx hb dL_law_527 rfl (lv_at hl 0 rfl) ?_
    refine lv_iload_n hx hb dL_law_528 rfl (lv_at hl 3 rfl) ?_
    refine lv_iconst (v := iI 3) hx hb dL_law_529 (by decide) ?_
    refine lv_iadd hx hb dL_law_530 ?_
    refine va_sld hx hb hX hbl hbA hS v3 dL_law_531 ?_
    rw [e3]
    refine lv_if_eq (tgt := 539) hx hb dL_law_532 (by decide) (fun cy => absurd cy cz) (fun _ => ?_)
    refine lv_iconst (v := iI 1) hx hb dL_law_535 (by decide) ?_
    refine lv_goto (tgt := 540) hx hb dL_law_536 (by decide) ?_
    refine lv_aload_n hx hb dL_law_540 rfl (lv_at hl 0 rfl) ?_
    refine lv_iload_n hx hb dL_law_541 rfl (lv_at hl 3 rfl) ?_
    refine lv_iconst (v := iI 4) hx hb dL_law_542 (by decide) ?_
    refine lv_iadd hx hb dL_law_543 ?_
    refine va_sld hx hb hX hbl hbA hS v4 dL_law_544 ?_
    rw [e4]
    refine kciV2 (N := 78) (l := l) (E := E) (wc := [oo (a 0) 9 [.ref (a 1), .ref (a 22), .ref (a 24), .ref (a 25), .ref (a 30), .ref (a 34), .ref (a 41), .int (iI g), .int (iI ft), .int (iI ss)], oo (a 1) 3 [.ref (a 2), .ref (a 8), .ref (a 15)], oo (a 2) 1 [.ref (a 3), .ref (a 4), .ref (a 5), .ref (a 6), .ref (a 7), .int (iI n), .int (iI rs), .int (iI ro)], ar E (a 6) 30 (iF Ho), ar E (a 3) 30 (iF A), ar E (a 4) 30 (iF B), oo (a 8) 2 [.ref (a 9), .ref (a 10), .ref (a 11), .ref (a 12), .ref (a 13), .ref (a 14), .int (iI no)], ar E (a 13) 30 (iF BG), ar E (a 14) 30 (iF DN), oo (a 25) 7 [.ref (a 26), .ref (a 27), .ref (a 28), .ref (a 29), .int (iI st), .int (iI tr), .int (iI tc)], ar E (a 28) 1024 (iF w3), ar E (a 29) 32 (iF RR), ar E (a 27) 32 (iF w2), ar E (a 26) 32 (iF w1)]) (w1 := [oo (a 0) 9 [.ref (a 1), .ref (a 22), .ref (a 24), .ref (a 25), .ref (a 30), .ref (a 34), .ref (a 41), .int (iI g), .int (iI ft), .int (iI (min r 0))], oo (a 1) 3 [.ref (a 2), .ref (a 8), .ref (a 15)], oo (a 2) 1 [.ref (a 3), .ref (a 4), .ref (a 5), .ref (a 6), .ref (a 7), .int (iI n), .int (iI rs), .int (iI ro)], ar E (a 6) 30 (iF Ho), ar E (a 3) 30 (iF A), ar E (a 4) 30 (iF B), oo (a 8) 2 [.ref (a 9), .ref (a 10), .ref (a 11), .ref (a 12), .ref (a 13), .ref (a 14), .int (iI no)], ar E (a 13) 30 (iF BG), ar E (a 14) 30 (iF DN), oo (a 25) 7 [.ref (a 26), .ref (a 27), .ref (a 28), .ref (a 29), .int (iI st'), .int (iI tr), .int (iI tc')], ar E (a 28) 1024 (iF w3'), ar E (a 29) 32 (iF RR'), ar E (a 27) 32 (iF w2'), ar E (a 26) 32 (iF w1')]) (w' := WX E a v (a 8) (a 15) (iI g) (iI ft) (iI (min r 0)) (iF A) (iF B) (iF M) (iF Ho) (iF Se) (iI n) (iI rs) (iI ro) (iF oL) (iF af) (iF hr) (iF wi) (iF BG) (iF DN) (iI no) (iF dL) (iF da) (iF dh) (iF dw) (iF db) (iF dd) j0 (iF TB) (iI t) j1 j2 j3 j4 j5 j6 (iF w1') (iF w2') (iF w3') (iF RR') (iI st') (iI tr) (iI tc') (iF CP) (iF CH) (iF cf) (iI cn) (iF PU) (iF hm) (iF sl) (iF wb) (iF qq) (iF hs) (iI tq) (iI hv) (iF TC) (iF SL) (iF SC) (iF SH) (iF SK) (iI nw) (iI ms) k0 (iI ss) (iI n) (iF A) (iF B) (iF M) (iF Ho) (iF Se) (iI rs) (iI ro) (iI g) (iI tr) (iI no) (iF rL) (iF rA) (iF rH) (iF rW) k1 (iF NO) (iF bx) (iF dx) (iF wx) (iF TB) (iI t) k2 k3 k4 k5 (iI ft) k6 (iF E1) (iF E2) (iF RR) (iI st) (iF PU) (iI cn) (iF CP) (iF CH) (iF cm) (iF S) (iF Fl) (iF cb) (iF q2) (iI pk) (iI nw) (iF TC) (iI ms) (iF SL) (iF SC) (iF SH) (iF SK)) (ads := [(a 0), (a 1), (a 2), (a 6), (a 3), (a 4), (a 8), (a 13), (a 14), (a 25), (a 28), (a 29), (a 27), (a 26)]) (r := iI r) (As := [.int (iI p1), .int (iI p2), .int (iI 1), .int (iI p4)]) (rest := []) (kX9_way l E (out := (iI r, iI (min r 0), iI st', iI tc', iF w3', iF RR', iF w2', iF w1')) h9) ⟨hx, hb, hml, hown, hts⟩ (cwV 4 hts gL_law_X9_way rfl rfl rfl (by decide +kernel) ⟨Nat.le_of_ble_eq_true rfl, Nat.le_of_ble_eq_true rfl⟩) hE hP hD hS hA [0, 1, 2, 6, 3, 4, 8, 13, 14, 25, 28, 29, 27, 26] (by decide) rfl rfl rfl [5, 7, 9, 10, 11, 12, 15, 16, 17, 18, 19, 20, 21, 22, 23, 24, 30, 31, 32, 33, 34, 35, 36, 37, 38, 39, 40, 41, 42, 43, 44, 45, 46, 47, 48, 49, 50, 51, 52, 53, 54, 55, 56, 57, 58, 59, 60, 61, 62, 63, 64, 65, 66, 67, 68, 69, 70, 71, 72, 73, 74, 75, 76, 77] rfl rfl rfl (cov_of (by decide +kernel)) rfl rfl rfl rfl hl.1 rfl (Nat.le_of_ble_eq_true rfl) dL_law_545 ⟨Nat.le_of_ble_eq_true rfl, Nat.le_of_ble_eq_true rfl⟩ (fun H locs hP hD hS => ?_)
    refine lv_aload_n hx hb dL_law_548 rfl (lv_at hl 2 rfl) ?_
    refine lv_aload_n hx hb dL_law_549 rfl (lv_at hl 0 rfl) ?_
    refine lv_iload_n hx hb dL_law_550 rfl (lv_at hl 3 rfl) ?_
    refine lv_iconst (v := iI 1) hx hb dL_law_551 (by decide) ?_
    refine lv_iadd hx hb dL_law_552 ?_
    refine va_sld hx hb hX hbl hbA hS v1 dL_law_553 ?_
    rw [e1]
    refine lv_aload_n hx hb dL_law_554 rfl (lv_at hl 0 rfl) ?_
    refine lv_iload_n hx hb dL_law_555 rfl (lv_at hl 3 rfl) ?_
    refine lv_iconst (v := iI 2) hx hb dL_law_556 (by decide) ?_
    refine lv_iadd hx hb dL_law_557 ?_
    refine va_sld hx hb hX hbl hbA hS v2 dL_law_558 ?_
    rw [e2]
    refine lv_aload_n hx hb dL_law_559 rfl (lv_at hl 0 rfl) ?_
    refine lv_iload_n hx hb dL_law_560 rfl (lv_at hl 3 rfl) ?_
    refine lv_iconst (v := iI 3) hx hb dL_law_561 (by decide) ?_
    refine lv_iadd hx hb dL_law_562 ?_
    refine va_sld hx hb hX hbl hbA hS v3 dL_law_563 ?_
    rw [e3]
    refine lv_if_eq (tgt := 571) hx hb dL_law_564 (by decide) (fun cy => absurd cy cz) (fun _ => ?_)
    refine lv_iconst (v := iI 1) hx hb dL_law_567 (by decide) ?_
    refine lv_goto (tgt := 572) hx hb dL_law_568 (by decide) ?_
    refine lv_aload_n hx hb dL_law_572 rfl (lv_at hl 0 rfl) ?_
    refine lv_iload_n hx hb dL_law_573 rfl (lv_at hl 3 rfl) ?_
    refine lv_iconst (v := iI 4) hx hb dL_law_574 (by decide) ?_
    refine lv_iadd hx hb dL_law_575 ?_
    refine va_sld hx hb hX hbl hbA hS v4 dL_law_576 ?_
    rw [e4]
    refine kciV2 (N := 78) (l := l) (E := E) (wc := [oo (v 0) 10 (.int k0 :: .int (iI ss) :: .int (iI n) :: .ref (v 1) :: .ref (v 2) :: .ref (v 3) :: .ref (v 4) :: .ref (v 5) :: .int (iI rs) :: .int (iI ro) :: .int (iI g) :: .int (iI tr) :: .int (iI no) :: .ref (v 6) :: .ref (v 7) :: .ref (v 8) :: .ref (v 9) :: .int k1 :: .ref (v 10) :: .ref (v 11) :: .ref (v 12) :: .ref (v 13) :: .ref (v 14) :: .int (iI t) :: .int k2 :: .int k3 :: .int k4 :: .long k5 :: .int (iI ft) :: .int k6 :: .ref (v 15) :: .ref (v 16) :: .ref (v 17) :: .int (iI st) :: .ref (v 18) :: .int (iI cn) :: .ref (v 19) :: .ref (v 20) :: .ref (v 21) :: .ref (v 22) :: .ref (v 23) :: .ref (v 24) :: .ref (v 25) :: .int (iI pk) :: .int (iI nw) :: .ref (v 26) :: .int (iI ms) :: .ref (v 27) :: .ref (v 28) :: .ref (v 29) :: .ref (v 30) :: []), ar E (v 11) 30 (iF bx), ar E (v 12) 30 (iF dx), ar E (v 15) 1056 (iF E1), ar E (v 1) 30 (iF A), ar E (v 2) 30 (iF B), ar E (v 4) 30 (iF Ho), ar E (v 3) 30 (iF M), az E (v 5) 30 (iF Se), ar E (v 16) 1056 (iF E2), ar E (v 7) 30 (iF rA), ar E (v 8) 30 (iF rH), ar E (v 6) 30 (iF rL), ar E (v 9) 30 (iF rW), ar E (v 17) 32 (iF RR), ar E (v 13) 30 (iF wx)]) (w1 := [oo (v 0) 10 (.int (iI 0) :: .int (iI (min r 0)) :: .int (iI n) :: .ref (v 1) :: .ref (v 2) :: .ref (v 3) :: .ref (v 4) :: .ref (v 5) :: .int (iI rs) :: .int (iI ro) :: .int (iI g) :: .int (iI tr) :: .int (iI no) :: .ref (v 6) :: .ref (v 7) :: .ref (v 8) :: .ref (v 9) :: .int k1 :: .ref (v 10) :: .ref (v 11) :: .ref (v 12) :: .ref (v 13) :: .ref (v 14) :: .int (iI t) :: .int k2 :: .int k3 :: .int k4 :: .long k5 :: .int (iI ft) :: .int k6 :: .ref (v 15) :: .ref (v 16) :: .ref (v 17) :: .int (iI st') :: .ref (v 18) :: .int (iI cn) :: .ref (v 19) :: .ref (v 20) :: .ref (v 21) :: .ref (v 22) :: .ref (v 23) :: .ref (v 24) :: .ref (v 25) :: .int (iI pk) :: .int (iI nw) :: .ref (v 26) :: .int (iI ms) :: .ref (v 27) :: .ref (v 28) :: .ref (v 29) :: .ref (v 30) :: []), ar E (v 11) 30 (iF bx'), ar E (v 12) 30 (iF dx'), ar E (v 15) 1056 (iF E1'), ar E (v 1) 30 (iF A), ar E (v 2) 30 (iF B), ar E (v 4) 30 (iF Ho), ar E (v 3) 30 (iF M), az E (v 5) 30 (iF Se), ar E (v 16) 1056 (iF E2'), ar E (v 7) 30 (iF rA), ar E (v 8) 30 (iF rH), ar E (v 6) 30 (iF rL), ar E (v 9) 30 (iF rW), ar E (v 17) 32 (iF RR'), ar E (v 13) 30 (iF wx')]) (w' := WX E a v (a 8) (a 15) (iI g) (iI ft) (iI (min r 0)) (iF A) (iF B) (iF M) (iF Ho) (iF Se) (iI n) (iI rs) (iI ro) (iF oL) (iF af) (iF hr) (iF wi) (iF BG) (iF DN) (iI no) (iF dL) (iF da) (iF dh) (iF dw) (iF db) (iF dd) j0 (iF TB) (iI t) j1 j2 j3 j4 j5 j6 (iF w1') (iF w2') (iF w3') (iF RR') (iI st') (iI tr) (iI tc') (iF CP) (iF CH) (iF cf) (iI cn) (iF PU) (iF hm) (iF sl) (iF wb) (iF qq) (iF hs) (iI tq) (iI hv) (iF TC) (iF SL) (iF SC) (iF SH) (iF SK) (iI nw) (iI ms) (iI 0) (iI (min r 0)) (iI n) (iF A) (iF B) (iF M) (iF Ho) (iF Se) (iI rs) (iI ro) (iI g) (iI tr) (iI no) (iF rL) (iF rA) (iF rH) (iF rW) k1 (iF NO) (iF bx') (iF dx') (iF wx') (iF TB) (iI t) k2 k3 k4 k5 (iI ft) k6 (iF E1') (iF E2') (iF RR') (iI st') (iF PU) (iI cn) (iF CP) (iF CH) (iF cm) (iF S) (iF Fl) (iF cb) (iF q2) (iI pk) (iI nw) (iF TC) (iI ms) (iF SL) (iF SC) (iF SH) (iF SK)) (ads := [(v 0), (v 11), (v 12), (v 15), (v 1), (v 2), (v 4), (v 3), (v 5), (v 16), (v 7), (v 8), (v 6), (v 9), (v 17), (v 13)]) (r := iI r) (As := [.int (iI p1), .int (iI p2), .int (iI 1), .int (iI p4)]) (rest := [.int (iI r)]) (kX10_way l E (out := (iI r, iI 0, iI (min r 0), iI st', iF bx', iF dx', iF E1', iF E2', iF RR', iF wx')) h10) ⟨hx, hb, hml, hown, hts⟩ (cwV 4 hts gL_law_X10_way rfl rfl rfl (by decide +kernel) ⟨Nat.le_of_ble_eq_true rfl, Nat.le_of_ble_eq_true rfl⟩) hE hP hD hS hA [47, 58, 59, 62, 48, 49, 51, 50, 52, 63, 54, 55, 53, 56, 64, 60] (by decide) rfl rfl rfl [0, 1, 2, 3, 4, 5, 6, 7, 8, 9, 10, 11, 12, 13, 14, 15, 16, 17, 18, 19, 20, 21, 22, 23, 24, 25, 26, 27, 28, 29, 30, 31, 32, 33, 34, 35, 36, 37, 38, 39, 40, 41, 42, 43, 44, 45, 46, 57, 61, 65, 66, 67, 68, 69, 70, 71, 72, 73, 74, 75, 76, 77] rfl rfl rfl (cov_of (by decide +kernel)) rfl rfl rfl rfl hl.1 rfl (Nat.le_of_ble_eq_true rfl) dL_law_577 ⟨Nat.le_of_ble_eq_true rfl, Nat.le_of_ble_eq_true rfl⟩ (fun H locs hP hD hS => ?_)
    refine lv_icmp_eq (tgt := 908) hx hb dL_law_580 (by decide) (fun _ => ?_) (fun cy => absurd rfl cy)
    exact hn hP hD hS hl (⟨I1, I2, I3, I4, ⟨i1, i2⟩, I6, I7, I8, I9, I10, I11, I12, I13, I14⟩)
end Le
