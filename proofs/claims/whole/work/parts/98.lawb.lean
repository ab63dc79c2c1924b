/-! THE LAW: calls -/
section Lb
set_option maxHeartbeats 4000000 in
set_option maxRecDepth 100000 in
theorem case_line {p : Program} {l : Launch} {e : Env} {s : State} {m : MethodId} {below : List Frame} {meth : Method} {c : Code} {b L : Nat} {xs : Nat → Int32} {E : KE} {Q : State → Prop} (C : LC p s m c b L xs E) {i : Nat} (hi : i + 5 < L) (hn : NX p l e s m below meth c b E Q i 908) {g ft ss n rs ro no t st tr tc cn tq hv nw ms pk : Int} {A B M Ho Se oL af hr wi BG DN dL da dh dw db dd TB w1 w2 w3 RR CP CH cf PU hm sl wb qq hs TC SL SC SH SK rL rA rH rW NO bx dx wx E1 E2 cm S Fl cb q2 : Nat → Int} {j0 j1 j2 j3 j4 j5 j6 k0 k1 k2 k3 k4 k6 : Int32} {k5 : Int64} {a v : Nat → Nat} {H : Heap} {locs : List Loc} {ls : Array Slot} (hP : va_P (kD E) vwCl (WX E a v (a 8) (a 15) (iI g) (iI ft) (iI ss) (iF A) (iF B) (iF M) (iF Ho) (iF Se) (iI n) (iI rs) (iI ro) (iF oL) (iF af) (iF hr) (iF wi) (iF BG) (iF DN) (iI no) (iF dL) (iF da) (iF dh) (iF dw) (iF db) (iF dd) j0 (iF TB) (iI t) j1 j2 j3 j4 j5 j6 (iF w1) (iF w2) (iF w3) (iF RR) (iI st) (iI tr) (iI tc) (iF CP) (iF CH) (iF cf) (iI cn) (iF PU) (iF hm) (iF sl) (iF wb) (iF qq) (iF hs) (iI tq) (iI hv) (iF TC) (iF SL) (iF SC) (iF SH) (iF SK) (iI nw) (iI ms) k0 (iI ss) (iI n) (iF A) (iF B) (iF M) (iF Ho) (iF Se) (iI rs) (iI ro) (iI g) (iI tr) (iI no) (iF rL) (iF rA) (iF rH) (iF rW) k1 (iF NO) (iF bx) (iF dx) (iF wx) (iF TB) (iI t) k2 k3 k4 k5 (iI ft) k6 (iF E1) (iF E2) (iF RR) (iI st) (iF PU) (iI cn) (iF CP) (iF CH) (iF cm) (iF S) (iF Fl) (iF cb) (iF q2) (iI pk) (iI nw) (iF TC) (iI ms) (iF SL) (iF SC) (iF SH) (iF SK)) H) (hD : va_D (lA s) (WX E a v (a 8) (a 15) (iI g) (iI ft) (iI ss) (iF A) (iF B) (iF M) (iF Ho) (iF Se) (iI n) (iI rs) (iI ro) (iF oL) (iF af) (iF hr) (iF wi) (iF BG) (iF DN) (iI no) (iF dL) (iF da) (iF dh) (iF dw) (iF db) (iF dd) j0 (iF TB) (iI t) j1 j2 j3 j4 j5 j6 (iF w1) (iF w2) (iF w3) (iF RR) (iI st) (iI tr) (iI tc) (iF CP) (iF CH) (iF cf) (iI cn) (iF PU) (iF hm) (iF sl) (iF wb) (iF qq) (iF hs) (iI tq) (iI hv) (iF TC) (iF SL) (iF SC) (iF SH) (iF SK) (iI nw) (iI ms) k0 (iI ss) (iI n) (iF A) (iF B) (iF M) (iF Ho) (iF Se) (iI rs) (iI ro) (iI g) (iI tr) (iI no) (iF rL) (iF rA) (iF rH) (iF rW) k1 (iF NO) (iF bx) (iF dx) (iF wx) (iF TB) (iI t) k2 k3 k4 k5 (iI ft) k6 (iF E1) (iF E2) (iF RR) (iI st) (iF PU) (iI cn) (iF CP) (iF CH) (iF cm) (iF S) (iF Fl) (iF cb) (iF q2) (iI pk) (iI nw) (iF TC) (iI ms) (iF SL) (iF SC) (iF SH) (iF SK))) (hS : va_S (lA s) s.heap H locs) (hl : lv_has ls 4 [(0, .ref b), (1, .ref (a 0)), (2, .ref (v 0)), (3, .int (nI i))]) (hI : INV n rs ro g t no st tr cn hv pk nw ms A B M Ho Se oL af hr wi rL rA rH rW BG DN TB CP CH PU sl S SH SK SL) : W p l e room_1 s m #[Value.ref b] below meth c H locs 78 12028 Q (F0 m 144 ls []) := by
  obtain ⟨hx, hb, hml, hown, hts, hX, hbl, hE, hL⟩ := C
  have hA : ∀ q, s.heap.size ≤ q → lA s q := fun _ h => h
  have hbA : ¬ lA s b := Nat.not_le.mpr hbl
  obtain ⟨I1, I2, I3, I4, I5, I6, I7, I8, I9, I10, I11, I12, I13, I14⟩ := hI
  obtain ⟨p1, e1, r1⟩ := iI_x (xs (nI i + iI 1).toNatClampNeg)
  have v1 : vp_in (nI i + iI 1) L := vp_at 1 (by omega) hL
  obtain ⟨p2, e2, r2⟩ := iI_x (xs (nI i + iI 2).toNatClampNeg)
  have v2 : vp_in (nI i + iI 2) L := vp_at 2 (by omega) hL
  obtain ⟨p3, e3, r3⟩ := iI_x (xs (nI i + iI 3).toNatClampNeg)
  have v3 : vp_in (nI i + iI 3) L := vp_at 3 (by omega) hL
  obtain ⟨p4, e4, r4⟩ := iI_x (xs (nI i + iI 4).toNatClampNeg)
  have v4 : vp_in (nI i + iI 4) L := vp_at 4 (by omega) hL
  obtain ⟨p5, e5, r5⟩ := iI_x (xs (nI i + iI 5).toNatClampNeg)
  have v5 : vp_in (nI i + iI 5) L := vp_at 5 (by omega) hL
  by_cases cz : iI p5 = 0
  · obtain ⟨r, n', A', B', M', Ho', Se', h9, h10, i1⟩ := sim_line (A := A) (B := B) (M := M) (Ho := Ho) (Se := Se) r1 r2 r3 r4 (show (0 : Int) = 0 ∨ (0 : Int) = 1 by omega) ⟨I1.1.1, I1.1.2.1⟩
    refine lv_aload_n hx hb dL_law_144 rfl (lv_at hl 1 rfl) ?_
    refine lv_aload_n hx hb dL_law_145 rfl (lv_at hl 0 rfl) ?_
    refine lv_iload_n hx hb dL_law_146 rfl (lv_at hl 3 rfl) ?_
    refine lv_iconst (v := iI 1) hx hb dL_law_147 (by decide) ?_
    refine lv_iadd hx hb dL_law_148 ?_
    refine va_sld hx hb hX hbl hbA hS v1 dL_law_149 ?_
    rw [e1]
    refine lv_aload_n hx hb dL_law_150 rfl (lv_at hl 0 rfl) ?_
    refine lv_iload_n hx hb dL_law_151 rfl (lv_at hl 3 rfl) ?_
    refine lv_iconst (v := iI 2) hx hb dL_law_152 (by decide) ?_
    refine lv_iadd hx hb dL_law_153 ?_
    refine va_sld hx hb hX hbl hbA hS v2 dL_law_154 ?_
    rw [e2]
    refine lv_aload_n hx hb dL_law_155 rfl (lv_at hl 0 rfl) ?_
    refine lv_iload_n hx hb dL_law_156 rfl (lv_at hl 3 rfl) ?_
    refine lv_iconst (v := iI 3) hx hb dL_law_157 (by decide) ?_
    refine lv_iadd hx hb dL_law_158 ?_
    refine va_sld hx hb hX hbl hbA hS v3 dL_law_159 ?_
    rw [e3]
    refine lv_aload_n hx hb dL_law_160 rfl (lv_at hl 0 rfl) ?_
    refine lv_iload_n hx hb dL_law_161 rfl (lv_at hl 3 rfl) ?_
    refine lv_iconst (v := iI 4) hx hb dL_law_162 (by decide) ?_
    refine lv_iadd hx hb dL_law_163 ?_
    refine va_sld hx hb hX hbl hbA hS v4 dL_law_164 ?_
    rw [e4]
    refine lv_aload_n hx hb dL_law_165 rfl (lv_at hl 0 rfl) ?_
    refine lv_iload_n hx hb dL_law_166 rfl (lv_at hl 3 rfl) ?_
    refine lv_iconst (v := iI 5) hx hb dL_law_167 (by decide) ?_
    refine lv_iadd hx hb dL_law_168 ?_
    refine va_sld hx hb hX hbl hbA hS v5 dL_law_169 ?_
    rw [e5]
    refine lv_if_eq (tgt := 177) hx hb dL_law_170 (by decide) (fun _ => ?_) (fun cy => absurd cz cy)
    refine lv_iconst (v := iI 0) hx hb dL_law_177 (by decide) ?_
    refine kciV2 (N := 78) (l := l) (E := E) (wc := [oo (a 0) 9 [.ref (a 1), .ref (a 22), .ref (a 24), .ref (a 25), .ref (a 30), .ref (a 34), .ref (a 41), .int (iI g), .int (iI ft), .int (iI ss)], oo (a 1) 3 [.ref (a 2), .ref (a 8), .ref (a 15)], oo (a 2) 1 [.ref (a 3), .ref (a 4), .ref (a 5), .ref (a 6), .ref (a 7), .int (iI n), .int (iI rs), .int (iI ro)], ar E (a 6) 30 (iF Ho), ar E (a 5) 30 (iF M), ar E (a 3) 30 (iF A), ar E (a 4) 30 (iF B), ar E (a 7) 30 (iF Se)]) (w1 := [oo (a 0) 9 [.ref (a 1), .ref (a 22), .ref (a 24), .ref (a 25), .ref (a 30), .ref (a 34), .ref (a 41), .int (iI g), .int (iI ft), .int (iI (min r 0))], oo (a 1) 3 [.ref (a 2), .ref (a 8), .ref (a 15)], oo (a 2) 1 [.ref (a 3), .ref (a 4), .ref (a 5), .ref (a 6), .ref (a 7), .int (iI n'), .int (iI rs), .int (iI ro)], ar E (a 6) 30 (iF Ho'), ar E (a 5) 30 (iF M'), ar E (a 3) 30 (iF A'), ar E (a 4) 30 (iF B'), ar E (a 7) 30 (iF Se')]) (w' := WX E a v (a 8) (a 15) (iI g) (iI ft) (iI (min r 0)) (iF A') (iF B') (iF M') (iF Ho') (iF Se') (iI n') (iI rs) (iI ro) (iF oL) (iF af) (iF hr) (iF wi) (iF BG) (iF DN) (iI no) (iF dL) (iF da) (iF dh) (iF dw) (iF db) (iF dd) j0 (iF TB) (iI t) j1 j2 j3 j4 j5 j6 (iF w1) (iF w2) (iF w3) (iF RR) (iI st) (iI tr) (iI tc) (iF CP) (iF CH) (iF cf) (iI cn) (iF PU) (iF hm) (iF sl) (iF wb) (iF qq) (iF hs) (iI tq) (iI hv) (iF TC) (iF SL) (iF SC) (iF SH) (iF SK) (iI nw) (iI ms) k0 (iI ss) (iI n) (iF A) (iF B) (iF M) (iF Ho) (iF Se) (iI rs) (iI ro) (iI g) (iI tr) (iI no) (iF rL) (iF rA) (iF rH) (iF rW) k1 (iF NO) (iF bx) (iF dx) (iF wx) (iF TB) (iI t) k2 k3 k4 k5 (iI ft) k6 (iF E1) (iF E2) (iF RR) (iI st) (iF PU) (iI cn) (iF CP) (iF CH) (iF cm) (iF S) (iF Fl) (iF cb) (iF q2) (iI pk) (iI nw) (iF TC) (iI ms) (iF SL) (iF SC) (iF SH) (iF SK)) (ads := [(a 0), (a 1), (a 2), (a 6), (a 5), (a 3), (a 4), (a 7)]) (r := iI r) (As := [.int (iI p1), .int (iI p2), .int (iI p3), .int (iI p4), .int (iI 0)]) (rest := []) (kX9_line l E (out := (iI r, iI (min r 0), iI n', iF Ho', iF M', iF A', iF B', iF Se')) h9) ⟨hx, hb, hml, hown, hts⟩ (cwV 5 hts gL_law_X9_line rfl rfl rfl (by decide +kernel) ⟨Nat.le_of_ble_eq_true rfl, Nat.le_of_ble_eq_true rfl⟩) hE hP hD hS hA [0, 1, 2, 6, 5, 3, 4, 7] (by decide) rfl rfl rfl [8, 9, 10, 11, 12, 13, 14, 15, 16, 17, 18, 19, 20, 21, 22, 23, 24, 25, 26, 27, 28, 29, 30, 31, 32, 33, 34, 35, 36, 37, 38, 39, 40, 41, 42, 43, 44, 45, 46, 47, 48, 49, 50, 51, 52, 53, 54, 55, 56, 57, 58, 59, 60, 61, 62, 63, 64, 65, 66, 67, 68, 69, 70, 71, 72, 73, 74, 75, 76, 77] rfl rfl rfl (cov_of (by decide +kernel)) rfl rfl rfl rfl hl.1 rfl (Nat.le_of_ble_eq_true rfl) dL_law_178 ⟨Nat.le_of_ble_eq_true rfl, Nat.le_of_ble_eq_true rfl⟩ (fun H locs hP hD hS => ?_)
    refine lv_aload_n hx hb dL_law_181 rfl (lv_at hl 2 rfl) ?_
    refine lv_aload_n hx hb dL_law_182 rfl (lv_at hl 0 rfl) ?_
    refine lv_iload_n hx hb dL_law_183 rfl (lv_at hl 3 rfl) ?_
    refine lv_iconst (v := iI 1) hx hb dL_law_184 (by decide) ?_
    refine lv_iadd hx hb dL_law_185 ?_
    refine va_sld hx hb hX hbl hbA hS v1 dL_law_186 ?_
    rw [e1]
    refine lv_aload_n hx hb dL_law_187 rfl (lv_at hl 0 rfl) ?_
    refine lv_iload_n hx hb dL_law_188 rfl (lv_at hl 3 rfl) ?_
    refine lv_iconst (v := iI 2) hx hb dL_law_189 (by decide) ?_
    refine lv_iadd hx hb dL_law_190 ?_
    refine va_sld hx hb hX hbl hbA hS v2 dL_law_191 ?_
    rw [e2]
    refine lv_aload_n hx hb dL_law_192 rfl (lv_at hl 0 rfl) ?_
    refine lv_iload_n hx hb dL_law_193 rfl (lv_at hl 3 rfl) ?_
    refine lv_iconst (v := iI 3) hx hb dL_law_194 (by decide) ?_
    refine lv_iadd hx hb dL_law_195 ?_
    refine va_sld hx hb hX hbl hbA hS v3 dL_law_196 ?_
    rw [e3]
    refine lv_aload_n hx hb dL_law_197 rfl (lv_at hl 0 rfl) ?_
    refine lv_iload_n hx hb dL_law_198 rfl (lv_at hl 3 rfl) ?_
    refine lv_iconst (v := iI 4) hx hb dL_law_199 (by decide) ?_
    refine lv_iadd hx hb dL_law_200 ?_
    refine va_sld hx hb hX hbl hbA hS v4 dL_law_201 ?_
    rw [e4]
    refine lv_aload_n hx hb dL_law_202 rfl (lv_at hl 0 rfl) ?_
    refine lv_iload_n hx hb dL_law_203 rfl (lv_at hl 3 rfl) ?_
    refine lv_iconst (v := iI 5) hx hb dL_law_204 (by decide) ?_
    refine lv_iadd hx hb dL_law_205 ?_
    refine va_sld hx hb hX hbl hbA hS v5 dL_law_206 ?_
    rw [e5]
    refine lv_if_eq (tgt := 214) hx hb dL_law_207 (by decide) (fun _ => ?_) (fun cy => absurd cz cy)
    refine lv_iconst (v := iI 0) hx hb dL_law_214 (by decide) ?_
    refine kciV2 (N := 78) (l := l) (E := E) (wc := [oo (v 0) 10 (.int k0 :: .int (iI ss) :: .int (iI n) :: .ref (v 1) :: .ref (v 2) :: .ref (v 3) :: .ref (v 4) :: .ref (v 5) :: .int (iI rs) :: .int (iI ro) :: .int (iI g) :: .int (iI tr) :: .int (iI no) :: .ref (v 6) :: .ref (v 7) :: .ref (v 8) :: .ref (v 9) :: .int k1 :: .ref (v 10) :: .ref (v 11) :: .ref (v 12) :: .ref (v 13) :: .ref (v 14) :: .int (iI t) :: .int k2 :: .int k3 :: .int k4 :: .long k5 :: .int (iI ft) :: .int k6 :: .ref (v 15) :: .ref (v 16) :: .ref (v 17) :: .int (iI st) :: .ref (v 18) :: .int (iI cn) :: .ref (v 19) :: .ref (v 20) :: .ref (v 21) :: .ref (v 22) :: .ref (v 23) :: .ref (v 24) :: .ref (v 25) :: .int (iI pk) :: .int (iI nw) :: .ref (v 26) :: .int (iI ms) :: .ref (v 27) :: .ref (v 28) :: .ref (v 29) :: .ref (v 30) :: []), ar E (v 1) 30 (iF A), ar E (v 2) 30 (iF B), ar E (v 4) 30 (iF Ho), ar E (v 3) 30 (iF M), az E (v 5) 30 (iF Se)]) (w1 := [oo (v 0) 10 (.int (iI 0) :: .int (iI (min r 0)) :: .int (iI n') :: .ref (v 1) :: .ref (v 2) :: .ref (v 3) :: .ref (v 4) :: .ref (v 5) :: .int (iI rs) :: .int (iI ro) :: .int (iI g) :: .int (iI tr) :: .int (iI no) :: .ref (v 6) :: .ref (v 7) :: .ref (v 8) :: .ref (v 9) :: .int k1 :: .ref (v 10) :: .ref (v 11) :: .ref (v 12) :: .ref (v 13) :: .ref (v 14) :: .int (iI t) :: .int k2 :: .int k3 :: .int k4 :: .long k5 :: .int (iI ft) :: .int k6 :: .ref (v 15) :: .ref (v 16) :: .ref (v 17) :: .int (iI st) :: .ref (v 18) :: .int (iI cn) :: .ref (v 19) :: .ref (v 20) :: .ref (v 21) :: .ref (v 22) :: .ref (v 23) :: .ref (v 24) :: .ref (v 25) :: .int (iI pk) :: .int (iI nw) :: .ref (v 26) :: .int (iI ms) :: .ref (v 27) :: .ref (v 28) :: .ref (v 29) :: .ref (v 30) :: []), ar E (v 1) 30 (iF A'), ar E (v 2) 30 (iF B'), ar E (v 4) 30 (iF Ho'), ar E (v 3) 30 (iF M'), az E (v 5) 30 (iF Se')]) (w' := WX E a v (a 8) (a 15) (iI g) (iI ft) (iI (min r 0)) (iF A') (iF B') (iF M') (iF Ho') (iF Se') (iI n') (iI rs) (iI ro) (iF oL) (iF af) (iF hr) (iF wi) (iF BG) (iF DN) (iI no) (iF dL) (iF da) (iF dh) (iF dw) (iF db) (iF dd) j0 (iF TB) (iI t) j1 j2 j3 j4 j5 j6 (iF w1) (iF w2) (iF w3) (iF RR) (iI st) (iI tr) (iI tc) (iF CP) (iF CH) (iF cf) (iI cn) (iF PU) (iF hm) (iF sl) (iF wb) (iF qq) (iF hs) (iI tq) (iI hv) (iF TC) (iF SL) (iF SC) (iF SH) (iF SK) (iI nw) (iI ms) (iI 0) (iI (min r 0)) (iI n') (iF A') (iF B') (iF M') (iF Ho') (iF Se') (iI rs) (iI ro) (iI g) (iI tr) (iI no) (iF rL) (iF rA) (iF rH) (iF rW) k1 (iF NO) (iF bx) (iF dx) (iF wx) (iF TB) (iI t) k2 k3 k4 k5 (iI ft) k6 (iF E1) (iF E2) (iF RR) (iI st) (iF PU) (iI cn) (iF CP) (iF CH) (iF cm) (iF S) (iF Fl) (iF cb) (iF q2) (iI pk) (iI nw) (iF TC) (iI ms) (iF SL) (iF SC) (iF SH) (iF SK)) (ads := [(v 0), (v 1), (v 2), (v 4), (v 3), (v 5)]) (r := iI r) (As := [.int (iI p1), .int (iI p2), .int (iI p3), .int (iI p4), .int (iI 0)]) (rest := [.int (iI r)]) (kX10_line l E (out := (iI r, iI 0, iI (min r 0), iI n', iF A', iF B', iF Ho', iF M', iF Se')) h10) ⟨hx, hb, hml, hown, hts⟩ (cwV 5 hts gL_law_X10_line rfl rfl rfl (by decide +kernel) ⟨Nat.le_of_ble_eq_true rfl, Nat.le_of_ble_eq_true rfl⟩) hE hP hD hS hA [47, 48, 49, 51, 50, 52] (by decide) rfl rfl rfl [0, 1, 2, 3, 4, 5, 6, 7, 8, 9, 10, 11, 12, 13, 14, 15, 16, 17, 18, 19, 20, 21, 22, 23, 24, 25, 26, 27, 28, 29, 30, 31, 32, 33, 34, 35, 36, 37, 38, 39, 40, 41, 42, 43, 44, 45, 46, 53, 54, 55, 56, 57, 58, 59, 60, 61, 62, 63, 64, 65, 66, 67, 68, 69, 70, 71, 72, 73, 74, 75, 76, 77] rfl rfl rfl (cov_of (by decide +kernel)) rfl rfl rfl rfl hl.1 rfl (Nat.le_of_ble_eq_true rfl) dL_law_215 ⟨Nat.le_of_ble_eq_true rfl, Nat.le_of_ble_eq_true rfl⟩ (fun H locs hP hD hS => ?_)
    refine lv_icmp_eq (tgt := 908) hx hb dL_law_218 (by decide) (fun _ => ?_) (fun cy => absurd rfl cy)
    exact hn hP hD hS hl (by
        rcases i1 with ⟨rfl, rfl, rfl, rfl, rfl, rfl⟩ | ⟨c1, rfl, a0, a1, b0, b1, ne, m0, m1, h0, h1, rfl, rfl, rfl, rfl, rfl⟩
        · exact ⟨I1, I2, I3, I4, I5, I6, I7, I8, I9, I10, I11, I12, I13, I14⟩
        · exact ⟨I1.line c1 a0 a1 b0 b1 ne m0 m1 h0 h1 (by omega), I2, I3, I4, I5, I6, I7, I8, I9, I10, I11, I12, I13, I14⟩)
  · obtain ⟨r, n', A', B', M', Ho', Se', h9, h10, i1⟩ := sim_line (A := A) (B := B) (M := M) (Ho := Ho) (Se := Se) r1 r2 r3 r4 (show (1 : Int) = 0 ∨ (1 : Int) = 1 by omega) ⟨I1.1.1, I1.1.2.1⟩
    refine lv_aload_n hx hb dL_law_144 rfl (lv_at hl 1 rfl) ?_
    refine lv_aload_n hx hb dL_law_145 rfl (lv_at hl 0 rfl) ?_
    refine lv_iload_n hx hb dL_law_146 rfl (lv_at hl 3 rfl) ?_
    refine lv_iconst (v := iI 1) hx hb dL_law_147 (by decide) ?_
    refine lv_iadd hx hb dL_law_148 ?_
    refine va_sld hx hb hX hbl hbA hS v1 dL_law_149 ?_
    rw [e1]
    refine lv_aload_n hx hb dL_law_150 rfl (lv_at hl 0 rfl) ?_
    refine lv_iload_n hx hb dL_law_151 rfl (lv_at hl 3 rfl) ?_
    refine lv_iconst (v := iI 2) hx hb dL_law_152 (by decide) ?_
    refine lv_iadd hx hb dL_law_153 ?_
    refine va_sld hx hb hX hbl hbA hS v2 dL_law_154 ?_
    rw [e2]
    refine lv_aload_n hx hb dL_law_155 rfl (lv_at hl 0 rfl) ?_
    refine lv_iload_n hx hb dL_law_156 rfl (lv_at hl 3 rfl) ?_
    refine lv_iconst (v := iI 3) hx hb dL_law_157 (by decide) ?_
    refine lv_iadd hx hb dL_law_158 ?_
    refine va_sld hx hb hX hbl hbA hS v3 dL_law_159 ?_
    rw [e3]
    refine lv_aload_n hx hb dL_law_160 rfl (lv_at hl 0 rfl) ?_
    refine lv_iload_n hx hb dL_law_161 rfl (lv_at hl 3 rfl) ?_
    refine lv_iconst (v := iI 4) hx hb dL_law_162 (by decide) ?_
    refine lv_iadd hx hb dL_law_163 ?_
    refine va_sld hx hb hX hbl hbA hS v4 dL_law_164 ?_
    rw [e4]
    refine lv_aload_n hx hb dL_law_165 rfl (lv_at hl 0 rfl) ?_
    refine lv_iload_n hx hb dL_law_166 rfl (lv_at hl 3 rfl) ?_
    refine lv_iconst (v := iI 5) hx hb dL_law_167 (by decide) ?_
    refine lv_iadd hx hb dL_law_168 ?_
    refine va_sld hx hb hX hbl hbA hS v5 dL_law_169 ?_
    rw [e5]
    refine lv_if_eq (tgt := 177) hx hb dL_law_170 (by decide) (fun cy => absurd cy cz) (fun _ => ?_)
    refine lv_iconst (v := iI 1) hx hb dL_law_173 (by decide) ?_
    refine lv_goto (tgt := 178) hx hb dL_law_174 (by decide) ?_
    refine kciV2 (N := 78) (l := l) (E := E) (wc := [oo (a 0) 9 [.ref (a 1), .ref (a 22), .ref (a 24), .ref (a 25), .ref (a 30), .ref (a 34), .ref (a 41), .int (iI g), .int (iI ft), .int (iI ss)], oo (a 1) 3 [.ref (a 2), .ref (a 8), .ref (a 15)], oo (a 2) 1 [.ref (a 3), .ref (a 4), .ref (a 5), .ref (a 6), .ref (a 7), .int (iI n), .int (iI rs), .int (iI ro)], ar E (a 6) 30 (iF Ho), ar E (a 5) 30 (iF M), ar E (a 3) 30 (iF A), ar E (a 4) 30 (iF B), ar E (a 7) 30 (iF Se)]) (w1 := [oo (a 0) 9 [.ref (a 1), .ref (a 22), .ref (a 24), .ref (a 25), .ref (a 30), .ref (a 34), .ref (a 41), .int (iI g), .int (iI ft), .int (iI (min r 0))], oo (a 1) 3 [.ref (a 2), .ref (a 8), .ref (a 15)], oo (a 2) 1 [.ref (a 3), .ref (a 4), .ref (a 5), .ref (a 6), .ref (a 7), .int (iI n'), .int (iI rs), .int (iI ro)], ar E (a 6) 30 (iF Ho'), ar E (a 5) 30 (iF M'), ar E (a 3) 30 (iF A'), ar E (a 4) 30 (iF B'), ar E (a 7) 30 (iF Se')]) (w' := WX E a v (a 8) (a 15) (iI g) (iI ft) (iI (min r 0)) (iF A') (iF B') (iF M') (iF Ho') (iF Se') (iI n') (iI rs) (iI ro) (iF oL) (iF af) (iF hr) (iF wi) (iF BG) (iF DN) (iI no) (iF dL) (iF da) (iF dh) (iF dw) (iF db) (iF dd) j0 (iF TB) (iI t) j1 j2 j3 j4 j5 j6 (iF w1) (iF w2) (iF w3) (iF RR) (iI st) (iI tr) (iI tc) (iF CP) (iF CH) (iF cf) (iI cn) (iF PU) (iF hm) (iF sl) (iF wb) (iF qq) (iF hs) (iI tq) (iI hv) (iF TC) (iF SL) (iF SC) (iF SH) (iF SK) (iI nw) (iI ms) k0 (iI ss) (iI n) (iF A) (iF B) (iF M) (iF Ho) (iF Se) (iI rs) (iI ro) (iI g) (iI tr) (iI no) (iF rL) (iF rA) (iF rH) (iF rW) k1 (iF NO) (iF bx) (iF dx) (iF wx) (iF TB) (iI t) k2 k3 k4 k5 (iI ft) k6 (iF E1) (iF E2) (iF RR) (iI st) (iF PU) (iI cn) (iF CP) (iF CH) (iF cm) (iF S) (iF Fl) (iF cb) (iF q2) (iI pk) (iI nw) (iF TC) (iI ms) (iF SL) (iF SC) (iF SH) (iF SK)) (ads := [(a 0), (a 1), (a 2), (a 6), (a 5), (a 3), (a 4), (a 7)]) (r := iI r) (As := [.int (iI p1), .int (iI p2), .int (iI p3), .int (iI p4), .int (iI 1)]) (rest := []) (kX9_line l E (out := (iI r, iI (min r 0), iI n', iF Ho', iF M', iF A', iF B', iF Se')) h9) ⟨hx, hb, hml, hown, hts⟩ (cwV 5 hts gL_law_X9_line rfl rfl rfl (by decide +kernel) ⟨Nat.le_of_ble_eq_true rfl, Nat.le_of_ble_eq_true rfl⟩) hE hP hD hS hA [0, 1, 2, 6, 5, 3, 4, 7] (by decide) rfl rfl rfl [8, 9, 10, 11, 12, 13, 14, 15, 16, 17, 18, 19, 20, 21, 22, 23, 24, 25, 26, 27, 28, 29, 30, 31, 32, 33, 34, 35, 36, 37, 38, 39, 40, 41, 42, 43, 44, 45, 46, 47, 48, 49, 50, 51, 52, 53, 54, 55, 56, 57, 58, 59, 60, 61, 62, 63, 64, 65, 66, 67, 68, 69, 70, 71, 72, 73, 74, 75, 76, 77] rfl rfl rfl (cov_of (by decide +kernel)) rfl rfl rfl rfl hl.1 rfl (Nat.le_of_ble_eq_true rfl) dL_law_178 ⟨Nat.le_of_ble_eq_true rfl, Nat.le_of_ble_eq_true rfl⟩ (fun H locs hP hD hS => ?_)
    refine lv_aload_n hx hb dL_law_181 rfl (lv_at hl 2 rfl) ?_
    refine lv_aload_n hx hb dL_law_182 rfl (lv_at hl 0 rfl) ?_
    refine lv_iload_n hx hb dL_law_183 rfl (lv_at hl 3 rfl) ?_
    refine lv_iconst (v := iI 1) hx hb dL_law_184 (by decide) ?_
    refine lv_iadd hx hb dL_law_185 ?_
    refine va_sld hx hb hX hbl hbA hS v1 dL_law_186 ?_
    rw [e1]
    refine lv_aload_n hx hb dL_law_187 rfl (lv_at hl 0 rfl) ?_
    refine lv_iload_n hx hb dL_law_188 rfl (lv_at hl 3 rfl) ?_
    refine lv_iconst (v := iI 2) hx hb dL_law_189 (by decide) ?_
    refine lv_iadd hx hb dL_law_190 ?_
    refine va_sld hx hb hX hbl hbA hS v2 dL_law_191 ?_
    rw [e2]
    refine lv_aload_n hx hb dL_law_192 rfl (lv_at hl 0 rfl) ?_
    refine lv_iload_n hx hb dL_law_193 rfl (lv_at hl 3 rfl) ?_
    refine lv_iconst (v := iI 3) hx hb dL_law_194 (by decide) ?_
    refine lv_iadd hx hb dL_law_195 ?_
    refine va_sld hx hb hX hbl hbA hS v3 dL_law_196 ?_
    rw [e3]
    refine lv_aload_n hx hb dL_law_197 rfl (lv_at hl 0 rfl) ?_
    refine lv_iload_n hx hb dL_law_198 rfl (lv_at hl 3 rfl) ?_
    refine lv_iconst (v := iI 4) hx hb dL_law_199 (by decide) ?_
    refine lv_iadd hx hb dL_law_200 ?_
    refine va_sld hx hb hX hbl hbA hS v4 dL_law_201 ?_
    rw [e4]
    refine lv_aload_n hx hb dL_law_202 rfl (lv_at hl 0 rfl) ?_
    refine lv_iload_n hx hb dL_law_203 rfl (lv_at hl 3 rfl) ?_
    refine lv_iconst (v := iI 5) hx hb dL_law_204 (by decide) ?_
    refine lv_iadd hx hb dL_law_205 ?_
    refine va_sld hx hb hX hbl hbA hS v5 dL_law_206 ?_
    rw [e5]
    refine lv_if_eq (tgt := 214) hx hb dL_law_207 (by decide) (fun cy => absurd cy cz) (fun _ => ?_)
    refine lv_iconst (v := iI 1) hx hb dL_law_210 (by decide) ?_
    refine lv_goto (tgt := 215) hx hb dL_law_211 (by decide) ?_
    refine kciV2 (N := 78) (l := l) (E := E) (wc := [oo (v 0) 10 (.int k0 :: .int (iI ss) :: .int (iI n) :: .ref (v 1) :: .ref (v 2) :: .ref (v 3) :: .ref (v 4) :: .ref (v 5) :: .int (iI rs) :: .int (iI ro) :: .int (iI g) :: .int (iI tr) :: .int (iI no) :: .ref (v 6) :: .ref (v 7) :: .ref (v 8) :: .ref (v 9) :: .int k1 :: .ref (v 10) :: .ref (v 11) :: .ref (v 12) :: .ref (v 13) :: .ref (v 14) :: .int (iI t) :: .int k2 :: .int k3 :: .int k4 :: .long k5 :: .int (iI ft) :: .int k6 :: .ref (v 15) :: .ref (v 16) :: .ref (v 17) :: .int (iI st) :: .ref (v 18) :: .int (iI cn) :: .ref (v 19) :: .ref (v 20) :: .ref (v 21) :: .ref (v 22) :: .ref (v 23) :: .ref (v 24) :: .ref (v 25) :: .int (iI pk) :: .int (iI nw) :: .ref (v 26) :: .int (iI ms) :: .ref (v 27) :: .ref (v 28) :: .ref (v 29) :: .ref (v 30) :: []), ar E (v 1) 30 (iF A), ar E (v 2) 30 (iF B), ar E (v 4) 30 (iF Ho), ar E (v 3) 30 (iF M), az E (v 5) 30 (iF Se)]) (w1 := [oo (v 0) 10 (.int (iI 0) :: .int (iI (min r 0)) :: .int (iI n') :: .ref (v 1) :: .ref (v 2) :: .ref (v 3) :: .ref (v 4) :: .ref (v 5) :: .int (iI rs) :: .int (iI ro) :: .int (iI g) :: .int (iI tr) :: .int (iI no) :: .ref (v 6) :: .ref (v 7) :: .ref (v 8) :: .ref (v 9) :: .int k1 :: .ref (v 10) :: .ref (v 11) :: .ref (v 12) :: .ref (v 13) :: .ref (v 14) :: .int (iI t) :: .int k2 :: .int k3 :: .int k4 :: .long k5 :: .int (iI ft) :: .int k6 :: .ref (v 15) :: .ref (v 16) :: .ref (v 17) :: .int (iI st) :: .ref (v 18) :: .int (iI cn) :: .ref (v 19) :: .ref (v 20) :: .ref (v 21) :: .ref (v 22) :: .ref (v 23) :: .ref (v 24) :: .ref (v 25) :: .int (iI pk) :: .int (iI nw) :: .ref (v 26) :: .int (iI ms) :: .ref (v 27) :: .ref (v 28) :: .ref (v 29) :: .ref (v 30) :: []), ar E (v 1) 30 (iF A'), ar E (v 2) 30 (iF B'), ar E (v 4) 30 (iF Ho'), ar E (v 3) 30 (iF M'), az E (v 5) 30 (iF Se')]) (w' := WX E a v (a 8) (a 15) (iI g) (iI ft) (iI (min r 0)) (iF A') (iF B') (iF M') (iF Ho') (iF Se') (iI n') (iI rs) (iI ro) (iF oL) (iF af) (iF hr) (iF wi) (iF BG) (iF DN) (iI no) (iF dL) (iF da) (iF dh) (iF dw) (iF db) (iF dd) j0 (iF TB) (iI t) j1 j2 j3 j4 j5 j6 (iF w1) (iF w2) (iF w3) (iF RR) (iI st) (iI tr) (iI tc) (iF CP) (iF CH) (iF cf) (iI cn) (iF PU) (iF hm) (iF sl) (iF wb) (iF qq) (iF hs) (iI tq) (iI hv) (iF TC) (iF SL) (iF SC) (iF SH) (iF SK) (iI nw) (iI ms) (iI 0) (iI (min r 0)) (iI n') (iF A') (iF B') (iF M') (iF Ho') (iF Se') (iI rs) (iI ro) (iI g) (iI tr) (iI no) (iF rL) (iF rA) (iF rH) (iF rW) k1 (iF NO) (iF bx) (iF dx) (iF wx) (iF TB) (iI t) k2 k3 k4 k5 (iI ft) k6 (iF E1) (iF E2) (iF RR) (iI st) (iF PU) (iI cn) (iF CP) (iF CH) (iF cm) (iF S) (iF Fl) (iF cb) (iF q2) (iI pk) (iI nw) (iF TC) (iI ms) (iF SL) (iF SC) (iF SH) (iF SK)) (ads := [(v 0), (v 1), (v 2), (v 4), (v 3), (v 5)]) (r := iI r) (As := [.int (iI p1), .int (iI p2), .int (iI p3), .int (iI p4), .int (iI 1)]) (rest := [.int (iI r)]) (kX10_line l E (out := (iI r, iI 0, iI (min r 0), iI n', iF A', iF B', iF Ho', iF M', iF Se')) h10) ⟨hx, hb, hml, hown, hts⟩ (cwV 5 hts gL_law_X10_line rfl rfl rfl (by decide +kernel) ⟨Nat.le_of_ble_eq_true rfl, Nat.le_of_ble_eq_true rfl⟩) hE hP hD hS hA [47, 48, 49, 51, 50, 52] (by decide) rfl rfl rfl [0, 1, 2, 3, 4, 5, 6, 7, 8, 9, 10, 11, 12, 13, 14, 15, 16, 17, 18, 19, 20, 21, 22, 23, 24, 25, 26, 27, 28, 29, 30, 31, 32, 33, 34, 35, 36, 37, 38, 39, 40, 41, 42, 43, 44, 45, 46, 53, 54, 55, 56, 57, 58, 59, 60, 61, 62, 63, 64, 65, 66, 67, 68, 69, 70, 71, 72, 73, 74, 75, 76, 77] rfl rfl rfl (cov_of (by decide +kernel)) rfl rfl rfl rfl hl.1 rfl (Nat.le_of_ble_eq_true rfl) dL_law_215 ⟨Nat.le_of_ble_eq_true rfl, Nat.le_of_ble_eq_true rfl⟩ (fun H locs hP hD hS => ?_)
    refine lv_icmp_eq (tgt := 908) hx hb dL_law_218 (by decide) (fun _ => ?_) (fun cy => absurd rfl cy)
    exact hn hP hD hS hl (by
        rcases i1 with ⟨rfl, rfl, rfl, rfl, rfl, rfl⟩ | ⟨c1, rfl, a0, a1, b0, b1, ne, m0, m1, h0, h1, rfl, rfl, rfl, rfl, rfl⟩
        · exact ⟨I1, I2, I3, I4, I5, I6, I7, I8, I9, I10, I11, I12, I13, I14⟩
        · exact ⟨I1.line c1 a0 a1 b0 b1 ne m0 m1 h0 h1 (by omega), I2, I3, I4, I5, I6, I7, I8, I9, I10, I11, I12, I13, I14⟩)
set_option maxHeartbeats 4000000 in
set_option maxRecDepth 100000 in
theorem case_rates {p : Program} {l : Launch} {e : Env} {s : State} {m : MethodId} {below : List Frame} {meth : Method} {c : Code} {b L : Nat} {xs : Nat → Int32} {E : KE} {Q : State → Prop} (C : LC p s m c b L xs E) {i : Nat} (hi : i + 5 < L) (hn : NX p l e s m below meth c b E Q i 908) {g ft ss n rs ro no t st tr tc cn tq hv nw ms pk : Int} {A B M Ho Se oL af hr wi BG DN dL da dh dw db dd TB w1 w2 w3 RR CP CH cf PU hm sl wb qq hs TC SL SC SH SK rL rA rH rW NO bx dx wx E1 E2 cm S Fl cb q2 : Nat → Int} {j0 j1 j2 j3 j4 j5 j6 k0 k1 k2 k3 k4 k6 : Int32} {k5 : Int64} {a v : Nat → Nat} {H : Heap} {locs : List Loc} {ls : Array Slot} (hP : va_P (kD E) vwCl (WX E a v (a 8) (a 15) (iI g) (iI ft) (iI ss) (iF A) (iF B) (iF M) (iF Ho) (iF Se) (iI n) (iI rs) (iI ro) (iF oL) (iF af) (iF hr) (iF wi) (iF BG) (iF DN) (iI no) (iF dL) (iF da) (iF dh) (iF dw) (iF db) (iF dd) j0 (iF TB) (iI t) j1 j2 j3 j4 j5 j6 (iF w1) (iF w2) (iF w3) (iF RR) (iI st) (iI tr) (iI tc) (iF CP) (iF CH) (iF cf) (iI cn) (iF PU) (iF hm) (iF sl) (iF wb) (iF qq) (iF hs) (iI tq) (iI hv) (iF TC) (iF SL) (iF SC) (iF SH) (iF SK) (iI nw) (iI ms) k0 (iI ss) (iI n) (iF A) (iF B) (iF M) (iF Ho) (iF Se) (iI rs) (iI ro) (iI g) (iI tr) (iI no) (iF rL) (iF rA) (iF rH) (iF rW) k1 (iF NO) (iF bx) (iF dx) (iF wx) (iF TB) (iI t) k2 k3 k4 k5 (iI ft) k6 (iF E1) (iF E2) (iF RR) (iI st) (iF PU) (iI cn) (iF CP) (iF CH) (iF cm) (iF S) (iF Fl) (iF cb) (iF q2) (iI pk) (iI nw) (iF TC) (iI ms) (iF SL) (iF SC) (iF SH) (iF SK)) H) (hD : va_D (lA s) (WX E a v (a 8) (a 15) (iI g) (iI ft) (iI ss) (iF A) (iF B) (iF M) (iF Ho) (iF Se) (iI n) (iI rs) (iI ro) (iF oL) (iF af) (iF hr) (iF wi) (iF BG) (iF DN) (iI no) (iF dL) (iF da) (iF dh) (iF dw) (iF db) (iF dd) j0 (iF TB) (iI t) j1 j2 j3 j4 j5 j6 (iF w1) (iF w2) (iF w3) (iF RR) (iI st) (iI tr) (iI tc) (iF CP) (iF CH) (iF cf) (iI cn) (iF PU) (iF hm) (iF sl) (iF wb) (iF qq) (iF hs) (iI tq) (iI hv) (iF TC) (iF SL) (iF SC) (iF SH) (iF SK) (iI nw) (iI ms) k0 (iI ss) (iI n) (iF A) (iF B) (iF M) (iF Ho) (iF Se) (iI rs) (iI ro) (iI g) (iI tr) (iI no) (iF rL) (iF rA) (iF rH) (iF rW) k1 (iF NO) (iF bx) (iF dx) (iF wx) (iF TB) (iI t) k2 k3 k4 k5 (iI ft) k6 (iF E1) (iF E2) (iF RR) (iI st) (iF PU) (iI cn) (iF CP) (iF CH) (iF cm) (iF S) (iF Fl) (iF cb) (iF q2) (iI pk) (iI nw) (iF TC) (iI ms) (iF SL) (iF SC) (iF SH) (iF SK))) (hS : va_S (lA s) s.heap H locs) (hl : lv_has ls 4 [(0, .ref b), (1, .ref (a 0)), (2, .ref (v 0)), (3, .int (nI i))]) (hI : INV n rs ro g t no st tr cn hv pk nw ms A B M Ho Se oL af hr wi rL rA rH rW BG DN TB CP CH PU sl S SH SK SL) : W p l e room_1 s m #[Value.ref b] below meth c H locs 78 12028 Q (F0 m 223 ls []) := by
  obtain ⟨hx, hb, hml, hown, hts, hX, hbl, hE, hL⟩ := C
  have hA : ∀ q, s.heap.size ≤ q → lA s q := fun _ h => h
  have hbA : ¬ lA s b := Nat.not_le.mpr hbl
  obtain ⟨I1, I2, I3, I4, I5, I6, I7, I8, I9, I10, I11, I12, I13, I14⟩ := hI
  obtain ⟨p1, e1, r1⟩ := iI_x (xs (nI i + iI 1).toNatClampNeg)
  have v1 : vp_in (nI i + iI 1) L := vp_at 1 (by omega) hL
  obtain ⟨p2, e2, r2⟩ := iI_x (xs (nI i + iI 2).toNatClampNeg)
  have v2 : vp_in (nI i + iI 2) L := vp_at 2 (by omega) hL
  obtain ⟨r, rs', ro', BG', DN', h9, h10, i1⟩ := sim_rates r1 r2 I1
  refine lv_aload_n hx hb dL_law_223 rfl (lv_at hl 1 rfl) ?_
  refine lv_aload_n hx hb dL_law_224 rfl (lv_at hl 0 rfl) ?_
  refine lv_iload_n hx hb dL_law_225 rfl (lv_at hl 3 rfl) ?_
  refine lv_iconst (v := iI 1) hx hb dL_law_226 (by decide) ?_
  refine lv_iadd hx hb dL_law_227 ?_
  refine va_sld hx hb hX hbl hbA hS v1 dL_law_228 ?_
  rw [e1]
  refine lv_aload_n hx hb dL_law_229 rfl (lv_at hl 0 rfl) ?_
  refine lv_iload_n hx hb dL_law_230 rfl (lv_at hl 3 rfl) ?_
  refine lv_iconst (v := iI 2) hx hb dL_law_231 (by decide) ?_
  refine lv_iadd hx hb dL_law_232 ?_
  refine va_sld hx hb hX hbl hbA hS v2 dL_law_233 ?_
  rw [e2]
  refine kciV2 (N := 78) (l := l) (E := E) (wc := [oo (a 0) 9 [.ref (a 1), .ref (a 22), .ref (a 24), .ref (a 25), .ref (a 30), .ref (a 34), .ref (a 41), .int (iI g), .int (iI ft), .int (iI ss)], oo (a 1) 3 [.ref (a 2), .ref (a 8), .ref (a 15)], oo (a 2) 1 [.ref (a 3), .ref (a 4), .ref (a 5), .ref (a 6), .ref (a 7), .int (iI n), .int (iI rs), .int (iI ro)], ar E (a 5) 30 (iF M), ar E (a 7) 30 (iF Se), oo (a 8) 2 [.ref (a 9), .ref (a 10), .ref (a 11), .ref (a 12), .ref (a 13), .ref (a 14), .int (iI no)], ar E (a 10) 30 (iF af), ar E (a 13) 30 (iF BG), ar E (a 14) 30 (iF DN), ar E (a 12) 30 (iF wi), ar E (a 11) 30 (iF hr), ar E (a 9) 30 (iF oL)]) (w1 := [oo (a 0) 9 [.ref (a 1), .ref (a 22), .ref (a 24), .ref (a 25), .ref (a 30), .ref (a 34), .ref (a 41), .int (iI g), .int (iI ft), .int (iI (min r 0))], oo (a 1) 3 [.ref (a 2), .ref (a 8), .ref (a 15)], oo (a 2) 1 [.ref (a 3), .ref (a 4), .ref (a 5), .ref (a 6), .ref (a 7), .int (iI n), .int (iI rs'), .int (iI ro')], ar E (a 5) 30 (iF M), ar E (a 7) 30 (iF Se), oo (a 8) 2 [.ref (a 9), .ref (a 10), .ref (a 11), .ref (a 12), .ref (a 13), .ref (a 14), .int (iI no)], ar E (a 10) 30 (iF af), ar E (a 13) 30 (iF BG'), ar E (a 14) 30 (iF DN'), ar E (a 12) 30 (iF wi), ar E (a 11) 30 (iF hr), ar E (a 9) 30 (iF oL)]) (w' := WX E a v (a 8) (a 15) (iI g) (iI ft) (iI (min r 0)) (iF A) (iF B) (iF M) (iF Ho) (iF Se) (iI n) (iI rs') (iI ro') (iF oL) (iF af) (iF hr) (iF wi) (iF BG') (iF DN') (iI no) (iF dL) (iF da) (iF dh) (iF dw) (iF db) (iF dd) j0 (iF TB) (iI t) j1 j2 j3 j4 j5 j6 (iF w1) (iF w2) (iF w3) (iF RR) (iI st) (iI tr) (iI tc) (iF CP) (iF CH) (iF cf) (iI cn) (iF PU) (iF hm) (iF sl) (iF wb) (iF qq) (iF hs) (iI tq) (iI hv) (iF TC) (iF SL) (iF SC) (iF SH) (iF SK) (iI nw) (iI ms) k0 (iI ss) (iI n) (iF A) (iF B) (iF M) (iF Ho) (iF Se) (iI rs) (iI ro) (iI g) (iI tr) (iI no) (iF rL) (iF rA) (iF rH) (iF rW) k1 (iF NO) (iF bx) (iF dx) (iF wx) (iF TB) (iI t) k2 k3 k4 k5 (iI ft) k6 (iF E1) (iF E2) (iF RR) (iI st) (iF PU) (iI cn) (iF CP) (iF CH) (iF cm) (iF S) (iF Fl) (iF cb) (iF q2) (iI pk) (iI nw) (iF TC) (iI ms) (iF SL) (iF SC) (iF SH) (iF SK)) (ads := [(a 0), (a 1), (a 2), (a 5), (a 7), (a 8), (a 10), (a 13), (a 14), (a 12), (a 11), (a 9)]) (r := iI r) (As := [.int (iI p1), .int (iI p2)]) (rest := []) (kX9_rates l E (out := (iI r, iI (min r 0), iI rs', iI ro', iF BG', iF DN')) h9) ⟨hx, hb, hml, hown, hts⟩ (cwV 2 hts gL_law_X9_rates rfl rfl rfl (by decide +kernel) ⟨Nat.le_of_ble_eq_true rfl, Nat.le_of_ble_eq_true rfl⟩) hE hP hD hS hA [0, 1, 2, 5, 7, 8, 10, 13, 14, 12, 11, 9] (by decide) rfl rfl rfl [3, 4, 6, 15, 16, 17, 18, 19, 20, 21, 22, 23, 24, 25, 26, 27, 28, 29, 30, 31, 32, 33, 34, 35, 36, 37, 38, 39, 40, 41, 42, 43, 44, 45, 46, 47, 48, 49, 50, 51, 52, 53, 54, 55, 56, 57, 58, 59, 60, 61, 62, 63, 64, 65, 66, 67, 68, 69, 70, 71, 72, 73, 74, 75, 76, 77] rfl rfl rfl (cov_of (by decide +kernel)) rfl rfl rfl rfl hl.1 rfl (Nat.le_of_ble_eq_true rfl) dL_law_234 ⟨Nat.le_of_ble_eq_true rfl, Nat.le_of_ble_eq_true rfl⟩ (fun H locs hP hD hS => ?_)
  refine lv_aload_n hx hb dL_law_237 rfl (lv_at hl 2 rfl) ?_
  refine lv_aload_n hx hb dL_law_238 rfl (lv_at hl 0 rfl) ?_
  refine lv_iload_n hx hb dL_law_239 rfl (lv_at hl 3 rfl) ?_
  refine lv_iconst (v := iI 1) hx hb dL_law_240 (by decide) ?_
  refine lv_iadd hx hb dL_law_241 ?_
  refine va_sld hx hb hX hbl hbA hS v1 dL_law_242 ?_
  rw [e1]
  refine lv_aload_n hx hb dL_law_243 rfl (lv_at hl 0 rfl) ?_
  refine lv_iload_n hx hb dL_law_244 rfl (lv_at hl 3 rfl) ?_
  refine lv_iconst (v := iI 2) hx hb dL_law_245 (by decide) ?_
  refine lv_iadd hx hb dL_law_246 ?_
  refine va_sld hx hb hX hbl hbA hS v2 dL_law_247 ?_
  rw [e2]
  refine kciV2 (N := 78) (l := l) (E := E) (wc := [oo (v 0) 10 (.int k0 :: .int (iI ss) :: .int (iI n) :: .ref (v 1) :: .ref (v 2) :: .ref (v 3) :: .ref (v 4) :: .ref (v 5) :: .int (iI rs) :: .int (iI ro) :: .int (iI g) :: .int (iI tr) :: .int (iI no) :: .ref (v 6) :: .ref (v 7) :: .ref (v 8) :: .ref (v 9) :: .int k1 :: .ref (v 10) :: .ref (v 11) :: .ref (v 12) :: .ref (v 13) :: .ref (v 14) :: .int (iI t) :: .int k2 :: .int k3 :: .int k4 :: .long k5 :: .int (iI ft) :: .int k6 :: .ref (v 15) :: .ref (v 16) :: .ref (v 17) :: .int (iI st) :: .ref (v 18) :: .int (iI cn) :: .ref (v 19) :: .ref (v 20) :: .ref (v 21) :: .ref (v 22) :: .ref (v 23) :: .ref (v 24) :: .ref (v 25) :: .int (iI pk) :: .int (iI nw) :: .ref (v 26) :: .int (iI ms) :: .ref (v 27) :: .ref (v 28) :: .ref (v 29) :: .ref (v 30) :: [])]) (w1 := [oo (v 0) 10 (.int (iI 0) :: .int (iI (min r 0)) :: .int (iI n) :: .ref (v 1) :: .ref (v 2) :: .ref (v 3) :: .ref (v 4) :: .ref (v 5) :: .int (iI rs') :: .int (iI ro') :: .int (iI g) :: .int (iI tr) :: .int (iI no) :: .ref (v 6) :: .ref (v 7) :: .ref (v 8) :: .ref (v 9) :: .int k1 :: .ref (v 10) :: .ref (v 11) :: .ref (v 12) :: .ref (v 13) :: .ref (v 14) :: .int (iI t) :: .int k2 :: .int k3 :: .int k4 :: .long k5 :: .int (iI ft) :: .int k6 :: .ref (v 15) :: .ref (v 16) :: .ref (v 17) :: .int (iI st) :: .ref (v 18) :: .int (iI cn) :: .ref (v 19) :: .ref (v 20) :: .ref (v 21) :: .ref (v 22) :: .ref (v 23) :: .ref (v 24) :: .ref (v 25) :: .int (iI pk) :: .int (iI nw) :: .ref (v 26) :: .int (iI ms) :: .ref (v 27) :: .ref (v 28) :: .ref (v 29) :: .ref (v 30) :: [])]) (w' := WX E a v (a 8) (a 15) (iI g) (iI ft) (iI (min r 0)) (iF A) (iF B) (iF M) (iF Ho) (iF Se) (iI n) (iI rs') (iI ro') (iF oL) (iF af) (iF hr) (iF wi) (iF BG') (iF DN') (iI no) (iF dL) (iF da) (iF dh) (iF dw) (iF db) (iF dd) j0 (iF TB) (iI t) j1 j2 j3 j4 j5 j6 (iF w1) (iF w2) (iF w3) (iF RR) (iI st) (iI tr) (iI tc) (iF CP) (iF CH) (iF cf) (iI cn) (iF PU) (iF hm) (iF sl) (iF wb) (iF qq) (iF hs) (iI tq) (iI hv) (iF TC) (iF SL) (iF SC) (iF SH) (iF SK) (iI nw) (iI ms) (iI 0) (iI (min r 0)) (iI n) (iF A) (iF B) (iF M) (iF Ho) (iF Se) (iI rs') (iI ro') (iI g) (iI tr) (iI no) (iF rL) (iF rA) (iF rH) (iF rW) k1 (iF NO) (iF bx) (iF dx) (iF wx) (iF TB) (iI t) k2 k3 k4 k5 (iI ft) k6 (iF E1) (iF E2) (iF RR) (iI st) (iF PU) (iI cn) (iF CP) (iF CH) (iF cm) (iF S) (iF Fl) (iF cb) (iF q2) (iI pk) (iI nw) (iF TC) (iI ms) (iF SL) (iF SC) (iF SH) (iF SK)) (ads := [(v 0)]) (r := iI r) (As := [.int (iI p1), .int (iI p2)]) (rest := [.int (iI r)]) (kX10_rates l E (out := (iI r, iI 0, iI (min r 0), iI rs', iI ro')) h10) ⟨hx, hb, hml, hown, hts⟩ (cwV 2 hts gL_law_X10_rates rfl rfl rfl (by decide +kernel) ⟨Nat.le_of_ble_eq_true rfl, Nat.le_of_ble_eq_true rfl⟩) hE hP hD hS hA [47] (by decide) rfl rfl rfl [0, 1, 2, 3, 4, 5, 6, 7, 8, 9, 10, 11, 12, 13, 14, 15, 16, 17, 18, 19, 20, 21, 22, 23, 24, 25, 26, 27, 28, 29, 30, 31, 32, 33, 34, 35, 36, 37, 38, 39, 40, 41, 42, 43, 44, 45, 46, 48, 49, 50, 51, 52, 53, 54, 55, 56, 57, 58, 59, 60, 61, 62, 63, 64, 65, 66, 67, 68, 69, 70, 71, 72, 73, 74, 75, 76, 77] rfl rfl rfl (cov_of (by decide +kernel)) rfl rfl rfl rfl hl.1 rfl (Nat.le_of_ble_eq_true rfl) dL_law_248 ⟨Nat.le_of_ble_eq_true rfl, Nat.le_of_ble_eq_true rfl⟩ (fun H locs hP hD hS => ?_)
  refine lv_icmp_eq (tgt := 908) hx hb dL_law_251 (by decide) (fun _ => ?_) (fun cy => absurd rfl cy)
  exact hn hP hD hS hl (⟨i1, I2, I3, I4, I5, I6, I7, I8, I9, I10, I11, I12, I13, I14⟩)
set_option maxHeartbeats 4000000 in
set_option maxRecDepth 100000 in
theorem case_transfer {p : Program} {l : Launch} {e : Env} {s : State} {m : MethodId} {below : List Frame} {meth : Method} {c : Code} {b L : Nat} {xs : Nat → Int32} {E : KE} {Q : State → Prop} (C : LC p s m c b L xs E) {i : Nat} (hi : i + 5 < L) (hn : NX p l e s m below meth c b E Q i 908) {g ft ss n rs ro no t st tr tc cn tq hv nw ms pk : Int} {A B M Ho Se oL af hr wi BG DN dL da dh dw db dd TB w1 w2 w3 RR CP CH cf PU hm sl wb qq hs TC SL SC SH SK rL rA rH rW NO bx dx wx E1 E2 cm S Fl cb q2 : Nat → Int} {j0 j1 j2 j3 j4 j5 j6 k0 k1 k2 k3 k4 k6 : Int32} {k5 : Int64} {a v : Nat → Nat} {H : Heap} {locs : List Loc} {ls : Array Slot} (hP : va_P (kD E) vwCl (WX E a v (a 8) (a 15) (iI g) (iI ft) (iI ss) (iF A) (iF B) (iF M) (iF Ho) (iF Se) (iI n) (iI rs) (iI ro) (iF oL) (iF af) (iF hr) (iF wi) (iF BG) (iF DN) (iI no) (iF dL) (iF da) (iF dh) (iF dw) (iF db) (iF dd) j0 (iF TB) (iI t) j1 j2 j3 j4 j5 j6 (iF w1) (iF w2) (iF w3) (iF RR) (iI st) (iI tr) (iI tc) (iF CP) (iF CH) (iF cf) (iI cn) (iF PU) (iF hm) (iF sl) (iF wb) (iF qq) (iF hs) (iI tq) (iI hv) (iF TC) (iF SL) (iF SC) (iF SH) (iF SK) (iI nw) (iI ms) k0 (iI ss) (iI n) (iF A) (iF B) (iF M) (iF Ho) (iF Se) (iI rs) (iI ro) (iI g) (iI tr) (iI no) (iF rL) (iF rA) (iF rH) (iF rW) k1 (iF NO) (iF bx) (iF dx) (iF wx) (iF TB) (iI t) k2 k3 k4 k5 (iI ft) k6 (iF E1) (iF E2) (iF RR) (iI st) (iF PU) (iI cn) (iF CP) (iF CH) (iF cm) (iF S) (iF Fl) (iF cb) (iF q2) (iI pk) (iI nw) (iF TC) (iI ms) (iF SL) (iF SC) (iF SH) (iF SK)) H) (hD : va_D (lA s) (WX E a v (a 8) (a 15) (iI g) (iI ft) (iI ss) (iF A) (iF B) (iF M) (iF Ho) (iF Se) (iI n) (iI rs) (iI ro) (iF oL) (iF af) (iF hr) (iF wi) (iF BG) (iF DN) (iI no) (iF dL) (iF da) (iF dh) (iF dw) (iF db) (iF dd) j0 (iF TB) (iI t) j1 j2 j3 j4 j5 j6 (iF w1) (iF w2) (iF w3) (iF RR) (iI st) (iI tr) (iI tc) (iF CP) (iF CH) (iF cf) (iI cn) (iF PU) (iF hm) (iF sl) (iF wb) (iF qq) (iF hs) (iI tq) (iI hv) (iF TC) (iF SL) (iF SC) (iF SH) (iF SK) (iI nw) (iI ms) k0 (iI ss) (iI n) (iF A) (iF B) (iF M) (iF Ho) (iF Se) (iI rs) (iI ro) (iI g) (iI tr) (iI no) (iF rL) (iF rA) (iF rH) (iF rW) k1 (iF NO) (iF bx) (iF dx) (iF wx) (iF TB) (iI t) k2 k3 k4 k5 (iI ft) k6 (iF E1) (iF E2) (iF RR) (iI st) (iF PU) (iI cn) (iF CP) (iF CH) (iF cm) (iF S) (iF Fl) (iF cb) (iF q2) (iI pk) (iI nw) (iF TC) (iI ms) (iF SL) (iF SC) (iF SH) (iF SK))) (hS : va_S (lA s) s.heap H locs) (hl : lv_has ls 4 [(0, .ref b), (1, .ref (a 0)), (2, .ref (v 0)), (3, .int (nI i))]) (hI : INV n rs ro g t no st tr cn hv pk nw ms A B M Ho Se oL af hr wi rL rA rH rW BG DN TB CP CH PU sl S SH SK SL) : W p l e room_1 s m #[Value.ref b] below meth c H locs 78 12028 Q (F0 m 279 ls []) := by
  obtain ⟨hx, hb, hml, hown, hts, hX, hbl, hE, hL⟩ := C
  have hA : ∀ q, s.heap.size ≤ q → lA s q := fun _ h => h
  have hbA : ¬ lA s b := Nat.not_le.mpr hbl
  obtain ⟨I1, I2, I3, I4, I5, I6, I7, I8, I9, I10, I11, I12, I13, I14⟩ := hI
  obtain ⟨p1, e1, r1⟩ := iI_x (xs (nI i + iI 1).toNatClampNeg)
  have v1 : vp_in (nI i + iI 1) L := vp_at 1 (by omega) hL
  obtain ⟨r, tr', h9, h10, i1, i2⟩ := sim_transfer r1 I6
  refine lv_aload_n hx hb dL_law_279 rfl (lv_at hl 1 rfl) ?_
  refine lv_aload_n hx hb dL_law_280 rfl (lv_at hl 0 rfl) ?_
  refine lv_iload_n hx hb dL_law_281 rfl (lv_at hl 3 rfl) ?_
  refine lv_iconst (v := iI 1) hx hb dL_law_282 (by decide) ?_
  refine lv_iadd hx hb dL_law_283 ?_
  refine va_sld hx hb hX hbl hbA hS v1 dL_law_284 ?_
  rw [e1]
  refine kciV2 (N := 78) (l := l) (E := E) (wc := [oo (a 0) 9 [.ref (a 1), .ref (a 22), .ref (a 24), .ref (a 25), .ref (a 30), .ref (a 34), .ref (a 41), .int (iI g), .int (iI ft), .int (iI ss)], oo (a 25) 7 [.ref (a 26), .ref (a 27), .ref (a 28), .ref (a 29), .int (iI st), .int (iI tr), .int (iI tc)]]) (w1 := [oo (a 0) 9 [.ref (a 1), .ref (a 22), .ref (a 24), .ref (a 25), .ref (a 30), .ref (a 34), .ref (a 41), .int (iI g), .int (iI ft), .int (iI (min r 0))], oo (a 25) 7 [.ref (a 26), .ref (a 27), .ref (a 28), .ref (a 29), .int (iI st), .int (iI tr'), .int (iI tc)]]) (w' := WX E a v (a 8) (a 15) (iI g) (iI ft) (iI (min r 0)) (iF A) (iF B) (iF M) (iF Ho) (iF Se) (iI n) (iI rs) (iI ro) (iF oL) (iF af) (iF hr) (iF wi) (iF BG) (iF DN) (iI no) (iF dL) (iF da) (iF dh) (iF dw) (iF db) (iF dd) j0 (iF TB) (iI t) j1 j2 j3 j4 j5 j6 (iF w1) (iF w2) (iF w3) (iF RR) (iI st) (iI tr') (iI tc) (iF CP) (iF CH) (iF cf) (iI cn) (iF PU) (iF hm) (iF sl) (iF wb) (iF qq) (iF hs) (iI tq) (iI hv) (iF TC) (iF SL) (iF SC) (iF SH) (iF SK) (iI nw) (iI ms) k0 (iI ss) (iI n) (iF A) (iF B) (iF M) (iF Ho) (iF Se) (iI rs) (iI ro) (iI g) (iI tr) (iI no) (iF rL) (iF rA) (iF rH) (iF rW) k1 (iF NO) (iF bx) (iF dx) (iF wx) (iF TB) (iI t) k2 k3 k4 k5 (iI ft) k6 (iF E1) (iF E2) (iF RR) (iI st) (iF PU) (iI cn) (iF CP) (iF CH) (iF cm) (iF S) (iF Fl) (iF cb) (iF q2) (iI pk) (iI nw) (iF TC) (iI ms) (iF SL) (iF SC) (iF SH) (iF SK)) (ads := [(a 0), (a 25)]) (r := iI r) (As := [.int (iI p1)]) (rest := []) (kX9_transfer l E (out := (iI r, iI (min r 0), iI tr')) h9) ⟨hx, hb, hml, hown, hts⟩ (cwV 1 hts gL_law_X9_transfer rfl rfl rfl (by decide +kernel) ⟨Nat.le_of_ble_eq_true rfl, Nat.le_of_ble_eq_true rfl⟩) hE hP hD hS hA [0, 25] (by decide) rfl rfl rfl [1, 2, 3, 4, 5, 6, 7, 8, 9, 10, 11, 12, 13, 14, 15, 16, 17, 18, 19, 20, 21, 22, 23, 24, 26, 27, 28, 29, 30, 31, 32, 33, 34, 35, 36, 37, 38, 39, 40, 41, 42, 43, 44, 45, 46, 47, 48, 49, 50, 51, 52, 53, 54, 55, 56, 57, 58, 59, 60, 61, 62, 63, 64, 65, 66, 67, 68, 69, 70, 71, 72, 73, 74, 75, 76, 77] rfl rfl rfl (cov_of (by decide +kernel)) rfl rfl rfl rfl hl.1 rfl (Nat.le_of_ble_eq_true rfl) dL_law_285 ⟨Nat.le_of_ble_eq_true rfl, Nat.le_of_ble_eq_true rfl⟩ (fun H locs hP hD hS => ?_)
  refine lv_aload_n hx hb dL_law_288 rfl (lv_at hl 2 rfl) ?_
  refine lv_aload_n hx hb dL_law_289 rfl (lv_at hl 0 rfl) ?_
  refine lv_iload_n hx hb dL_law_290 rfl (lv_at hl 3 rfl) ?_
  refine lv_iconst (v := iI 1) hx hb dL_law_291 (by decide) ?_
  refine lv_iadd hx hb dL_law_292 ?_
  refine va_sld hx hb hX hbl hbA hS v1 dL_law_293 ?_
  rw [e1]
  refine kciV2 (N := 78) (l := l) (E := E) (wc := [oo (v 0) 10 (.int k0 :: .int (iI ss) :: .int (iI n) :: .ref (v 1) :: .ref (v 2) :: .ref (v 3) :: .ref (v 4) :: .ref (v 5) :: .int (iI rs) :: .int (iI ro) :: .int (iI g) :: .int (iI tr) :: .int (iI no) :: .ref (v 6) :: .ref (v 7) :: .ref (v 8) :: .ref (v 9) :: .int k1 :: .ref (v 10) :: .ref (v 11) :: .ref (v 12) :: .ref (v 13) :: .ref (v 14) :: .int (iI t) :: .int k2 :: .int k3 :: .int k4 :: .long k5 :: .int (iI ft) :: .int k6 :: .ref (v 15) :: .ref (v 16) :: .ref (v 17) :: .int (iI st) :: .ref (v 18) :: .int (iI cn) :: .ref (v 19) :: .ref (v 20) :: .ref (v 21) :: .ref (v 22) :: .ref (v 23) :: .ref (v 24) :: .ref (v 25) :: .int (iI pk) :: .int (iI nw) :: .ref (v 26) :: .int (iI ms) :: .ref (v 27) :: .ref (v 28) :: .ref (v 29) :: .ref (v 30) :: [])]) (w1 := [oo (v 0) 10 (.int (iI 0) :: .int (iI (min r 0)) :: .int (iI n) :: .ref (v 1) :: .ref (v 2) :: .ref (v 3) :: .ref (v 4) :: .ref (v 5) :: .int (iI rs) :: .int (iI ro) :: .int (iI g) :: .int (iI tr') :: .int (iI no) :: .ref (v 6) :: .ref (v 7) :: .ref (v 8) :: .ref (v 9) :: .int k1 :: .ref (v 10) :: .ref (v 11) :: .ref (v 12) :: .ref (v 13) :: .ref (v 14) :: .int (iI t) :: .int k2 :: .int k3 :: .int k4 :: .long k5 :: .int (iI ft) :: .int k6 :: .ref (v 15) :: .ref (v 16) :: .ref (v 17) :: .int (iI st) :: .ref (v 18) :: .int (iI cn) :: .ref (v 19) :: .ref (v 20) :: .ref (v 21) :: .ref (v 22) :: .ref (v 23) :: .ref (v 24) :: .ref (v 25) :: .int (iI pk) :: .int (iI nw) :: .ref (v 26) :: .int (iI ms) :: .ref (v 27) :: .ref (v 28) :: .ref (v 29) :: .ref (v 30) :: [])]) (w' := WX E a v (a 8) (a 15) (iI g) (iI ft) (iI (min r 0)) (iF A) (iF B) (iF M) (iF Ho) (iF Se) (iI n) (iI rs) (iI ro) (iF oL) (iF af) (iF hr) (iF wi) (iF BG) (iF DN) (iI no) (iF dL) (iF da) (iF dh) (iF dw) (iF db) (iF dd) j0 (iF TB) (iI t) j1 j2 j3 j4 j5 j6 (iF w1) (iF w2) (iF w3) (iF RR) (iI st) (iI tr') (iI tc) (iF CP) (iF CH) (iF cf) (iI cn) (iF PU) (iF hm) (iF sl) (iF wb) (iF qq) (iF hs) (iI tq) (iI hv) (iF TC) (iF SL) (iF SC) (iF SH) (iF SK) (iI nw) (iI ms) (iI 0) (iI (min r 0)) (iI n) (iF A) (iF B) (iF M) (iF Ho) (iF Se) (iI rs) (iI ro) (iI g) (iI tr') (iI no) (iF rL) (iF rA) (iF rH) (iF rW) k1 (iF NO) (iF bx) (iF dx) (iF wx) (iF TB) (iI t) k2 k3 k4 k5 (iI ft) k6 (iF E1) (iF E2) (iF RR) (iI st) (iF PU) (iI cn) (iF CP) (iF CH) (iF cm) (iF S) (iF Fl) (iF cb) (iF q2) (iI pk) (iI nw) (iF TC) (iI ms) (iF SL) (iF SC) (iF SH) (iF SK)) (ads := [(v 0)]) (r := iI r) (As := [.int (iI p1)]) (rest := [.int (iI r)]) (kX10_transfer l E (out := (iI r, iI 0, iI (min r 0), iI tr')) h10) ⟨hx, hb, hml, hown, hts⟩ (cwV 1 hts gL_law_X10_transfer rfl rfl rfl (by decide +kernel) ⟨Nat.le_of_ble_eq_true rfl, Nat.le_of_ble_eq_true rfl⟩) hE hP hD hS hA [47] (by decide) rfl rfl rfl [0, 1, 2, 3, 4, 5, 6, 7, 8, 9, 10, 11, 12, 13, 14, 15, 16, 17, 18, 19, 20, 21, 22, 23, 24, 25, 26, 27, 28, 29, 30, 31, 32, 33, 34, 35, 36, 37, 38, 39, 40, 41, 42, 43, 44, 45, 46, 48, 49, 50, 51, 52, 53, 54, 55, 56, 57, 58, 59, 60, 61, 62, 63, 64, 65, 66, 67, 68, 69, 70, 71, 72, 73, 74, 75, 76, 77] rfl rfl rfl (cov_of (by decide +kernel)) rfl rfl rfl rfl hl.1 rfl (Nat.le_of_ble_eq_true rfl) dL_law_294 ⟨Nat.le_of_ble_eq_true rfl, Nat.le_of_ble_eq_true rfl⟩ (fun H locs hP hD hS => ?_)
  refine lv_icmp_eq (tgt := 908) hx hb dL_law_297 (by decide) (fun _ => ?_) (fun cy => absurd rfl cy)
  exact hn hP hD hS hl (⟨I1, I2, I3, I4, I5, ⟨i1, i2⟩, I7, I8, I9, I10, I11, I12, I13, I14⟩)
set_option maxHeartbeats 4000000 in
set_option maxRecDepth 100000 in
theorem case_feed {p : Program} {l : Launch} {e : Env} {s : State} {m : MethodId} {below : List Frame} {meth : Method} {c : Code} {b L : Nat} {xs : Nat → Int32} {E : KE} {Q : State → Prop} (C : LC p s m c b L xs E) {i : Nat} (hi : i + 5 < L) (hn : NX p l e s m below meth c b E Q i 908) {g ft ss n rs ro no t st tr tc cn tq hv nw ms pk : Int} {A B M Ho Se oL af hr wi BG DN dL da dh dw db dd TB w1 w2 w3 RR CP CH cf PU hm sl wb qq hs TC SL SC SH SK rL rA rH rW NO bx dx wx E1 E2 cm S Fl cb q2 : Nat → Int} {j0 j1 j2 j3 j4 j5 j6 k0 k1 k2 k3 k4 k6 : Int32} {k5 : Int64} {a v : Nat → Nat} {H : Heap} {locs : List Loc} {ls : Array Slot} (hP : va_P (kD E) vwCl (WX E a v (a 8) (a 15) (iI g) (iI ft) (iI ss) (iF A) (iF B) (iF M) (iF Ho) (iF Se) (iI n) (iI rs) (iI ro) (iF oL) (iF af) (iF hr) (iF wi) (iF BG) (iF DN) (iI no) (iF dL) (iF da) (iF dh) (iF dw) (iF db) (iF dd) j0 (iF TB) (iI t) j1 j2 j3 j4 j5 j6 (iF w1) (iF w2) (iF w3) (iF RR) (iI st) (iI tr) (iI tc) (iF CP) (iF CH) (iF cf) (iI cn) (iF PU) (iF hm) (iF sl) (iF wb) (iF qq) (iF hs) (iI tq) (iI hv) (iF TC) (iF SL) (iF SC) (iF SH) (iF SK) (iI nw) (iI ms) k0 (iI ss) (iI n) (iF A) (iF B) (iF M) (iF Ho) (iF Se) (iI rs) (iI ro) (iI g) (iI tr) (iI no) (iF rL) (iF rA) (iF rH) (iF rW) k1 (iF NO) (iF bx) (iF dx) (iF wx) (iF TB) (iI t) k2 k3 k4 k5 (iI ft) k6 (iF E1) (iF E2) (iF RR) (iI st) (iF PU) (iI cn) (iF CP) (iF CH) (iF cm) (iF S) (iF Fl) (iF cb) (iF q2) (iI pk) (iI nw) (iF TC) (iI ms) (iF SL) (iF SC) (iF SH) (iF SK)) H) (hD : va_D (lA s) (WX E a v (a 8) (a 15) (iI g) (iI ft) (iI ss) (iF A) (iF B) (iF M) (iF Ho) (iF Se) (iI n) (iI rs) (iI ro) (iF oL) (iF af) (iF hr) (iF wi) (iF BG) (iF DN) (iI no) (iF dL) (iF da) (iF dh) (iF dw) (iF db) (iF dd) j0 (iF TB) (iI t) j1 j2 j3 j4 j5 j6 (iF w1) (iF w2) (iF w3) (iF RR) (iI st) (iI tr) (iI tc) (iF CP) (iF CH) (iF cf) (iI cn) (iF PU) (iF hm) (iF sl) (iF wb) (iF qq) (iF hs) (iI tq) (iI hv) (iF TC) (iF SL) (iF SC) (iF SH) (iF SK) (iI nw) (iI ms) k0 (iI ss) (iI n) (iF A) (iF B) (iF M) (iF Ho) (iF Se) (iI rs) (iI ro) (iI g) (iI tr) (iI no) (iF rL) (iF rA) (iF rH) (iF rW) k1 (iF NO) (iF bx) (iF dx) (iF wx) (iF TB) (iI t) k2 k3 k4 k5 (iI ft) k6 (iF E1) (iF E2) (iF RR) (iI st) (iF PU) (iI cn) (iF CP) (iF CH) (iF cm) (iF S) (iF Fl) (iF cb) (iF q2) (iI pk) (iI nw) (iF TC) (iI ms) (iF SL) (iF SC) (iF SH) (iF SK))) (hS : va_S (lA s) s.heap H locs) (hl : lv_has ls 4 [(0, .ref b), (1, .ref (a 0)), (2, .ref (v 0)), (3, .int (nI i))]) (hI : INV n rs ro g t no st tr cn hv pk nw ms A B M Ho Se oL af hr wi rL rA rH rW BG DN TB CP CH PU sl S SH SK SL) : W p l e room_1 s m #[Value.ref b] below meth c H locs 78 12028 Q (F0 m 302 ls []) := by
  obtain ⟨hx, hb, hml, hown, hts, hX, hbl, hE, hL⟩ := C
  have hA : ∀ q, s.heap.size ≤ q → lA s q := fun _ h => h
  have hbA : ¬ lA s b := Nat.not_le.mpr hbl
  obtain ⟨I1, I2, I3, I4, I5, I6, I7, I8, I9, I10, I11, I12, I13, I14⟩ := hI
  obtain ⟨p1, e1, r1⟩ := iI_x (xs (nI i + iI 1).toNatClampNeg)
  have v1 : vp_in (nI i + iI 1) L := vp_at 1 (by omega) hL
  obtain ⟨p2, e2, r2⟩ := iI_x (xs (nI i + iI 2).toNatClampNeg)
  have v2 : vp_in (nI i + iI 2) L := vp_at 2 (by omega) hL
  obtain ⟨p3, e3, r3⟩ := iI_x (xs (nI i + iI 3).toNatClampNeg)
  have v3 : vp_in (nI i + iI 3) L := vp_at 3 (by omega) hL
  obtain ⟨p4, e4, r4⟩ := iI_x (xs (nI i + iI 4).toNatClampNeg)
  have v4 : vp_in (nI i + iI 4) L := vp_at 4 (by omega) hL
  obtain ⟨p5, e5, r5⟩ := iI_x (xs (nI i + iI 5).toNatClampNeg)
  have v5 : vp_in (nI i + iI 5) L := vp_at 5 (by omega) hL
  obtain ⟨r, t', TB', h9, h10, i1, i2⟩ := sim_feed (a := iI p1) (b := iI p2) (c := iI p3) (d := iI p4) (e := iI p5) I3 I4
  refine lv_aload_n hx hb dL_law_302 rfl (lv_at hl 1 rfl) ?_
  refine lv_aload_n hx hb dL_law_303 rfl (lv_at hl 0 rfl) ?_
  refine lv_iload_n hx hb dL_law_304 rfl (lv_at hl 3 rfl) ?_
  refine lv_iconst (v := iI 1) hx hb dL_law_305 (by decide) ?_
  refine lv_iadd hx hb dL_law_306 ?_
  refine va_sld hx hb hX hbl hbA hS v1 dL_law_307 ?_
  rw [e1]
  refine lv_aload_n hx hb dL_law_308 rfl (lv_at hl 0 rfl) ?_
  refine lv_iload_n hx hb dL_law_309 rfl (lv_at hl 3 rfl) ?_
  refine lv_iconst (v := iI 2) hx hb dL_law_310 (by decide) ?_
  refine lv_iadd hx hb dL_law_311 ?_
  refine va_sld hx hb hX hbl hbA hS v2 dL_law_312 ?_
  rw [e2]
  refine lv_aload_n hx hb dL_law_313 rfl (lv_at hl 0 rfl) ?_
  refine lv_iload_n hx hb dL_law_314 rfl (lv_at hl 3 rfl) ?_
  refine lv_iconst (v := iI 3) hx hb dL_law_315 (by decide) ?_
  refine lv_iadd hx hb dL_law_316 ?_
  refine va_sld hx hb hX hbl hbA hS v3 dL_law_317 ?_
  rw [e3]
  refine lv_aload_n hx hb dL_law_318 rfl (lv_at hl 0 rfl) ?_
  refine lv_iload_n hx hb dL_law_319 rfl (lv_at hl 3 rfl) ?_
  refine lv_iconst (v := iI 4) hx hb dL_law_320 (by decide) ?_
  refine lv_iadd hx hb dL_law_321 ?_
  refine va_sld hx hb hX hbl hbA hS v4 dL_law_322 ?_
  rw [e4]
  refine lv_aload_n hx hb dL_law_323 rfl (lv_at hl 0 rfl) ?_
  refine lv_iload_n hx hb dL_law_324 rfl (lv_at hl 3 rfl) ?_
  refine lv_iconst (v := iI 5) hx hb dL_law_325 (by decide) ?_
  refine lv_iadd hx hb dL_law_326 ?_
  refine va_sld hx hb hX hbl hbA hS v5 dL_law_327 ?_
  rw [e5]
  refine kciV2 (N := 78) (l := l) (E := E) (wc := [oo (a 0) 9 [.ref (a 1), .ref (a 22), .ref (a 24), .ref (a 25), .ref (a 30), .ref (a 34), .ref (a 41), .int (iI g), .int (iI ft), .int (iI ss)], oo (a 22) 6 [.ref (a 23), .int (iI t), .int j1, .int j2], ar E (a 23) 400 (iF TB)]) (w1 := [oo (a 0) 9 [.ref (a 1), .ref (a 22), .ref (a 24), .ref (a 25), .ref (a 30), .ref (a 34), .ref (a 41), .int (iI g), .int (iI ft), .int (iI ss)], oo (a 22) 6 [.ref (a 23), .int (iI t'), .int j1, .int j2], ar E (a 23) 400 (iF TB')]) (w' := WX E a v (a 8) (a 15) (iI g) (iI ft) (iI ss) (iF A) (iF B) (iF M) (iF Ho) (iF Se) (iI n) (iI rs) (iI ro) (iF oL) (iF af) (iF hr) (iF wi) (iF BG) (iF DN) (iI no) (iF dL) (iF da) (iF dh) (iF dw) (iF db) (iF dd) j0 (iF TB') (iI t') j1 j2 j3 j4 j5 j6 (iF w1) (iF w2) (iF w3) (iF RR) (iI st) (iI tr) (iI tc) (iF CP) (iF CH) (iF cf) (iI cn) (iF PU) (iF hm) (iF sl) (iF wb) (iF qq) (iF hs) (iI tq) (iI hv) (iF TC) (iF SL) (iF SC) (iF SH) (iF SK) (iI nw) (iI ms) k0 (iI ss) (iI n) (iF A) (iF B) (iF M) (iF Ho) (iF Se) (iI rs) (iI ro) (iI g) (iI tr) (iI no) (iF rL) (iF rA) (iF rH) (iF rW) k1 (iF NO) (iF bx) (iF dx) (iF wx) (iF TB) (iI t) k2 k3 k4 k5 (iI ft) k6 (iF E1) (iF E2) (iF RR) (iI st) (iF PU) (iI cn) (iF CP) (iF CH) (iF cm) (iF S) (iF Fl) (iF cb) (iF q2) (iI pk) (iI nw) (iF TC) (iI ms) (iF SL) (iF SC) (iF SH) (iF SK)) (ads := [(a 0), (a 22), (a 23)]) (r := iI r) (As := [.int (iI p1), .int (iI p2), .int (iI p3), .int (iI p4), .int (iI p5)]) (rest := []) (kX9_feed l E (out := (iI r, iI t', iF TB')) h9) ⟨hx, hb, hml, hown, hts⟩ (cwV 5 hts gL_law_X9_feed rfl rfl rfl (by decide +kernel) ⟨Nat.le_of_ble_eq_true rfl, Nat.le_of_ble_eq_true rfl⟩) hE hP hD hS hA [0, 22, 23] (by decide) rfl rfl rfl [1, 2, 3, 4, 5, 6, 7, 8, 9, 10, 11, 12, 13, 14, 15, 16, 17, 18, 19, 20, 21, 24, 25, 26, 27, 28, 29, 30, 31, 32, 33, 34, 35, 36, 37, 38, 39, 40, 41, 42, 43, 44, 45, 46, 47, 48, 49, 50, 51, 52, 53, 54, 55, 56, 57, 58, 59, 60, 61, 62, 63, 64, 65, 66, 67, 68, 69, 70, 71, 72, 73, 74, 75, 76, 77] rfl rfl rfl (cov_of (by decide +kernel)) rfl rfl rfl rfl hl.1 rfl (Nat.le_of_ble_eq_true rfl) dL_law_328 ⟨Nat.le_of_ble_eq_true rfl, Nat.le_of_ble_eq_true rfl⟩ (fun H locs hP hD hS => ?_)
  refine lv_aload_n hx hb dL_law_331 rfl (lv_at hl 2 rfl) ?_
  refine lv_aload_n hx hb dL_law_332 rfl (lv_at hl 0 rfl) ?_
  refine lv_iload_n hx hb dL_law_333 rfl (lv_at hl 3 rfl) ?_
  refine lv_iconst (v := iI 1) hx hb dL_law_334 (by decide) ?_
  refine lv_iadd hx hb dL_law_335 ?_
  refine va_sld hx hb hX hbl hbA hS v1 dL_law_336 ?_
  rw [e1]
  refine lv_aload_n hx hb dL_law_337 rfl (lv_at hl 0 rfl) ?_
  refine lv_iload_n hx hb dL_law_338 rfl (lv_at hl 3 rfl) ?_
  refine lv_iconst (v := iI 2) hx hb dL_law_339 (by decide) ?_
  refine lv_iadd hx hb dL_law_340 ?_
  refine va_sld hx hb hX hbl hbA hS v2 dL_law_341 ?_
  rw [e2]
  refine lv_aload_n hx hb dL_law_342 rfl (lv_at hl 0 rfl) ?_
  refine lv_iload_n hx hb dL_law_343 rfl (lv_at hl 3 rfl) ?_
  refine lv_iconst (v := iI 3) hx hb dL_law_344 (by decide) ?_
  refine lv_iadd hx hb dL_law_345 ?_
  refine va_sld hx hb hX hbl hbA hS v3 dL_law_346 ?_
  rw [e3]
  refine lv_aload_n hx hb dL_law_347 rfl (lv_at hl 0 rfl) ?_
  refine lv_iload_n hx hb dL_law_348 rfl (lv_at hl 3 rfl) ?_
  refine lv_iconst (v := iI 4) hx hb dL_law_349 (by decide) ?_
  refine lv_iadd hx hb dL_law_350 ?_
  refine va_sld hx hb hX hbl hbA hS v4 dL_law_351 ?_
  rw [e4]
  refine lv_aload_n hx hb dL_law_352 rfl (lv_at hl 0 rfl) ?_
  refine lv_iload_n hx hb dL_law_353 rfl (lv_at hl 3 rfl) ?_
  refine lv_iconst (v := iI 5) hx hb dL_law_354 (by decide) ?_
  refine lv_iadd hx hb dL_law_355 ?_
  refine va_sld hx hb hX hbl hbA hS v5 dL_law_356 ?_
  rw [e5]
  refine kciV2 (N := 78) (l := l) (E := E) (wc := [oo (v 0) 10 (.int k0 :: .int (iI ss) :: .int (iI n) :: .ref (v 1) :: .ref (v 2) :: .ref (v 3) :: .ref (v 4) :: .ref (v 5) :: .int (iI rs) :: .int (iI ro) :: .int (iI g) :: .int (iI tr) :: .int (iI no) :: .ref (v 6) :: .ref (v 7) :: .ref (v 8) :: .ref (v 9) :: .int k1 :: .ref (v 10) :: .ref (v 11) :: .ref (v 12) :: .ref (v 13) :: .ref (v 14) :: .int (iI t) :: .int k2 :: .int k3 :: .int k4 :: .long k5 :: .int (iI ft) :: .int k6 :: .ref (v 15) :: .ref (v 16) :: .ref (v 17) :: .int (iI st) :: .ref (v 18) :: .int (iI cn) :: .ref (v 19) :: .ref (v 20) :: .ref (v 21) :: .ref (v 22) :: .ref (v 23) :: .ref (v 24) :: .ref (v 25) :: .int (iI pk) :: .int (iI nw) :: .ref (v 26) :: .int (iI ms) :: .ref (v 27) :: .ref (v 28) :: .ref (v 29) :: .ref (v 30) :: []), ar E (v 14) 400 (iF TB)]) (w1 := [oo (v 0) 10 (.int (iI 0) :: .int (iI ss) :: .int (iI n) :: .ref (v 1) :: .ref (v 2) :: .ref (v 3) :: .ref (v 4) :: .ref (v 5) :: .int (iI rs) :: .int (iI ro) :: .int (iI g) :: .int (iI tr) :: .int (iI no) :: .ref (v 6) :: .ref (v 7) :: .ref (v 8) :: .ref (v 9) :: .int k1 :: .ref (v 10) :: .ref (v 11) :: .ref (v 12) :: .ref (v 13) :: .ref (v 14) :: .int (iI t') :: .int k2 :: .int k3 :: .int k4 :: .long k5 :: .int (iI ft) :: .int k6 :: .ref (v 15) :: .ref (v 16) :: .ref (v 17) :: .int (iI st) :: .ref (v 18) :: .int (iI cn) :: .ref (v 19) :: .ref (v 20) :: .ref (v 21) :: .ref (v 22) :: .ref (v 23) :: .ref (v 24) :: .ref (v 25) :: .int (iI pk) :: .int (iI nw) :: .ref (v 26) :: .int (iI ms) :: .ref (v 27) :: .ref (v 28) :: .ref (v 29) :: .ref (v 30) :: []), ar E (v 14) 400 (iF TB')]) (w' := WX E a v (a 8) (a 15) (iI g) (iI ft) (iI ss) (iF A) (iF B) (iF M) (iF Ho) (iF Se) (iI n) (iI rs) (iI ro) (iF oL) (iF af) (iF hr) (iF wi) (iF BG) (iF DN) (iI no) (iF dL) (iF da) (iF dh) (iF dw) (iF db) (iF dd) j0 (iF TB') (iI t') j1 j2 j3 j4 j5 j6 (iF w1) (iF w2) (iF w3) (iF RR) (iI st) (iI tr) (iI tc) (iF CP) (iF CH) (iF cf) (iI cn) (iF PU) (iF hm) (iF sl) (iF wb) (iF qq) (iF hs) (iI tq) (iI hv) (iF TC) (iF SL) (iF SC) (iF SH) (iF SK) (iI nw) (iI ms) (iI 0) (iI ss) (iI n) (iF A) (iF B) (iF M) (iF Ho) (iF Se) (iI rs) (iI ro) (iI g) (iI tr) (iI no) (iF rL) (iF rA) (iF rH) (iF rW) k1 (iF NO) (iF bx) (iF dx) (iF wx) (iF TB') (iI t') k2 k3 k4 k5 (iI ft) k6 (iF E1) (iF E2) (iF RR) (iI st) (iF PU) (iI cn) (iF CP) (iF CH) (iF cm) (iF S) (iF Fl) (iF cb) (iF q2) (iI pk) (iI nw) (iF TC) (iI ms) (iF SL) (iF SC) (iF SH) (iF SK)) (ads := [(v 0), (v 14)]) (r := iI r) (As := [.int (iI p1), .int (iI p2), .int (iI p3), .int (iI p4), .int (iI p5)]) (rest := [.int (iI r)]) (kX10_feed l E (out := (iI r, iI 0, iI t', iF TB')) h10) ⟨hx, hb, hml, hown, hts⟩ (cwV 5 hts gL_law_X10_feed rfl rfl rfl (by decide +kernel) ⟨Nat.le_of_ble_eq_true rfl, Nat.le_of_ble_eq_true rfl⟩) hE hP hD hS hA [47, 61] (by decide) rfl rfl rfl [0, 1, 2, 3, 4, 5, 6, 7, 8, 9, 10, 11, 12, 13, 14, 15, 16, 17, 18, 19, 20, 21, 22, 23, 24, 25, 26, 27, 28, 29, 30, 31, 32, 33, 34, 35, 36, 37, 38, 39, 40, 41, 42, 43, 44, 45, 46, 48, 49, 50, 51, 52, 53, 54, 55, 56, 57, 58, 59, 60, 62, 63, 64, 65, 66, 67, 68, 69, 70, 71, 72, 73, 74, 75, 76, 77] rfl rfl rfl (cov_of (by decide +kernel)) rfl rfl rfl rfl hl.1 rfl (Nat.le_of_ble_eq_true rfl) dL_law_357 ⟨Nat.le_of_ble_eq_true rfl, Nat.le_of_ble_eq_true rfl⟩ (fun H locs hP hD hS => ?_)
  refine lv_icmp_eq (tgt := 908) hx hb dL_law_360 (by decide) (fun _ => ?_) (fun cy => absurd rfl cy)
  exact hn hP hD hS hl (⟨I1, I2, i1, i2, I5, I6, I7, I8, I9, I10, I11, I12, I13, I14⟩)
set_option maxHeartbeats 4000000 in
set_option maxRecDepth 100000 in
theorem case_end {p : Program} {l : Launch} {e : Env} {s : State} {m : MethodId} {below : List Frame} {meth : Method} {c : Code} {b L : Nat} {xs : Nat → Int32} {E : KE} {Q : State → Prop} (C : LC p s m c b L xs E) {i : Nat} (hi : i + 5 < L) (hn : NX p l e s m below meth c b E Q i 908) {g ft ss n rs ro no t st tr tc cn tq hv nw ms pk : Int} {A B M Ho Se oL af hr wi BG DN dL da dh dw db dd TB w1 w2 w3 RR CP CH cf PU hm sl wb qq hs TC SL SC SH SK rL rA rH rW NO bx dx wx E1 E2 cm S Fl cb q2 : Nat → Int} {j0 j1 j2 j3 j4 j5 j6 k0 k1 k2 k3 k4 k6 : Int32} {k5 : Int64} {a v : Nat → Nat} {H : Heap} {locs : List Loc} {ls : Array Slot} (hP : va_P (kD E) vwCl (WX E a v (a 8) (a 15) (iI g) (iI ft) (iI ss) (iF A) (iF B) (iF M) (iF Ho) (iF Se) (iI n) (iI rs) (iI ro) (iF oL) (iF af) (iF hr) (iF wi) (iF BG) (iF DN) (iI no) (iF dL) (iF da) (iF dh) (iF dw) (iF db) (iF dd) j0 (iF TB) (iI t) j1 j2 j3 j4 j5 j6 (iF w1) (iF w2) (iF w3) (iF RR) (iI st) (iI tr) (iI tc) (iF CP) (iF CH) (iF cf) (iI cn) (iF PU) (iF hm) (iF sl) (iF wb) (iF qq) (iF hs) (iI tq) (iI hv) (iF TC) (iF SL) (iF SC) (iF SH) (iF SK) (iI nw) (iI ms) k0 (iI ss) (iI n) (iF A) (iF B) (iF M) (iF Ho) (iF Se) (iI rs) (iI ro) (iI g) (iI tr) (iI no) (iF rL) (iF rA) (iF rH) (iF rW) k1 (iF NO) (iF bx) (iF dx) (iF wx) (iF TB) (iI t) k2 k3 k4 k5 (iI ft) k6 (iF E1) (iF E2) (iF RR) (iI st) (iF PU) (iI cn) (iF CP) (iF CH) (iF cm) (iF S) (iF Fl) (iF cb) (iF q2) (iI pk) (iI nw) (iF TC) (iI ms) (iF SL) (iF SC) (iF SH) (iF SK)) H) (hD : va_D (lA s) (WX E a v (a 8) (a 15) (iI g) (iI ft) (iI ss) (iF A) (iF B) (iF M) (iF Ho) (iF Se) (iI n) (iI rs) (iI ro) (iF oL) (iF af) (iF hr) (iF wi) (iF BG) (iF DN) (iI no) (iF dL) (iF da) (iF dh) (iF dw) (iF db) (iF dd) j0 (iF TB) (iI t) j1 j2 j3 j4 j5 j6 (iF w1) (iF w2) (iF w3) (iF RR) (iI st) (iI tr) (iI tc) (iF CP) (iF CH) (iF cf) (iI cn) (iF PU) (iF hm) (iF sl) (iF wb) (iF qq) (iF hs) (iI tq) (iI hv) (iF TC) (iF SL) (iF SC) (iF SH) (iF SK) (iI nw) (iI ms) k0 (iI ss) (iI n) (iF A) (iF B) (iF M) (iF Ho) (iF Se) (iI rs) (iI ro) (iI g) (iI tr) (iI no) (iF rL) (iF rA) (iF rH) (iF rW) k1 (iF NO) (iF bx) (iF dx) (iF wx) (iF TB) (iI t) k2 k3 k4 k5 (iI ft) k6 (iF E1) (iF E2) (iF RR) (iI st) (iF PU) (iI cn) (iF CP) (iF CH) (iF cm) (iF S) (iF Fl) (iF cb) (iF q2) (iI pk) (iI nw) (iF TC) (iI ms) (iF SL) (iF SC) (iF SH) (iF SK))) (hS : va_S (lA s) s.heap H locs) (hl : lv_has ls 4 [(0, .ref b), (1, .ref (a 0)), (2, .ref (v 0)), (3, .int (nI i))]) (hI : INV n rs ro g t no st tr cn hv pk nw ms A B M Ho Se oL af hr wi rL rA rH rW BG DN TB CP CH PU sl S SH SK SL) : W p l e room_1 s m #[Value.ref b] below meth c H locs 78 12028 Q (F0 m 365 ls []) := by
  obtain ⟨hx, hb, hml, hown, hts, hX, hbl, hE, hL⟩ := C
  have hA : ∀ q, s.heap.size ≤ q → lA s q := fun _ h => h
  have hbA : ¬ lA s b := Nat.not_le.mpr hbl
  obtain ⟨I1, I2, I3, I4, I5, I6, I7, I8, I9, I10, I11, I12, I13, I14⟩ := hI
  obtain ⟨p1, e1, r1⟩ := iI_x (xs (nI i + iI 1).toNatClampNeg)
  have v1 : vp_in (nI i + iI 1) L := vp_at 1 (by omega) hL
  obtain ⟨r, t', h9, h10, i1, i2⟩ := sim_end r1 I3
  refine lv_aload_n hx hb dL_law_365 rfl (lv_at hl 1 rfl) ?_
  refine lv_aload_n hx hb dL_law_366 rfl (lv_at hl 0 rfl) ?_
  refine lv_iload_n hx hb dL_law_367 rfl (lv_at hl 3 rfl) ?_
  refine lv_iconst (v := iI 1) hx hb dL_law_368 (by decide) ?_
  refine lv_iadd hx hb dL_law_369 ?_
  refine va_sld hx hb hX hbl hbA hS v1 dL_law_370 ?_
  rw [e1]
  refine kciV2 (N := 78) (l := l) (E := E) (wc := [oo (a 0) 9 [.ref (a 1), .ref (a 22), .ref (a 24), .ref (a 25), .ref (a 30), .ref (a 34), .ref (a 41), .int (iI g), .int (iI ft), .int (iI ss)], oo (a 22) 6 [.ref (a 23), .int (iI t), .int j1, .int j2]]) (w1 := [oo (a 0) 9 [.ref (a 1), .ref (a 22), .ref (a 24), .ref (a 25), .ref (a 30), .ref (a 34), .ref (a 41), .int (iI g), .int (iI ft), .int (iI ss)], oo (a 22) 6 [.ref (a 23), .int (iI t'), .int j1, .int j2]]) (w' := WX E a v (a 8) (a 15) (iI g) (iI ft) (iI ss) (iF A) (iF B) (iF M) (iF Ho) (iF Se) (iI n) (iI rs) (iI ro) (iF oL) (iF af) (iF hr) (iF wi) (iF BG) (iF DN) (iI no) (iF dL) (iF da) (iF dh) (iF dw) (iF db) (iF dd) j0 (iF TB) (iI t') j1 j2 j3 j4 j5 j6 (iF w1) (iF w2) (iF w3) (iF RR) (iI st) (iI tr) (iI tc) (iF CP) (iF CH) (iF cf) (iI cn) (iF PU) (iF hm) (iF sl) (iF wb) (iF qq) (iF hs) (iI tq) (iI hv) (iF TC) (iF SL) (iF SC) (iF SH) (iF SK) (iI nw) (iI ms) k0 (iI ss) (iI n) (iF A) (iF B) (iF M) (iF Ho) (iF Se) (iI rs) (iI ro) (iI g) (iI tr) (iI no) (iF rL) (iF rA) (iF rH) (iF rW) k1 (iF NO) (iF bx) (iF dx) (iF wx) (iF TB) (iI t) k2 k3 k4 k5 (iI ft) k6 (iF E1) (iF E2) (iF RR) (iI st) (iF PU) (iI cn) (iF CP) (iF CH) (iF cm) (iF S) (iF Fl) (iF cb) (iF q2) (iI pk) (iI nw) (iF TC) (iI ms) (iF SL) (iF SC) (iF SH) (iF SK)) (ads := [(a 0), (a 22)]) (r := iI r) (As := [.int (iI p1)]) (rest := []) (kX9_end l E (out := (iI r, iI t')) h9) ⟨hx, hb, hml, hown, hts⟩ (cwV 1 hts gL_law_X9_end rfl rfl rfl (by decide +kernel) ⟨Nat.le_of_ble_eq_true rfl, Nat.le_of_ble_eq_true rfl⟩) hE hP hD hS hA [0, 22] (by decide) rfl rfl rfl [1, 2, 3, 4, 5, 6, 7, 8, 9, 10, 11, 12, 13, 14, 15, 16, 17, 18, 19, 20, 21, 23, 24, 25, 26, 27, 28, 29, 30, 31, 32, 33, 34, 35, 36, 37, 38, 39, 40, 41, 42, 43, 44, 45, 46, 47, 48, 49, 50, 51, 52, 53, 54, 55, 56, 57, 58, 59, 60, 61, 62, 63, 64, 65, 66, 67, 68, 69, 70, 71, 72, 73, 74, 75, 76, 77] rfl rfl rfl (cov_of (by decide +kernel)) rfl rfl rfl rfl hl.1 rfl (Nat.le_of_ble_eq_true rfl) dL_law_371 ⟨Nat.le_of_ble_eq_true rfl, Nat.le_of_ble_eq_true rfl⟩ (fun H locs hP hD hS => ?_)
  refine lv_aload_n hx hb dL_law_374 rfl (lv_at hl 2 rfl) ?_
  refine lv_aload_n hx hb dL_law_375 rfl (lv_at hl 0 rfl) ?_
  refine lv_iload_n hx hb dL_law_376 rfl (lv_at hl 3 rfl) ?_
  refine lv_iconst (v := iI 1) hx hb dL_law_377 (by decide) ?_
  refine lv_iadd hx hb dL_law_378 ?_
  refine va_sld hx hb hX hbl hbA hS v1 dL_law_379 ?_
  rw [e1]
  refine kciV2 (N := 78) (l := l) (E := E) (wc := [oo (v 0) 10 (.int k0 :: .int (iI ss) :: .int (iI n) :: .ref (v 1) :: .ref (v 2) :: .ref (v 3) :: .ref (v 4) :: .ref (v 5) :: .int (iI rs) :: .int (iI ro) :: .int (iI g) :: .int (iI tr) :: .int (iI no) :: .ref (v 6) :: .ref (v 7) :: .ref (v 8) :: .ref (v 9) :: .int k1 :: .ref (v 10) :: .ref (v 11) :: .ref (v 12) :: .ref (v 13) :: .ref (v 14) :: .int (iI t) :: .int k2 :: .int k3 :: .int k4 :: .long k5 :: .int (iI ft) :: .int k6 :: .ref (v 15) :: .ref (v 16) :: .ref (v 17) :: .int (iI st) :: .ref (v 18) :: .int (iI cn) :: .ref (v 19) :: .ref (v 20) :: .ref (v 21) :: .ref (v 22) :: .ref (v 23) :: .ref (v 24) :: .ref (v 25) :: .int (iI pk) :: .int (iI nw) :: .ref (v 26) :: .int (iI ms) :: .ref (v 27) :: .ref (v 28) :: .ref (v 29) :: .ref (v 30) :: [])]) (w1 := [oo (v 0) 10 (.int (iI 0) :: .int (iI ss) :: .int (iI n) :: .ref (v 1) :: .ref (v 2) :: .ref (v 3) :: .ref (v 4) :: .ref (v 5) :: .int (iI rs) :: .int (iI ro) :: .int (iI g) :: .int (iI tr) :: .int (iI no) :: .ref (v 6) :: .ref (v 7) :: .ref (v 8) :: .ref (v 9) :: .int k1 :: .ref (v 10) :: .ref (v 11) :: .ref (v 12) :: .ref (v 13) :: .ref (v 14) :: .int (iI t') :: .int k2 :: .int k3 :: .int k4 :: .long k5 :: .int (iI ft) :: .int k6 :: .ref (v 15) :: .ref (v 16) :: .ref (v 17) :: .int (iI st) :: .ref (v 18) :: .int (iI cn) :: .ref (v 19) :: .ref (v 20) :: .ref (v 21) :: .ref (v 22) :: .ref (v 23) :: .ref (v 24) :: .ref (v 25) :: .int (iI pk) :: .int (iI nw) :: .ref (v 26) :: .int (iI ms) :: .ref (v 27) :: .ref (v 28) :: .ref (v 29) :: .ref (v 30) :: [])]) (w' := WX E a v (a 8) (a 15) (iI g) (iI ft) (iI ss) (iF A) (iF B) (iF M) (iF Ho) (iF Se) (iI n) (iI rs) (iI ro) (iF oL) (iF af) (iF hr) (iF wi) (iF BG) (iF DN) (iI no) (iF dL) (iF da) (iF dh) (iF dw) (iF db) (iF dd) j0 (iF TB) (iI t') j1 j2 j3 j4 j5 j6 (iF w1) (iF w2) (iF w3) (iF RR) (iI st) (iI tr) (iI tc) (iF CP) (iF CH) (iF cf) (iI cn) (iF PU) (iF hm) (iF sl) (iF wb) (iF qq) (iF hs) (iI tq) (iI hv) (iF TC) (iF SL) (iF SC) (iF SH) (iF SK) (iI nw) (iI ms) (iI 0) (iI ss) (iI n) (iF A) (iF B) (iF M) (iF Ho) (iF Se) (iI rs) (iI ro) (iI g) (iI tr) (iI no) (iF rL) (iF rA) (iF rH) (iF rW) k1 (iF NO) (iF bx) (iF dx) (iF wx) (iF TB) (iI t') k2 k3 k4 k5 (iI ft) k6 (iF E1) (iF E2) (iF RR) (iI st) (iF PU) (iI cn) (iF CP) (iF CH) (iF cm) (iF S) (iF Fl) (iF cb) (iF q2) (iI pk) (iI nw) (iF TC) (iI ms) (iF SL) (iF SC) (iF SH) (iF SK)) (ads := [(v 0)]) (r := iI r) (As := [.int (iI p1)]) (rest := [.int (iI r)]) (kX10_end l E (out := (iI r, iI 0, iI t')) h10) ⟨hx, hb, hml, hown, hts⟩ (cwV 1 hts gL_law_X10_end rfl rfl rfl (by decide +kernel) ⟨Nat.le_of_ble_eq_true rfl, Nat.le_of_ble_eq_true rfl⟩) hE hP hD hS hA [47] (by decide) rfl rfl rfl [0, 1, 2, 3, 4, 5, 6, 7, 8, 9, 10, 11, 12, 13, 14, 15, 16, 17, 18, 19, 20, 21, 22, 23, 24, 25, 26, 27, 28, 29, 30, 31, 32, 33, 34, 35, 36, 37, 38, 39, 40, 41, 42, 43, 44, 45, 46, 48, 49, 50, 51, 52, 53, 54, 55, 56, 57, 58, 59, 60, 61, 62, 63, 64, 65, 66, 67, 68, 69, 70, 71, 72, 73, 74, 75, 76, 77] rfl rfl rfl (cov_of (by decide +kernel)) rfl rfl rfl rfl hl.1 rfl (Nat.le_of_ble_eq_true rfl) dL_law_380 ⟨Nat.le_of_ble_eq_true rfl, Nat.le_of_ble_eq_true rfl⟩ (fun H locs hP hD hS => ?_)
  refine lv_icmp_eq (tgt := 908) hx hb dL_law_383 (by decide) (fun _ => ?_) (fun cy => absurd rfl cy)
  exact hn hP hD hS hl (⟨I1, I2, ⟨i1, i2⟩, I4, I5, I6, I7, I8, I9, I10, I11, I12, I13, I14⟩)
end Lb
