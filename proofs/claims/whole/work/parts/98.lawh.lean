/-! THE CLAIM OUT OF ONE WALK OF THE LAW'S BODY. Your part is whole_start (and what it stands on); all else here is the same for every law, but numbers. -/
def R_law : String := "GaugeWeekendLaw"
def lw_P (b : Addr) (xs : List Int32) (args : Array Value) (s : State) : Prop := args = #[.ref b] ∧ s.IntsAt b xs ∧ xs.length ≤ 3072 ∧ (Jvm.Cond.and given_1 narrow_1).before args s = true
def lw_Q (_ : Array Value) (s : State) (o : Outcome) (t : State) : Prop := o = .returned (some (.int 1)) ∧ Framed s o t [] 78 12028
def lw_Z (below : List Frame) (a : Array Value) (s : State) : State → Prop := fun t => ∃ o, t.status = .running ∧ Ended t below o ∧ lw_Q a s o t
/-- the law's own end, with 1 on the stack, nothing written that was there before, its room as the claim has it -/
theorem lw_ret {p : Program} {l : Launch} {e : Env} {s : State} {m : MethodId} {below : List Frame} {meth : Method} {c : Code} {b : Nat} (hx : p.tables.exec = Jvm.exec) (hb : c.code = code) (hr : meth.sig.returnType = ret) (hlocks : meth.locks = false) {pc : Nat} {H : Heap} {ls : Array Slot} (hdg : decode code pc = .ok (.ireturn, 1)) : W p l e room_1 s m #[Value.ref b] below meth c H [] 78 12028 (lw_Z below #[Value.ref b] s) (F0 m pc ls [.int 1]) := by
  intro T hT X
  obtain ⟨fs, hret, hrun, hended, hW, hframe⟩ := X.leave (v := some (.int 1)) (hlocks := hlocks) (fun h => by rw [hr] at h; cases h)
  have hmeth' : T.vm.method? m = some meth := X.method'
  refine ⟨T.setFrames fs, ?_, .returned (some (.int 1)), hrun, hended, rfl, ⟨_, rfl⟩, hW, hframe⟩
  jvm_step X.here [X.here.top, hx, hb, hdg, hmeth', hr, ret, narrow_b1]
  (try refine ⟨rfl, ?_⟩); (try refine ⟨rfl, ?_⟩)
  first | (intro acts; rw [hret _ acts rfl rfl rfl]) | rw [hret _ _ rfl rfl rfl]
  exact Steps.refl _
/-- what holds at the law's entry: the machine, the code, the tables' words (any of lw_tbl by 'hts w (by decide +kernel)'), the script of L ints xs at the cell b, what the Statement gives of the start (any of its parts by flat_of_before) -/
def lw_At (p : Program) (s : State) (m : MethodId) (meth : Method) (c : Code) (b L : Nat) (xs : Nat → Int32) : Prop :=
  p.tables.exec = Jvm.exec ∧ c.code = code ∧ meth.sig.returnType = ret ∧ c.maxLocals = 4 ∧ s.vm.findClass R_law = some m.cls ∧ (∀ w ∈ lw_tbl, w.before #[Value.ref b] s = true) ∧ va_X b L xs s s.heap ∧ b < s.heap.size ∧ meth.locks = false ∧ (Jvm.Cond.and given_1 narrow_1).before #[Value.ref b] s = true
theorem ktab23 {x : Int32} (h0 : ¬ x = iI 0) (h1 : ¬ x = iI 1) (h2 : ¬ x = iI 2) (h3 : ¬ x = iI 3) (h4 : ¬ x = iI 4) (h5 : ¬ x = iI 5) (h6 : ¬ x = iI 6) (h7 : ¬ x = iI 7) (h8 : ¬ x = iI 8) (h9 : ¬ x = iI 9) (h10 : ¬ x = iI 10) (h11 : ¬ x = iI 11) (h12 : ¬ x = iI 12) (h13 : ¬ x = iI 13) (h14 : ¬ x = iI 14) (h15 : ¬ x = iI 15) (h16 : ¬ x = iI 16) (h17 : ¬ x = iI 17) (h18 : ¬ x = iI 18) (h19 : ¬ x = iI 19) (h20 : ¬ x = iI 20) (h21 : ¬ x = iI 21) (h22 : ¬ x = iI 22) (h23 : ¬ x = iI 23) : x.toInt < 0 ∨ (23 : Int) < x.toInt := by
  have a0 : x.toInt ≠ 0 := fun h => h0 (kI_eq h)
  have a1 : x.toInt ≠ 1 := fun h => h1 (kI_eq h)
  have a2 : x.toInt ≠ 2 := fun h => h2 (kI_eq h)
  have a3 : x.toInt ≠ 3 := fun h => h3 (kI_eq h)
  have a4 : x.toInt ≠ 4 := fun h => h4 (kI_eq h)
  have a5 : x.toInt ≠ 5 := fun h => h5 (kI_eq h)
  have a6 : x.toInt ≠ 6 := fun h => h6 (kI_eq h)
  have a7 : x.toInt ≠ 7 := fun h => h7 (kI_eq h)
  have a8 : x.toInt ≠ 8 := fun h => h8 (kI_eq h)
  have a9 : x.toInt ≠ 9 := fun h => h9 (kI_eq h)
  have a10 : x.toInt ≠ 10 := fun h => h10 (kI_eq h)
  have a11 : x.toInt ≠ 11 := fun h => h11 (kI_eq h)
  have a12 : x.toInt ≠ 12 := fun h => h12 (kI_eq h)
  have a13 : x.toInt ≠ 13 := fun h => h13 (kI_eq h)
  have a14 : x.toInt ≠ 14 := fun h => h14 (kI_eq h)
  have a15 : x.toInt ≠ 15 := fun h => h15 (kI_eq h)
  have a16 : x.toInt ≠ 16 := fun h => h16 (kI_eq h)
  have a17 : x.toInt ≠ 17 := fun h => h17 (kI_eq h)
  have a18 : x.toInt ≠ 18 := fun h => h18 (kI_eq h)
  have a19 : x.toInt ≠ 19 := fun h => h19 (kI_eq h)
  have a20 : x.toInt ≠ 20 := fun h => h20 (kI_eq h)
  have a21 : x.toInt ≠ 21 := fun h => h21 (kI_eq h)
  have a22 : x.toInt ≠ 22 := fun h => h22 (kI_eq h)
  have a23 : x.toInt ≠ 23 := fun h => h23 (kI_eq h)
  omega
set_option maxHeartbeats 4000000 in
set_option maxRecDepth 100000 in
theorem law_step {p : Program} {l : Launch} {e : Env} {s : State} {m : MethodId} {below : List Frame} {meth : Method} {c : Code} {b L : Nat} {xs : Nat → Int32} {E : KE} (hrt : meth.sig.returnType = ret) (hlocks : meth.locks = false) (C : LC p s m c b L xs E) {i : Nat} (hiL : i ≤ L) (ih : i + 6 ≤ L → NX p l e s m below meth c b E (lw_Z below #[Value.ref b] s) (i + 6) 18) : NX p l e s m below meth c b E (lw_Z below #[Value.ref b] s) i 18 := by
  have C1 := C
  obtain ⟨hx, hb, hml, hown, hts, hX, hbl, hE, hL⟩ := C1
  have hbA : ¬ lA s b := Nat.not_le.mpr hbl
  intro g ft ss n rs ro no t st tr tc cn tq hv nw ms pk A B M Ho Se oL af hr wi BG DN dL da dh dw db dd TB w1 w2 w3 RR CP CH cf PU hm sl wb qq hs TC SL SC SH SK rL rA rH rW NO bx dx wx E1 E2 cm S Fl cb q2 j0 j1 j2 j3 j4 j5 j6 k0 k1 k2 k3 k4 k6 k5 a v H locs ls hP hD hS hl hI
  refine lv_iload_n hx hb dL_law_18 rfl (lv_at hl 3 rfl) ?_
  refine lv_aload_n hx hb dL_law_19 rfl (lv_at hl 0 rfl) ?_
  refine va_slen hx hb hX hbl hbA hS dL_law_20 ?_
  refine lv_bipush (v := iI 6) hx hb dL_law_21 (by decide) ?_
  refine lv_isub hx hb dL_law_23 ?_
  have en : nI i = iI (i : Int) := iI_n i
  refine lv_icmp_gt (tgt := 914) hx hb dL_law_24 (by decide) (fun c1 => ?_) (fun c1 => ?_)
  · refine lv_iconst (v := 1) hx hb dL_law_914 (by decide) ?_
    refine va_forget (fun q hq => hS.2.2 q hq) ?_
    exact lw_ret hx hb hrt hlocks dL_law_915
  · have h6 : i + 6 ≤ L := by
      rw [en, iI_n, iI_sub, iI_lt (by omega) (by omega) (by omega) (by omega)] at c1
      omega
    have hnx : NX p l e s m below meth c b E (lw_Z below #[Value.ref b] s) i 908 := by
      clear hP hD hS hl hI
      intro g ft ss n rs ro no t st tr tc cn tq hv nw ms pk A B M Ho Se oL af hr wi BG DN dL da dh dw db dd TB w1 w2 w3 RR CP CH cf PU hm sl wb qq hs TC SL SC SH SK rL rA rH rW NO bx dx wx E1 E2 cm S Fl cb q2 j0 j1 j2 j3 j4 j5 j6 k0 k1 k2 k3 k4 k6 k5 a v H locs ls hP hD hS hl hI
      refine lv_iinc (v := nI (i + 6)) (lv' := [(3, .int (nI (i + 6))), (0, .ref b), (1, .ref (a 0)), (2, .ref (v 0))]) hx hb dL_law_908 hl (k := 3) rfl (nI_add i 6) (by decide) rfl (fun ls hl => ?_)
      refine lv_goto (tgt := 18) hx hb dL_law_911 (by decide) ?_
      exact ih h6 hP hD hS (lv_sub hl [1, 2, 3, 0] rfl) hI
    have hi : i + 5 < L := by omega
    refine lv_aload_n hx hb dL_law_27 rfl (lv_at hl 0 rfl) ?_
    refine lv_iload_n hx hb dL_law_28 rfl (lv_at hl 3 rfl) ?_
    refine va_sld hx hb hX hbl hbA hS (vp_in_nI (show i < L by omega) (by omega)) dL_law_29 ?_
    refine lv_bipush (v := iI 31) hx hb dL_law_30 (by decide) ?_
    refine lv_iand hx hb dL_law_32 ?_
    generalize (xs (nI i).toNatClampNeg &&& iI 31) = x
    by_cases c_0 : x = iI 0
    · refine lv_tableIn (off := 111) (tgt := 144) hx hb dL_law_33 (by rw [c_0]; decide) (by rw [c_0]; decide) (by rw [c_0]; decide) (by decide) ?_
      exact case_line C hi hnx hP hD hS hl hI
    by_cases c_1 : x = iI 1
    · refine lv_tableIn (off := 190) (tgt := 223) hx hb dL_law_33 (by rw [c_1]; decide) (by rw [c_1]; decide) (by rw [c_1]; decide) (by decide) ?_
      exact case_rates C hi hnx hP hD hS hl hI
    by_cases c_2 : x = iI 2
    · refine lv_tableIn (off := 223) (tgt := 256) hx hb dL_law_33 (by rw [c_2]; decide) (by rw [c_2]; decide) (by rw [c_2]; decide) (by decide) ?_
      exact case_gangs C hi hnx hP hD hS hl hI
    by_cases c_3 : x = iI 3
    · refine lv_tableIn (off := 246) (tgt := 279) hx hb dL_law_33 (by rw [c_3]; decide) (by rw [c_3]; decide) (by rw [c_3]; decide) (by decide) ?_
      exact case_transfer C hi hnx hP hD hS hl hI
    by_cases c_4 : x = iI 4
    · refine lv_tableIn (off := 269) (tgt := 302) hx hb dL_law_33 (by rw [c_4]; decide) (by rw [c_4]; decide) (by rw [c_4]; decide) (by decide) ?_
      exact case_feed C hi hnx hP hD hS hl hI
    by_cases c_5 : x = iI 5
    · refine lv_tableIn (off := 332) (tgt := 365) hx hb dL_law_33 (by rw [c_5]; decide) (by rw [c_5]; decide) (by rw [c_5]; decide) (by decide) ?_
      exact case_end C hi hnx hP hD hS hl hI
    by_cases c_6 : x = iI 6
    · refine lv_tableIn (off := 355) (tgt := 388) hx hb dL_law_33 (by rw [c_6]; decide) (by rw [c_6]; decide) (by rw [c_6]; decide) (by decide) ?_
      exact case_orders C hi hnx hP hD hS hl hI
    by_cases c_7 : x = iI 7
    · refine lv_tableIn (off := 368) (tgt := 401) hx hb dL_law_33 (by rw [c_7]; decide) (by rw [c_7]; decide) (by rw [c_7]; decide) (by decide) ?_
      exact case_fault C hi hnx hP hD hS hl hI
    by_cases c_8 : x = iI 8
    · refine lv_tableIn (off := 381) (tgt := 414) hx hb dL_law_33 (by rw [c_8]; decide) (by rw [c_8]; decide) (by rw [c_8]; decide) (by decide) ?_
      exact case_of C hi hnx hP hD hS hl hI
    by_cases c_9 : x = iI 9
    · refine lv_tableIn (off := 414) (tgt := 447) hx hb dL_law_33 (by rw [c_9]; decide) (by rw [c_9]; decide) (by rw [c_9]; decide) (by decide) ?_
      exact case_is C hi hnx hP hD hS hl hI
    by_cases c_10 : x = iI 10
    · refine lv_tableIn (off := 447) (tgt := 480) hx hb dL_law_33 (by rw [c_10]; decide) (by rw [c_10]; decide) (by rw [c_10]; decide) (by decide) ?_
      exact case_busy C hi hnx hP hD hS hl hI
    by_cases c_11 : x = iI 11
    · refine lv_tableIn (off := 470) (tgt := 503) hx hb dL_law_33 (by rw [c_11]; decide) (by rw [c_11]; decide) (by rw [c_11]; decide) (by decide) ?_
      exact case_lack C hi hnx hP hD hS hl hI
    by_cases c_12 : x = iI 12
    · refine lv_tableIn (off := 483) (tgt := 516) hx hb dL_law_33 (by rw [c_12]; decide) (by rw [c_12]; decide) (by rw [c_12]; decide) (by decide) ?_
      exact case_way C hi hnx hP hD hS hl hI
    by_cases c_13 : x = iI 13
    · refine lv_tableIn (off := 552) (tgt := 585) hx hb dL_law_33 (by rw [c_13]; decide) (by rw [c_13]; decide) (by rw [c_13]; decide) (by decide) ?_
      exact case_step C hi hnx hP hD hS hl hI
    by_cases c_14 : x = iI 14
    · refine lv_tableIn (off := 575) (tgt := 608) hx hb dL_law_33 (by rw [c_14]; decide) (by rw [c_14]; decide) (by rw [c_14]; decide) (by decide) ?_
      exact case_shop C hi hnx hP hD hS hl hI
    by_cases c_15 : x = iI 15
    · refine lv_tableIn (off := 608) (tgt := 641) hx hb dL_law_33 (by rw [c_15]; decide) (by rw [c_15]; decide) (by rw [c_15]; decide) (by decide) ?_
      exact case_car C hi hnx hP hD hS hl hI
    by_cases c_16 : x = iI 16
    · refine lv_tableIn (off := 641) (tgt := 674) hx hb dL_law_33 (by rw [c_16]; decide) (by rw [c_16]; decide) (by rw [c_16]; decide) (by decide) ?_
      exact case_comes C hi hnx hP hD hS hl hI
    by_cases c_17 : x = iI 17
    · refine lv_tableIn (off := 674) (tgt := 707) hx hb dL_law_33 (by rw [c_17]; decide) (by rw [c_17]; decide) (by rw [c_17]; decide) (by decide) ?_
      exact case_pushed C hi hnx hP hD hS hl hI
    by_cases c_18 : x = iI 18
    · refine lv_tableIn (off := 697) (tgt := 730) hx hb dL_law_33 (by rw [c_18]; decide) (by rw [c_18]; decide) (by rw [c_18]; decide) (by decide) ?_
      exact case_has C hi hnx hP hD hS hl hI
    by_cases c_19 : x = iI 19
    · refine lv_tableIn (off := 720) (tgt := 753) hx hb dL_law_33 (by rw [c_19]; decide) (by rw [c_19]; decide) (by rw [c_19]; decide) (by decide) ?_
      exact case_wheel C hi hnx hP hD hS hl hI
    by_cases c_20 : x = iI 20
    · refine lv_tableIn (off := 743) (tgt := 776) hx hb dL_law_33 (by rw [c_20]; decide) (by rw [c_20]; decide) (by rw [c_20]; decide) (by decide) ?_
      exact case_see C hi hnx hP hD hS hl hI
    by_cases c_21 : x = iI 21
    · refine lv_tableIn (off := 796) (tgt := 829) hx hb dL_law_33 (by rw [c_21]; decide) (by rw [c_21]; decide) (by rw [c_21]; decide) (by decide) ?_
      exact case_under C hi hnx hP hD hS hl hI
    by_cases c_22 : x = iI 22
    · refine lv_tableIn (off := 839) (tgt := 872) hx hb dL_law_33 (by rw [c_22]; decide) (by rw [c_22]; decide) (by rw [c_22]; decide) (by decide) ?_
      exact case_count C hi hnx hP hD hS hl hI
    by_cases c_23 : x = iI 23
    · refine lv_tableIn (off := 862) (tgt := 895) hx hb dL_law_33 (by rw [c_23]; decide) (by rw [c_23]; decide) (by rw [c_23]; decide) (by decide) ?_
      exact case_status C hi hnx hP hD hS hl hI
    refine lv_tableOut (tgt := 908) hx hb dL_law_33 (ktab23 c_0 c_1 c_2 c_3 c_4 c_5 c_6 c_7 c_8 c_9 c_10 c_11 c_12 c_13 c_14 c_15 c_16 c_17 c_18 c_19 c_20 c_21 c_22 c_23) (by decide) ?_
    exact hnx hP hD hS hl hI
theorem law_loop {p : Program} {l : Launch} {e : Env} {s : State} {m : MethodId} {below : List Frame} {meth : Method} {c : Code} {b L : Nat} {xs : Nat → Int32} {E : KE} (hrt : meth.sig.returnType = ret) (hlocks : meth.locks = false) (C : LC p s m c b L xs E) : ∀ (k i : Nat), i ≤ L → L < i + k → NX p l e s m below meth c b E (lw_Z below #[Value.ref b] s) i 18 := by
  intro k
  induction k with
  | zero => intro i h1 h2; omega
  | succ k ih => intro i h1 h2; exact law_step hrt hlocks C h1 fun h6 => ih (i + 6) h6 (by omega)
