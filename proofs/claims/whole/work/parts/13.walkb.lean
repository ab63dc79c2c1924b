abbrev rmX1_setRates : Room := { frames := 1, cells := 0, slots := 0, locals := 22 }
set_option maxHeartbeats 4000000 in
set_option maxRecDepth 100000 in
theorem kX1_setRates (l : Launch) (E : KE) {a_t : Nat} {a_t_oneEnd : Nat} {a_t_otherEnd : Nat} {a_t_miles : Nat} {a_t_hours : Nat} {a_t_spikesSet : Nat} {p1 : Int32} {p2 : Int32} {t_many : Int32} {t_rateOfSet : Int32} {t_rateOfOthers : Int32} {out : Int32 × Int32 × Int32} (h : mX1_setRates p1 p2 t_rateOfSet t_rateOfOthers = some out) : KI l E yX1_setRates wsX1_setRates rmX1_setRates [.ref a_t, .int p1, .int p2] [oo a_t 1 [.ref a_t_oneEnd, .ref a_t_otherEnd, .ref a_t_miles, .ref a_t_hours, .ref a_t_spikesSet, .int t_many, .int t_rateOfSet, .int t_rateOfOthers]] [oo a_t 1 [.ref a_t_oneEnd, .ref a_t_otherEnd, .ref a_t_miles, .ref a_t_hours, .ref a_t_spikesSet, .int t_many, .int out.2.1, .int out.2.2]] out.1 := by
  refine kmetI (T := Int32 × Int32 × Int32) (out := out) (wf := (fun (o : Int32 × Int32 × Int32) => [oo a_t 1 [.ref a_t_oneEnd, .ref a_t_otherEnd, .ref a_t_miles, .ref a_t_hours, .ref a_t_spikesSet, .int t_many, .int o.2.1, .int o.2.2]])) (rf := (fun (o : Int32 × Int32 × Int32) => o.1)) (cc := cX1_setRates) (maxL := 3) (ty := .int) (by decide) rfl (Nat.le_of_ble_eq_true rfl) ?_
  intro p e s m args below meth c A Q ls hx hb hml hts hown hE hP hD hS hA hl hret
  have hown : s.vm.findClass RX1 = some m.cls := hown
  have hK := hE.1
  have hl : lv_has ls 3 [(0, .ref a_t), (1, .int p1), (2, .int p2)] := hl
  have hP : va_P (kD E) vwCl [oo a_t 1 [.ref a_t_oneEnd, .ref a_t_otherEnd, .ref a_t_miles, .ref a_t_hours, .ref a_t_spikesSet, .int t_many, .int t_rateOfSet, .int t_rateOfOthers]] s.heap := hP
  have hD : va_D A [oo a_t 1 [.ref a_t_oneEnd, .ref a_t_otherEnd, .ref a_t_miles, .ref a_t_hours, .ref a_t_spikesSet, .int t_many, .int t_rateOfSet, .int t_rateOfOthers]] := hD
  have w0 := hts (.initialized RX9) (by decide +kernel)
  have w1 := hts (.static yX9_isWithin) (by decide +kernel)
  have iX1 : ∀ w ∈ wsX10, w ∈ wsX1_setRates := by decide +kernel
  have w3 := hts (.fieldLink RX1 31 "GaugeWeekend$Lines" "rateOfSet" "I") (by decide +kernel)
  have w4 := hts (.fieldLink RX1 34 "GaugeWeekend$Lines" "rateOfOthers" "I") (by decide +kernel)
  rw [mX1_setRates] at h
  refine lv_iload_n hx hb dX1_setRates_0 rfl (lv_at hl 1 rfl) ?_
  refine lv_iconst (v := (iI 1)) hx hb dX1_setRates_1 (by decide) ?_
  refine lv_bipush (v := (iI 20)) hx hb dX1_setRates_2 (by decide) ?_
  refine kciN (l := l) (E := E) (wc := []) (w1 := []) (w' := [oo a_t 1 [.ref a_t_oneEnd, .ref a_t_otherEnd, .ref a_t_miles, .ref a_t_hours, .ref a_t_spikesSet, .int t_many, .int t_rateOfSet, .int t_rateOfOthers]]) (ads := []) (r := (mX9_isWithin p1 (iI 1) (iI 20))) (As := [.int p1, .int (iI 1), .int (iI 20)]) (rest := []) (kX9_isWithin l E rfl) ⟨hx, hb, hml, hown, hts⟩ ⟨va_cnB 3 hts gX1_setRates_X9_isWithin_n41 rfl rfl rfl (nwm_9 hE.2.1) w0 (by decide +kernel) ⟨by decide, by decide⟩, w1, trivial⟩ hE hP hD hS hA [] (by decide) rfl rfl rfl rfl  rfl hl.1 rfl (Nat.le_of_ble_eq_true rfl) dX1_setRates_4 ⟨Nat.zero_le _, Nat.zero_le _⟩ (fun H locs hP hD hS => ?_)
  refine lv_if_eq (tgt := 20) hx hb dX1_setRates_7 (by decide) (fun c_2 => ?_) (fun c_2 => ?_)
  · have h := (if_pos c_2).symm.trans h
    refine lv_iconst (v := (iI (-1))) hx hb dX1_setRates_20 (by decide) ?_
    exact hret _ _ ((iI (-1)), t_rateOfSet, t_rateOfOthers) _ _ _ (Option.some.inj h) rfl rfl hP hS dX1_setRates_21
  · have h := (if_neg c_2).symm.trans h
    refine lv_iload_n hx hb dX1_setRates_10 rfl (lv_at hl 2 rfl) ?_
    refine lv_iconst (v := (iI 1)) hx hb dX1_setRates_11 (by decide) ?_
    refine lv_bipush (v := (iI 20)) hx hb dX1_setRates_12 (by decide) ?_
    refine kciN (l := l) (E := E) (wc := []) (w1 := []) (w' := [oo a_t 1 [.ref a_t_oneEnd, .ref a_t_otherEnd, .ref a_t_miles, .ref a_t_hours, .ref a_t_spikesSet, .int t_many, .int t_rateOfSet, .int t_rateOfOthers]]) (ads := []) (r := (mX9_isWithin p2 (iI 1) (iI 20))) (As := [.int p2, .int (iI 1), .int (iI 20)]) (rest := []) (kX9_isWithin l E rfl) ⟨hx, hb, hml, hown, hts⟩ ⟨va_cnB 3 hts gX1_setRates_X9_isWithin_n41 rfl rfl rfl (nwm_9 hE.2.1) w0 (by decide +kernel) ⟨by decide, by decide⟩, w1, trivial⟩ hE hP hD hS hA [] (by decide) rfl rfl rfl rfl  rfl hl.1 rfl (Nat.le_of_ble_eq_true rfl) dX1_setRates_14 ⟨Nat.zero_le _, Nat.zero_le _⟩ (fun H locs hP hD hS => ?_)
    refine lv_if_ne (tgt := 22) hx hb dX1_setRates_17 (by decide) (fun c_4 => ?_) (fun c_4 => ?_)
    · have h := (if_neg c_4).symm.trans h
      refine lv_aload_n hx hb dX1_setRates_22 rfl (lv_at hl 0 rfl) ?_
      refine lv_iload_n hx hb dX1_setRates_23 rfl (lv_at hl 1 rfl) ?_
      refine kput (w' := [oo a_t 1 [.ref a_t_oneEnd, .ref a_t_otherEnd, .ref a_t_miles, .ref a_t_hours, .ref a_t_spikesSet, .int t_many, .int p1, .int t_rateOfOthers]]) (E := E) (ci := 1) (v := .int p1) (ty := .int) (C := RX1) (T := TX1) (N := 8) hx hb hts iX1 tyX1 tyX1_ok nmX1 hown hK hP hD hS 0 rfl rfl 6 (by decide) w3 (fun _ h9 => h9) rfl (tyX1_ok 6 (by decide)) rfl rfl (Nat.le_of_ble_eq_true rfl) rfl dX1_setRates_24 (fun H locs hP hD hS => ?_)
      refine lv_aload_n hx hb dX1_setRates_27 rfl (lv_at hl 0 rfl) ?_
      refine lv_iload_n hx hb dX1_setRates_28 rfl (lv_at hl 2 rfl) ?_
      refine kput (w' := [oo a_t 1 [.ref a_t_oneEnd, .ref a_t_otherEnd, .ref a_t_miles, .ref a_t_hours, .ref a_t_spikesSet, .int t_many, .int p1, .int p2]]) (E := E) (ci := 1) (v := .int p2) (ty := .int) (C := RX1) (T := TX1) (N := 8) hx hb hts iX1 tyX1 tyX1_ok nmX1 hown hK hP hD hS 0 rfl rfl 7 (by decide) w4 (fun _ h9 => h9) rfl (tyX1_ok 7 (by decide)) rfl rfl (Nat.le_of_ble_eq_true rfl) rfl dX1_setRates_29 (fun H locs hP hD hS => ?_)
      refine lv_iconst (v := (iI 0)) hx hb dX1_setRates_32 (by decide) ?_
      exact hret _ _ ((iI 0), p1, p2) _ _ _ (Option.some.inj h) rfl rfl hP hS dX1_setRates_33
    · have h := (if_pos c_4).symm.trans h
      refine lv_iconst (v := (iI (-1))) hx hb dX1_setRates_20 (by decide) ?_
      exact hret _ _ ((iI (-1)), t_rateOfSet, t_rateOfOthers) _ _ _ (Option.some.inj h) rfl rfl hP hS dX1_setRates_21
abbrev rmX1_isThere : Room := { frames := 0, cells := 0, slots := 0, locals := 0 }
set_option maxHeartbeats 4000000 in
set_option maxRecDepth 100000 in
theorem kX1_isThere (l : Launch) (E : KE) {a_t : Nat} {a_t_oneEnd : Nat} {a_t_otherEnd : Nat} {a_t_miles : Nat} {a_t_hours : Nat} {a_t_spikesSet : Nat} {p1 : Int32} {t_many : Int32} {t_rateOfSet : Int32} {t_rateOfOthers : Int32} {out : Int32} (h : mX1_isThere p1 t_many = out) : KI l E yX1_isThere wsX1_isThere rmX1_isThere [.ref a_t, .int p1] [oo a_t 1 [.ref a_t_oneEnd, .ref a_t_otherEnd, .ref a_t_miles, .ref a_t_hours, .ref a_t_spikesSet, .int t_many, .int t_rateOfSet, .int t_rateOfOthers]] [oo a_t 1 [.ref a_t_oneEnd, .ref a_t_otherEnd, .ref a_t_miles, .ref a_t_hours, .ref a_t_spikesSet, .int t_many, .int t_rateOfSet, .int t_rateOfOthers]] out := by
  refine kmetI (T := Int32) (out := out) (wf := (fun (o : Int32) => [oo a_t 1 [.ref a_t_oneEnd, .ref a_t_otherEnd, .ref a_t_miles, .ref a_t_hours, .ref a_t_spikesSet, .int t_many, .int t_rateOfSet, .int t_rateOfOthers]])) (rf := (fun (o : Int32) => o)) (cc := cX1_isThere) (maxL := 2) (ty := .boolean) (by decide) rfl (Nat.le_of_ble_eq_true rfl) ?_
  intro p e s m args below meth c A Q ls hx hb hml hts hown hE hP hD hS hA hl hret
  have hown : s.vm.findClass RX1 = some m.cls := hown
  have hK := hE.1
  have hl : lv_has ls 2 [(0, .ref a_t), (1, .int p1)] := hl
  have hP : va_P (kD E) vwCl [oo a_t 1 [.ref a_t_oneEnd, .ref a_t_otherEnd, .ref a_t_miles, .ref a_t_hours, .ref a_t_spikesSet, .int t_many, .int t_rateOfSet, .int t_rateOfOthers]] s.heap := hP
  have hD : va_D A [oo a_t 1 [.ref a_t_oneEnd, .ref a_t_otherEnd, .ref a_t_miles, .ref a_t_hours, .ref a_t_spikesSet, .int t_many, .int t_rateOfSet, .int t_rateOfOthers]] := hD
  have iX1 : ∀ w ∈ wsX10, w ∈ wsX1_isThere := by decide +kernel
  have w1 := hts (.fieldLink RX1 27 "GaugeWeekend$Lines" "many" "I") (by decide +kernel)
  rw [mX1_isThere] at h
  refine lv_iload_n hx hb dX1_isThere_0 rfl (lv_at hl 1 rfl) ?_
  refine lv_if_lt (tgt := 16) hx hb dX1_isThere_1 (by decide) (fun c_1 => ?_) (fun c_1 => ?_)
  · have h := (if_pos c_1).symm.trans h
    refine lv_iconst (v := (iI 0)) hx hb dX1_isThere_16 (by decide) ?_
    exact hret _ _ (iI 0) _ _ _ h rfl rfl hP hS dX1_isThere_17
  · have h := (if_neg c_1).symm.trans h
    refine lv_iload_n hx hb dX1_isThere_4 rfl (lv_at hl 1 rfl) ?_
    refine lv_aload_n hx hb dX1_isThere_5 rfl (lv_at hl 0 rfl) ?_
    refine va_get (D := kD E) (cl := vwCl) (tys := kT E) (ci := 1) (v := .int t_many) (C := RX1) (T := TX1) (N := 8) hx hb hts iX1 hown hK hP 0 rfl rfl 5 (by decide) w1 (fun _ h9 => h9) rfl dX1_isThere_6 ?_
    refine lv_icmp_ge (tgt := 16) hx hb dX1_isThere_9 (by decide) (fun c_2 => ?_) (fun c_2 => ?_)
    · have h := (if_pos c_2).symm.trans h
      refine lv_iconst (v := (iI 0)) hx hb dX1_isThere_16 (by decide) ?_
      exact hret _ _ (iI 0) _ _ _ h rfl rfl hP hS dX1_isThere_17
    · have h := (if_neg c_2).symm.trans h
      refine lv_iconst (v := (iI 1)) hx hb dX1_isThere_12 (by decide) ?_
      refine lv_goto (tgt := 17) hx hb dX1_isThere_13 (by decide) ?_
      exact hret _ _ (iI 1) _ _ _ h rfl rfl hP hS dX1_isThere_17
abbrev rmX1_farEnd : Room := { frames := 1, cells := 0, slots := 0, locals := 21 }
set_option maxHeartbeats 4000000 in
set_option maxRecDepth 100000 in
theorem kX1_farEnd (l : Launch) (E : KE) {a_t : Nat} {a_t_oneEnd : Nat} {a_t_otherEnd : Nat} {a_t_miles : Nat} {a_t_hours : Nat} {a_t_spikesSet : Nat} {p1 : Int32} {p2 : Int32} {t_many : Int32} {t_rateOfSet : Int32} {t_rateOfOthers : Int32} {t_oneEnd : Nat → Int32} {t_otherEnd : Nat → Int32} {out : Int32} (h : mX1_farEnd p1 p2 t_oneEnd t_otherEnd = out) : KI l E yX1_farEnd wsX1_farEnd rmX1_farEnd [.ref a_t, .int p1, .int p2] [oo a_t 1 [.ref a_t_oneEnd, .ref a_t_otherEnd, .ref a_t_miles, .ref a_t_hours, .ref a_t_spikesSet, .int t_many, .int t_rateOfSet, .int t_rateOfOthers], ar E a_t_oneEnd 30 t_oneEnd, ar E a_t_otherEnd 30 t_otherEnd] [oo a_t 1 [.ref a_t_oneEnd, .ref a_t_otherEnd, .ref a_t_miles, .ref a_t_hours, .ref a_t_spikesSet, .int t_many, .int t_rateOfSet, .int t_rateOfOthers], ar E a_t_oneEnd 30 t_oneEnd, ar E a_t_otherEnd 30 t_otherEnd] out := by
  refine kmetI (T := Int32) (out := out) (wf := (fun (o : Int32) => [oo a_t 1 [.ref a_t_oneEnd, .ref a_t_otherEnd, .ref a_t_miles, .ref a_t_hours, .ref a_t_spikesSet, .int t_many, .int t_rateOfSet, .int t_rateOfOthers], ar E a_t_oneEnd 30 t_oneEnd, ar E a_t_otherEnd 30 t_otherEnd])) (rf := (fun (o : Int32) => o)) (cc := cX1_farEnd) (maxL := 3) (ty := .int) (by decide) rfl (Nat.le_of_ble_eq_true rfl) ?_
  intro p e s m args below meth c A Q ls hx hb hml hts hown hE hP hD hS hA hl hret
  have hown : s.vm.findClass RX1 = some m.cls := hown
  have hK := hE.1
  have hl : lv_has ls 3 [(0, .ref a_t), (1, .int p1), (2, .int p2)] := hl
  have hP : va_P (kD E) vwCl [oo a_t 1 [.ref a_t_oneEnd, .ref a_t_otherEnd, .ref a_t_miles, .ref a_t_hours, .ref a_t_spikesSet, .int t_many, .int t_rateOfSet, .int t_rateOfOthers], ar E a_t_oneEnd 30 t_oneEnd, ar E a_t_otherEnd 30 t_otherEnd] s.heap := hP
  have hD : va_D A [oo a_t 1 [.ref a_t_oneEnd, .ref a_t_otherEnd, .ref a_t_miles, .ref a_t_hours, .ref a_t_spikesSet, .int t_many, .int t_rateOfSet, .int t_rateOfOthers], ar E a_t_oneEnd 30 t_oneEnd, ar E a_t_otherEnd 30 t_otherEnd] := hD
  have iX1 : ∀ w ∈ wsX10, w ∈ wsX1_farEnd := by decide +kernel
  have w1 := hts (.fieldLink RX1 9 "GaugeWeekend$Lines" "oneEnd" "[I") (by decide +kernel)
  have w2 := hts (.initialized RX9) (by decide +kernel)
  have w3 := hts (.static yX9_at) (by decide +kernel)
  have w4 := hts (.fieldLink RX1 15 "GaugeWeekend$Lines" "otherEnd" "[I") (by decide +kernel)
  rw [mX1_farEnd] at h
  refine lv_aload_n hx hb dX1_farEnd_0 rfl (lv_at hl 0 rfl) ?_
  refine va_get (D := kD E) (cl := vwCl) (tys := kT E) (ci := 1) (v := .ref a_t_oneEnd) (C := RX1) (T := TX1) (N := 8) hx hb hts iX1 hown hK hP 0 rfl rfl 0 (by decide) w1 (fun _ h9 => h9) rfl dX1_farEnd_1 ?_
  refine lv_iload_n hx hb dX1_farEnd_4 rfl (lv_at hl 1 rfl) ?_
  refine kciN (l := l) (E := E) (wc := [ar E a_t_oneEnd 30 t_oneEnd]) (w1 := [ar E a_t_oneEnd 30 t_oneEnd]) (w' := [oo a_t 1 [.ref a_t_oneEnd, .ref a_t_otherEnd, .ref a_t_miles, .ref a_t_hours, .ref a_t_spikesSet, .int t_many, .int t_rateOfSet, .int t_rateOfOthers], ar E a_t_oneEnd 30 t_oneEnd, ar E a_t_otherEnd 30 t_otherEnd]) (ads := [a_t_oneEnd]) (r := (mX9_at 30 p1 t_oneEnd)) (As := [.ref a_t_oneEnd, .int p1]) (rest := []) (kX9_at l E (hn_q0 := (Nat.le_of_ble_eq_true rfl)) rfl) ⟨hx, hb, hml, hown, hts⟩ ⟨va_cnB 2 hts gX1_farEnd_X9_at_n49 rfl rfl rfl (nwm_13 hE.2.1) w2 (by decide +kernel) ⟨by decide, by decide⟩, w3, trivial⟩ hE hP hD hS hA [1] (by decide) rfl rfl rfl rfl  rfl hl.1 rfl (Nat.le_of_ble_eq_true rfl) dX1_farEnd_5 ⟨Nat.zero_le _, Nat.zero_le _⟩ (fun H locs hP hD hS => ?_)
  refine lv_iload_n hx hb dX1_farEnd_8 rfl (lv_at hl 2 rfl) ?_
  refine lv_icmp_ne (tgt := 21) hx hb dX1_farEnd_9 (by decide) (fun c_2 => ?_) (fun c_2 => ?_)
  · have h := (if_neg c_2).symm.trans h
    refine lv_aload_n hx hb dX1_farEnd_21 rfl (lv_at hl 0 rfl) ?_
    refine va_get (D := kD E) (cl := vwCl) (tys := kT E) (ci := 1) (v := .ref a_t_otherEnd) (C := RX1) (T := TX1) (N := 8) hx hb hts iX1 hown hK hP 0 rfl rfl 1 (by decide) w4 (fun _ h9 => h9) rfl dX1_farEnd_22 ?_
    refine lv_iload_n hx hb dX1_farEnd_25 rfl (lv_at hl 1 rfl) ?_
    refine kciN (l := l) (E := E) (wc := [ar E a_t_otherEnd 30 t_otherEnd]) (w1 := [ar E a_t_otherEnd 30 t_otherEnd]) (w' := [oo a_t 1 [.ref a_t_oneEnd, .ref a_t_otherEnd, .ref a_t_miles, .ref a_t_hours, .ref a_t_spikesSet, .int t_many, .int t_rateOfSet, .int t_rateOfOthers], ar E a_t_oneEnd 30 t_oneEnd, ar E a_t_otherEnd 30 t_otherEnd]) (ads := [a_t_otherEnd]) (r := (mX9_at 30 p1 t_otherEnd)) (As := [.ref a_t_otherEnd, .int p1]) (rest := []) (kX9_at l E (hn_q0 := (Nat.le_of_ble_eq_true rfl)) rfl) ⟨hx, hb, hml, hown, hts⟩ ⟨va_cnB 2 hts gX1_farEnd_X9_at_n49 rfl rfl rfl (nwm_13 hE.2.1) w2 (by decide +kernel) ⟨by decide, by decide⟩, w3, trivial⟩ hE hP hD hS hA [2] (by decide) rfl rfl rfl rfl  rfl hl.1 rfl (Nat.le_of_ble_eq_true rfl) dX1_farEnd_26 ⟨Nat.zero_le _, Nat.zero_le _⟩ (fun H locs hP hD hS => ?_)
    refine lv_iload_n hx hb dX1_farEnd_29 rfl (lv_at hl 2 rfl) ?_
    refine lv_icmp_ne (tgt := 44) hx hb dX1_farEnd_30 (by decide) (fun c_4 => ?_) (fun c_4 => ?_)
    · have h := (if_neg c_4).symm.trans h
      refine lv_iconst (v := (iI (-1))) hx hb dX1_farEnd_44 (by decide) ?_
      exact hret _ _ (iI (-1)) _ _ _ h rfl rfl hP hS dX1_farEnd_45
    · have h := (if_pos c_4).symm.trans h
      refine lv_aload_n hx hb dX1_farEnd_33 rfl (lv_at hl 0 rfl) ?_
      refine va_get (D := kD E) (cl := vwCl) (tys := kT E) (ci := 1) (v := .ref a_t_oneEnd) (C := RX1) (T := TX1) (N := 8) hx hb hts iX1 hown hK hP 0 rfl rfl 0 (by decide) w1 (fun _ h9 => h9) rfl dX1_farEnd_34 ?_
      refine lv_iload_n hx hb dX1_farEnd_37 rfl (lv_at hl 1 rfl) ?_
      refine kciN (l := l) (E := E) (wc := [ar E a_t_oneEnd 30 t_oneEnd]) (w1 := [ar E a_t_oneEnd 30 t_oneEnd]) (w' := [oo a_t 1 [.ref a_t_oneEnd, .ref a_t_otherEnd, .ref a_t_miles, .ref a_t_hours, .ref a_t_spikesSet, .int t_many, .int t_rateOfSet, .int t_rateOfOthers], ar E a_t_oneEnd 30 t_oneEnd, ar E a_t_otherEnd 30 t_otherEnd]) (ads := [a_t_oneEnd]) (r := (mX9_at 30 p1 t_oneEnd)) (As := [.ref a_t_oneEnd, .int p1]) (rest := []) (kX9_at l E (hn_q0 := (Nat.le_of_ble_eq_true rfl)) rfl) ⟨hx, hb, hml, hown, hts⟩ ⟨va_cnB 2 hts gX1_farEnd_X9_at_n49 rfl rfl rfl (nwm_13 hE.2.1) w2 (by decide +kernel) ⟨by decide, by decide⟩, w3, trivial⟩ hE hP hD hS hA [1] (by decide) rfl rfl rfl rfl  rfl hl.1 rfl (Nat.le_of_ble_eq_true rfl) dX1_farEnd_38 ⟨Nat.zero_le _, Nat.zero_le _⟩ (fun H locs hP hD hS => ?_)
      refine lv_goto (tgt := 45) hx hb dX1_farEnd_41 (by decide) ?_
      exact hret _ _ (mX9_at 30 p1 t_oneEnd) _ _ _ h rfl rfl hP hS dX1_farEnd_45
  · have h := (if_pos c_2).symm.trans h
    refine lv_aload_n hx hb dX1_farEnd_12 rfl (lv_at hl 0 rfl) ?_
    refine va_get (D := kD E) (cl := vwCl) (tys := kT E) (ci := 1) (v := .ref a_t_otherEnd) (C := RX1) (T := TX1) (N := 8) hx hb hts iX1 hown hK hP 0 rfl rfl 1 (by decide) w4 (fun _ h9 => h9) rfl dX1_farEnd_13 ?_
    refine lv_iload_n hx hb dX1_farEnd_16 rfl (lv_at hl 1 rfl) ?_
    refine kciN (l := l) (E := E) (wc := [ar E a_t_otherEnd 30 t_otherEnd]) (w1 := [ar E a_t_otherEnd 30 t_otherEnd]) (w' := [oo a_t 1 [.ref a_t_oneEnd, .ref a_t_otherEnd, .ref a_t_miles, .ref a_t_hours, .ref a_t_spikesSet, .int t_many, .int t_rateOfSet, .int t_rateOfOthers], ar E a_t_oneEnd 30 t_oneEnd, ar E a_t_otherEnd 30 t_otherEnd]) (ads := [a_t_otherEnd]) (r := (mX9_at 30 p1 t_otherEnd)) (As := [.ref a_t_otherEnd, .int p1]) (rest := []) (kX9_at l E (hn_q0 := (Nat.le_of_ble_eq_true rfl)) rfl) ⟨hx, hb, hml, hown, hts⟩ ⟨va_cnB 2 hts gX1_farEnd_X9_at_n49 rfl rfl rfl (nwm_13 hE.2.1) w2 (by decide +kernel) ⟨by decide, by decide⟩, w3, trivial⟩ hE hP hD hS hA [2] (by decide) rfl rfl rfl rfl  rfl hl.1 rfl (Nat.le_of_ble_eq_true rfl) dX1_farEnd_17 ⟨Nat.zero_le _, Nat.zero_le _⟩ (fun H locs hP hD hS => ?_)
    exact hret _ _ (mX9_at 30 p1 t_otherEnd) _ _ _ h rfl rfl hP hS dX1_farEnd_20
abbrev rmX1_hoursToChange : Room := { frames := 1, cells := 0, slots := 0, locals := 21 }
set_option maxHeartbeats 4000000 in
set_option maxRecDepth 100000 in
theorem kX1_hoursToChange (l : Launch) (E : KE) {a_t : Nat} {a_t_oneEnd : Nat} {a_t_otherEnd : Nat} {a_t_miles : Nat} {a_t_hours : Nat} {a_t_spikesSet : Nat} {p1 : Int32} {p2 : Int32} {t_many : Int32} {t_rateOfSet : Int32} {t_rateOfOthers : Int32} {t_miles : Nat → Int32} {t_spikesSet : Nat → Int32} {out : Int32} (h : mX1_hoursToChange p1 p2 t_rateOfSet t_rateOfOthers t_miles t_spikesSet = some out) : KI l E yX1_hoursToChange wsX1_hoursToChange rmX1_hoursToChange [.ref a_t, .int p1, .int p2] [oo a_t 1 [.ref a_t_oneEnd, .ref a_t_otherEnd, .ref a_t_miles, .ref a_t_hours, .ref a_t_spikesSet, .int t_many, .int t_rateOfSet, .int t_rateOfOthers], ar E a_t_miles 30 t_miles, ar E a_t_spikesSet 30 t_spikesSet] [oo a_t 1 [.ref a_t_oneEnd, .ref a_t_otherEnd, .ref a_t_miles, .ref a_t_hours, .ref a_t_spikesSet, .int t_many, .int t_rateOfSet, .int t_rateOfOthers], ar E a_t_miles 30 t_miles, ar E a_t_spikesSet 30 t_spikesSet] out := by
  refine kmetI (T := Int32) (out := out) (wf := (fun (o : Int32) => [oo a_t 1 [.ref a_t_oneEnd, .ref a_t_otherEnd, .ref a_t_miles, .ref a_t_hours, .ref a_t_spikesSet, .int t_many, .int t_rateOfSet, .int t_rateOfOthers], ar E a_t_miles 30 t_miles, ar E a_t_spikesSet 30 t_spikesSet])) (rf := (fun (o : Int32) => o)) (cc := cX1_hoursToChange) (maxL := 4) (ty := .int) (by decide) rfl (Nat.le_of_ble_eq_true rfl) ?_
  intro p e s m args below meth c A Q ls hx hb hml hts hown hE hP hD hS hA hl hret
  have hown : s.vm.findClass RX1 = some m.cls := hown
  have hK := hE.1
  have hl : lv_has ls 4 [(0, .ref a_t), (1, .int p1), (2, .int p2)] := hl
  have hP : va_P (kD E) vwCl [oo a_t 1 [.ref a_t_oneEnd, .ref a_t_otherEnd, .ref a_t_miles, .ref a_t_hours, .ref a_t_spikesSet, .int t_many, .int t_rateOfSet, .int t_rateOfOthers], ar E a_t_miles 30 t_miles, ar E a_t_spikesSet 30 t_spikesSet] s.heap := hP
  have hD : va_D A [oo a_t 1 [.ref a_t_oneEnd, .ref a_t_otherEnd, .ref a_t_miles, .ref a_t_hours, .ref a_t_spikesSet, .int t_many, .int t_rateOfSet, .int t_rateOfOthers], ar E a_t_miles 30 t_miles, ar E a_t_spikesSet 30 t_spikesSet] := hD
  have iX1 : ∀ w ∈ wsX10, w ∈ wsX1_hoursToChange := by decide +kernel
  have w1 := hts (.fieldLink RX1 24 "GaugeWeekend$Lines" "spikesSet" "[I") (by decide +kernel)
  have w2 := hts (.initialized RX9) (by decide +kernel)
  have w3 := hts (.static yX9_at) (by decide +kernel)
  have w4 := hts (.fieldLink RX1 34 "GaugeWeekend$Lines" "rateOfOthers" "I") (by decide +kernel)
  have w5 := hts (.fieldLink RX1 18 "GaugeWeekend$Lines" "miles" "[I") (by decide +kernel)
  have w6 := hts (.fieldLink RX1 31 "GaugeWeekend$Lines" "rateOfSet" "I") (by decide +kernel)
  have J24 : ∀ (s0 : Int32) (s1 : Int32) (H : Heap) (locs : List Loc) (ls : Array Slot) (h : mX1_hoursToChange_J24 p1 t_miles s0 s1 = some out) (hP : va_P (kD E) vwCl [oo a_t 1 [.ref a_t_oneEnd, .ref a_t_otherEnd, .ref a_t_miles, .ref a_t_hours, .ref a_t_spikesSet, .int t_many, .int t_rateOfSet, .int t_rateOfOthers], ar E a_t_miles 30 t_miles, ar E a_t_spikesSet 30 t_spikesSet] H) (hD : va_D A [oo a_t 1 [.ref a_t_oneEnd, .ref a_t_otherEnd, .ref a_t_miles, .ref a_t_hours, .ref a_t_spikesSet, .int t_many, .int t_rateOfSet, .int t_rateOfOthers], ar E a_t_miles 30 t_miles, ar E a_t_spikesSet 30 t_spikesSet]) (hS : va_S A s.heap H locs) (hl : lv_has ls 4 [(0, .ref a_t), (1, .int p1)]), W p l e rmX1_hoursToChange s m args below meth c H locs 0 0 Q (F0 m 24 ls [.int s1, .int s0]) := by
    intro s0 s1 H locs ls h hP hD hS hl
    rw [mX1_hoursToChange_J24] at h
    refine lv_imul hx hb dX1_hoursToChange_24 ?_
    refine lv_istore_n (lv' := [(3, .int (s0 * s1)), (0, .ref a_t), (1, .int p1)]) hx hb dX1_hoursToChange_25 rfl hl (by decide) rfl (fun ls hl => ?_)
    refine lv_iload_n hx hb dX1_hoursToChange_26 rfl (lv_at hl 0 rfl) ?_
    refine lv_iconst (v := (iI 1)) hx hb dX1_hoursToChange_27 (by decide) ?_
    refine lv_icmp_ge (tgt := 33) hx hb dX1_hoursToChange_28 (by decide) (fun c_3 => ?_) (fun c_3 => ?_)
    · have h := (if_pos c_3).symm.trans h
      refine lv_aload_n hx hb dX1_hoursToChange_33 rfl (lv_at hl 1 rfl) ?_
      refine va_get (D := kD E) (cl := vwCl) (tys := kT E) (ci := 1) (v := .ref a_t_miles) (C := RX1) (T := TX1) (N := 8) hx hb hts iX1 hown hK hP 0 rfl rfl 2 (by decide) w5 (fun _ h9 => h9) rfl dX1_hoursToChange_34 ?_
      refine lv_iload_n hx hb dX1_hoursToChange_37 rfl (lv_at hl 2 rfl) ?_
      refine kciN (l := l) (E := E) (wc := [ar E a_t_miles 30 t_miles]) (w1 := [ar E a_t_miles 30 t_miles]) (w' := [oo a_t 1 [.ref a_t_oneEnd, .ref a_t_otherEnd, .ref a_t_miles, .ref a_t_hours, .ref a_t_spikesSet, .int t_many, .int t_rateOfSet, .int t_rateOfOthers], ar E a_t_miles 30 t_miles, ar E a_t_spikesSet 30 t_spikesSet]) (ads := [a_t_miles]) (r := (mX9_at 30 p1 t_miles)) (As := [.ref a_t_miles, .int p1]) (rest := []) (kX9_at l E (hn_q0 := (Nat.le_of_ble_eq_true rfl)) rfl) ⟨hx, hb, hml, hown, hts⟩ ⟨va_cnB 2 hts gX1_hoursToChange_X9_at_n49 rfl rfl rfl (nwm_13 hE.2.1) w2 (by decide +kernel) ⟨by decide, by decide⟩, w3, trivial⟩ hE hP hD hS hA [1] (by decide) rfl rfl rfl rfl  rfl hl.1 rfl (Nat.le_of_ble_eq_true rfl) dX1_hoursToChange_38 ⟨Nat.zero_le _, Nat.zero_le _⟩ (fun H locs hP hD hS => ?_)
      refine lv_iload_n hx hb dX1_hoursToChange_41 rfl (lv_at hl 0 rfl) ?_
      refine lv_iadd hx hb dX1_hoursToChange_42 ?_
      refine lv_iconst (v := (iI 1)) hx hb dX1_hoursToChange_43 (by decide) ?_
      refine lv_isub hx hb dX1_hoursToChange_44 ?_
      refine lv_iload_n hx hb dX1_hoursToChange_45 rfl (lv_at hl 0 rfl) ?_
      by_cases c_5 : (s0 * s1) = 0
      · exact (knone ((if_pos c_5).symm.trans h)).elim
      have h := (if_neg c_5).symm.trans h
      refine lv_idiv hx hb dX1_hoursToChange_46 c_5 ?_
      exact hret _ _ ((((mX9_at 30 p1 t_miles) + (s0 * s1)) - (iI 1)) / (s0 * s1)) _ _ _ (Option.some.inj h) rfl rfl hP hS dX1_hoursToChange_47
    · have h := (if_neg c_3).symm.trans h
      refine lv_iconst (v := (iI 0)) hx hb dX1_hoursToChange_31 (by decide) ?_
      exact hret _ _ (iI 0) _ _ _ (Option.some.inj h) rfl rfl hP hS dX1_hoursToChange_32
  rw [mX1_hoursToChange] at h
  refine lv_iload_n hx hb dX1_hoursToChange_0 rfl (lv_at hl 2 rfl) ?_
  refine lv_aload_n hx hb dX1_hoursToChange_1 rfl (lv_at hl 0 rfl) ?_
  refine va_get (D := kD E) (cl := vwCl) (tys := kT E) (ci := 1) (v := .ref a_t_spikesSet) (C := RX1) (T := TX1) (N := 8) hx hb hts iX1 hown hK hP 0 rfl rfl 4 (by decide) w1 (fun _ h9 => h9) rfl dX1_hoursToChange_2 ?_
  refine lv_iload_n hx hb dX1_hoursToChange_5 rfl (lv_at hl 1 rfl) ?_
  refine kciN (l := l) (E := E) (wc := [ar E a_t_spikesSet 30 t_spikesSet]) (w1 := [ar E a_t_spikesSet 30 t_spikesSet]) (w' := [oo a_t 1 [.ref a_t_oneEnd, .ref a_t_otherEnd, .ref a_t_miles, .ref a_t_hours, .ref a_t_spikesSet, .int t_many, .int t_rateOfSet, .int t_rateOfOthers], ar E a_t_miles 30 t_miles, ar E a_t_spikesSet 30 t_spikesSet]) (ads := [a_t_spikesSet]) (r := (mX9_at 30 p1 t_spikesSet)) (As := [.ref a_t_spikesSet, .int p1]) (rest := [.int p2]) (kX9_at l E (hn_q0 := (Nat.le_of_ble_eq_true rfl)) rfl) ⟨hx, hb, hml, hown, hts⟩ ⟨va_cnB 2 hts gX1_hoursToChange_X9_at_n49 rfl rfl rfl (nwm_13 hE.2.1) w2 (by decide +kernel) ⟨by decide, by decide⟩, w3, trivial⟩ hE hP hD hS hA [2] (by decide) rfl rfl rfl rfl  rfl hl.1 rfl (Nat.le_of_ble_eq_true rfl) dX1_hoursToChange_6 ⟨Nat.zero_le _, Nat.zero_le _⟩ (fun H locs hP hD hS => ?_)
  refine lv_iconst (v := (iI 1)) hx hb dX1_hoursToChange_9 (by decide) ?_
  refine lv_icmp_ne (tgt := 20) hx hb dX1_hoursToChange_10 (by decide) (fun c_2 => ?_) (fun c_2 => ?_)
  · have h := (if_neg c_2).symm.trans h
    refine lv_aload_n hx hb dX1_hoursToChange_20 rfl (lv_at hl 0 rfl) ?_
    refine va_get (D := kD E) (cl := vwCl) (tys := kT E) (ci := 1) (v := .int t_rateOfOthers) (C := RX1) (T := TX1) (N := 8) hx hb hts iX1 hown hK hP 0 rfl rfl 7 (by decide) w4 (fun _ h9 => h9) rfl dX1_hoursToChange_21 ?_
    exact J24 p2 t_rateOfOthers _ _ _ h hP hD hS (lv_sub hl [0, 1] rfl)
  · have h := (if_pos c_2).symm.trans h
    refine lv_aload_n hx hb dX1_hoursToChange_13 rfl (lv_at hl 0 rfl) ?_
    refine va_get (D := kD E) (cl := vwCl) (tys := kT E) (ci := 1) (v := .int t_rateOfSet) (C := RX1) (T := TX1) (N := 8) hx hb hts iX1 hown hK hP 0 rfl rfl 6 (by decide) w6 (fun _ h9 => h9) rfl dX1_hoursToChange_14 ?_
    refine lv_goto (tgt := 24) hx hb dX1_hoursToChange_17 (by decide) ?_
    exact J24 p2 t_rateOfSet _ _ _ h hP hD hS (lv_sub hl [0, 1] rfl)
abbrev rmX2_clear : Room := { frames := 1, cells := 0, slots := 0, locals := 23 }
set_option maxHeartbeats 4000000 in
set_option maxRecDepth 100000 in
theorem kX2_clear (l : Launch) (E : KE) {a_t : Nat} {a_t_lineOf : Nat} {a_t_after : Nat} {a_t_hours : Nat} {a_t_gangs : Nat} {a_t_begins : Nat} {a_t_done : Nat} {t_many : Int32} {t_begins : Nat → Int32} {t_done : Nat → Int32} {t_gangs : Nat → Int32} {out : Int32 × (Nat → Int32) × (Nat → Int32) × (Nat → Int32)} (h : mX2_clear t_begins t_done t_gangs = some out) : KV l E yX2_clear wsX2_clear rmX2_clear [.ref a_t] [oo a_t 2 [.ref a_t_lineOf, .ref a_t_after, .ref a_t_hours, .ref a_t_gangs, .ref a_t_begins, .ref a_t_done, .int t_many], ar E a_t_begins 30 t_begins, ar E a_t_done 30 t_done, ar E a_t_gangs 30 t_gangs] [oo a_t 2 [.ref a_t_lineOf, .ref a_t_after, .ref a_t_hours, .ref a_t_gangs, .ref a_t_begins, .ref a_t_done, .int out.1], ar E a_t_begins 30 out.2.1, ar E a_t_done 30 out.2.2.1, ar E a_t_gangs 30 out.2.2.2] := by
  refine kmetV (T := Int32 × (Nat → Int32) × (Nat → Int32) × (Nat → Int32)) (out := out) (wf := (fun (o : Int32 × (Nat → Int32) × (Nat → Int32) × (Nat → Int32)) => [oo a_t 2 [.ref a_t_lineOf, .ref a_t_after, .ref a_t_hours, .ref a_t_gangs, .ref a_t_begins, .ref a_t_done, .int o.1], ar E a_t_begins 30 o.2.1, ar E a_t_done 30 o.2.2.1, ar E a_t_gangs 30 o.2.2.2])) (cc := cX2_clear) (maxL := 1) (by decide) rfl (Nat.le_of_ble_eq_true rfl) ?_
  intro p e s m args below meth c A Q ls hx hb hml hts hown hE hP hD hS hA hl hret
  have hown : s.vm.findClass RX2 = some m.cls := hown
  have hK := hE.1
  have hl : lv_has ls 1 [(0, .ref a_t)] := hl
  have hP : va_P (kD E) vwCl [oo a_t 2 [.ref a_t_lineOf, .ref a_t_after, .ref a_t_hours, .ref a_t_gangs, .ref a_t_begins, .ref a_t_done, .int t_many], ar E a_t_begins 30 t_begins, ar E a_t_done 30 t_done, ar E a_t_gangs 30 t_gangs] s.heap := hP
  have hD : va_D A [oo a_t 2 [.ref a_t_lineOf, .ref a_t_after, .ref a_t_hours, .ref a_t_gangs, .ref a_t_begins, .ref a_t_done, .int t_many], ar E a_t_begins 30 t_begins, ar E a_t_done 30 t_done, ar E a_t_gangs 30 t_gangs] := hD
  have iX2 : ∀ w ∈ wsX20, w ∈ wsX2_clear := by decide +kernel
  have w1 := hts (.fieldLink RX2 21 "GaugeWeekend$Plan" "gangs" "[I") (by decide +kernel)
  have w2 := hts (.fieldLink RX2 24 "GaugeWeekend$Plan" "begins" "[I") (by decide +kernel)
  have w3 := hts (.constant RX2 34 1000000) (by decide +kernel)
  have w4 := hts (.fieldLink RX2 27 "GaugeWeekend$Plan" "done" "[I") (by decide +kernel)
  have w5 := hts (.fieldLink RX2 30 "GaugeWeekend$Plan" "many" "I") (by decide +kernel)
  rw [mX2_clear] at h
  refine lv_aload_n hx hb dX2_clear_0 rfl (lv_at hl 0 rfl) ?_
  refine va_get (D := kD E) (cl := vwCl) (tys := kT E) (ci := 2) (v := .ref a_t_gangs) (C := RX2) (T := TX2) (N := 7) hx hb hts iX2 hown hK hP 0 rfl rfl 3 (by decide) w1 (fun _ h9 => h9) rfl dX2_clear_1 ?_
  refine lv_iconst (v := (iI 0)) hx hb dX2_clear_4 (by decide) ?_
  obtain ⟨o1, hc1, h⟩ := kbind h
  refine kcvS (l := l) (E := E) (wc := [ar E a_t_gangs 30 t_gangs]) (w1 := [ar E a_t_gangs 30 o1]) (w' := [oo a_t 2 [.ref a_t_lineOf, .ref a_t_after, .ref a_t_hours, .ref a_t_gangs, .ref a_t_begins, .ref a_t_done, .int t_many], ar E a_t_begins 30 t_begins, ar E a_t_done 30 t_done, ar E a_t_gangs 30 o1]) (ads := [a_t_gangs]) (As := [.ref a_t_gangs, .int (iI 0)]) (rest := []) (kJ7_fill_53178 l E (hn_q0 := (Nat.le_of_ble_eq_true rfl)) hc1) ⟨hx, hb, hml, hown, hts⟩ (va_cwS 2 hts gX2_clear_J7_fill_53178 rfl rfl rfl (by decide +kernel) ⟨by decide, by decide⟩) hE hP hD hS hA [3] (by decide) rfl rfl rfl rfl  rfl hl.1 rfl (Nat.le_of_ble_eq_true rfl) dX2_clear_5 ⟨Nat.zero_le _, Nat.zero_le _⟩ (fun H locs hP hD hS => ?_)
  refine lv_aload_n hx hb dX2_clear_8 rfl (lv_at hl 0 rfl) ?_
  refine va_get (D := kD E) (cl := vwCl) (tys := kT E) (ci := 2) (v := .ref a_t_begins) (C := RX2) (T := TX2) (N := 7) hx hb hts iX2 hown hK hP 0 rfl rfl 4 (by decide) w2 (fun _ h9 => h9) rfl dX2_clear_9 ?_
  refine lv_ldc (v := (iI 1000000)) hx hb hown w3 dX2_clear_12 ?_
  obtain ⟨o2, hc2, h⟩ := kbind h
  refine kcvS (l := l) (E := E) (wc := [ar E a_t_begins 30 t_begins]) (w1 := [ar E a_t_begins 30 o2]) (w' := [oo a_t 2 [.ref a_t_lineOf, .ref a_t_after, .ref a_t_hours, .ref a_t_gangs, .ref a_t_begins, .ref a_t_done, .int t_many], ar E a_t_begins 30 o2, ar E a_t_done 30 t_done, ar E a_t_gangs 30 o1]) (ads := [a_t_begins]) (As := [.ref a_t_begins, .int (iI 1000000)]) (rest := []) (kJ7_fill_53178 l E (hn_q0 := (Nat.le_of_ble_eq_true rfl)) hc2) ⟨hx, hb, hml, hown, hts⟩ (va_cwS 2 hts gX2_clear_J7_fill_53178 rfl rfl rfl (by decide +kernel) ⟨by decide, by decide⟩) hE hP hD hS hA [1] (by decide) rfl rfl rfl rfl  rfl hl.1 rfl (Nat.le_of_ble_eq_true rfl) dX2_clear_14 ⟨Nat.zero_le _, Nat.zero_le _⟩ (fun H locs hP hD hS => ?_)
  refine lv_aload_n hx hb dX2_clear_17 rfl (lv_at hl 0 rfl) ?_
  refine va_get (D := kD E) (cl := vwCl) (tys := kT E) (ci := 2) (v := .ref a_t_done) (C := RX2) (T := TX2) (N := 7) hx hb hts iX2 hown hK hP 0 rfl rfl 5 (by decide) w4 (fun _ h9 => h9) rfl dX2_clear_18 ?_
  refine lv_ldc (v := (iI 1000000)) hx hb hown w3 dX2_clear_21 ?_
  obtain ⟨o3, hc3, h⟩ := kbind h
  refine kcvS (l := l) (E := E) (wc := [ar E a_t_done 30 t_done]) (w1 := [ar E a_t_done 30 o3]) (w' := [oo a_t 2 [.ref a_t_lineOf, .ref a_t_after, .ref a_t_hours, .ref a_t_gangs, .ref a_t_begins, .ref a_t_done, .int t_many], ar E a_t_begins 30 o2, ar E a_t_done 30 o3, ar E a_t_gangs 30 o1]) (ads := [a_t_done]) (As := [.ref a_t_done, .int (iI 1000000)]) (rest := []) (kJ7_fill_53178 l E (hn_q0 := (Nat.le_of_ble_eq_true rfl)) hc3) ⟨hx, hb, hml, hown, hts⟩ (va_cwS 2 hts gX2_clear_J7_fill_53178 rfl rfl rfl (by decide +kernel) ⟨by decide, by decide⟩) hE hP hD hS hA [2] (by decide) rfl rfl rfl rfl  rfl hl.1 rfl (Nat.le_of_ble_eq_true rfl) dX2_clear_23 ⟨Nat.zero_le _, Nat.zero_le _⟩ (fun H locs hP hD hS => ?_)
  refine lv_aload_n hx hb dX2_clear_26 rfl (lv_at hl 0 rfl) ?_
  refine lv_iconst (v := (iI 0)) hx hb dX2_clear_27 (by decide) ?_
  refine kput (w' := [oo a_t 2 [.ref a_t_lineOf, .ref a_t_after, .ref a_t_hours, .ref a_t_gangs, .ref a_t_begins, .ref a_t_done, .int (iI 0)], ar E a_t_begins 30 o2, ar E a_t_done 30 o3, ar E a_t_gangs 30 o1]) (E := E) (ci := 2) (v := .int (iI 0)) (ty := .int) (C := RX2) (T := TX2) (N := 7) hx hb hts iX2 tyX2 tyX2_ok nmX2 hown hK hP hD hS 0 rfl rfl 6 (by decide) w5 (fun _ h9 => h9) rfl (tyX2_ok 6 (by decide)) rfl rfl (Nat.le_of_ble_eq_true rfl) rfl dX2_clear_28 (fun H locs hP hD hS => ?_)
  exact hret _ ((iI 0), o2, o3, o1) _ _ _ (Option.some.inj h) hP hS dX2_clear_31
abbrev rmX2_add : Room := { frames := 1, cells := 0, slots := 0, locals := 22 }
set_option maxHeartbeats 4000000 in
set_option maxRecDepth 100000 in
theorem kX2_add (l : Launch) (E : KE) {a_t : Nat} {a_t_lineOf : Nat} {a_t_after : Nat} {a_t_hours : Nat} {a_t_gangs : Nat} {a_t_begins : Nat} {a_t_done : Nat} {p1 : Int32} {p2 : Int32} {p3 : Int32} {p4 : Int32} {t_many : Int32} {t_after : Nat → Int32} {t_gangs : Nat → Int32} {t_hours : Nat → Int32} {t_lineOf : Nat → Int32} {out : Int32 × (Nat → Int32) × (Nat → Int32) × (Nat → Int32) × (Nat → Int32)} (h : mX2_add p1 p2 p3 p4 t_many t_after t_gangs t_hours t_lineOf = some out) : KV l E yX2_add wsX2_add rmX2_add [.ref a_t, .int p1, .int p2, .int p3, .int p4] [oo a_t 2 [.ref a_t_lineOf, .ref a_t_after, .ref a_t_hours, .ref a_t_gangs, .ref a_t_begins, .ref a_t_done, .int t_many], ar E a_t_after 30 t_after, ar E a_t_gangs 30 t_gangs, ar E a_t_hours 30 t_hours, ar E a_t_lineOf 30 t_lineOf] [oo a_t 2 [.ref a_t_lineOf, .ref a_t_after, .ref a_t_hours, .ref a_t_gangs, .ref a_t_begins, .ref a_t_done, .int out.1], ar E a_t_after 30 out.2.1, ar E a_t_gangs 30 out.2.2.1, ar E a_t_hours 30 out.2.2.2.1, ar E a_t_lineOf 30 out.2.2.2.2] := by
  refine kmetV (T := Int32 × (Nat → Int32) × (Nat → Int32) × (Nat → Int32) × (Nat → Int32)) (out := out) (wf := (fun (o : Int32 × (Nat → Int32) × (Nat → Int32) × (Nat → Int32) × (Nat → Int32)) => [oo a_t 2 [.ref a_t_lineOf, .ref a_t_after, .ref a_t_hours, .ref a_t_gangs, .ref a_t_begins, .ref a_t_done, .int o.1], ar E a_t_after 30 o.2.1, ar E a_t_gangs 30 o.2.2.1, ar E a_t_hours 30 o.2.2.2.1, ar E a_t_lineOf 30 o.2.2.2.2])) (cc := cX2_add) (maxL := 5) (by decide) rfl (Nat.le_of_ble_eq_true rfl) ?_
  intro p e s m args below meth c A Q ls hx hb hml hts hown hE hP hD hS hA hl hret
  have hown : s.vm.findClass RX2 = some m.cls := hown
  have hK := hE.1
  have hl : lv_has ls 5 [(0, .ref a_t), (1, .int p1), (2, .int p2), (3, .int p3), (4, .int p4)] := hl
  have hP : va_P (kD E) vwCl [oo a_t 2 [.ref a_t_lineOf, .ref a_t_after, .ref a_t_hours, .ref a_t_gangs, .ref a_t_begins, .ref a_t_done, .int t_many], ar E a_t_after 30 t_after, ar E a_t_gangs 30 t_gangs, ar E a_t_hours 30 t_hours, ar E a_t_lineOf 30 t_lineOf] s.heap := hP
  have hD : va_D A [oo a_t 2 [.ref a_t_lineOf, .ref a_t_after, .ref a_t_hours, .ref a_t_gangs, .ref a_t_begins, .ref a_t_done, .int t_many], ar E a_t_after 30 t_after, ar E a_t_gangs 30 t_gangs, ar E a_t_hours 30 t_hours, ar E a_t_lineOf 30 t_lineOf] := hD
  have iX2 : ∀ w ∈ wsX20, w ∈ wsX2_add := by decide +kernel
  have w1 := hts (.fieldLink RX2 9 "GaugeWeekend$Plan" "lineOf" "[I") (by decide +kernel)
  have w2 := hts (.fieldLink RX2 30 "GaugeWeekend$Plan" "many" "I") (by decide +kernel)
  have w3 := hts (.initialized RX9) (by decide +kernel)
  have w4 := hts (.static yX9_put) (by decide +kernel)
  have w5 := hts (.fieldLink RX2 15 "GaugeWeekend$Plan" "after" "[I") (by decide +kernel)
  have w6 := hts (.fieldLink RX2 18 "GaugeWeekend$Plan" "hours" "[I") (by decide +kernel)
  have w7 := hts (.fieldLink RX2 21 "GaugeWeekend$Plan" "gangs" "[I") (by decide +kernel)
  rw [mX2_add] at h
  refine lv_aload_n hx hb dX2_add_0 rfl (lv_at hl 0 rfl) ?_
  refine va_get (D := kD E) (cl := vwCl) (tys := kT E) (ci := 2) (v := .ref a_t_lineOf) (C := RX2) (T := TX2) (N := 7) hx hb hts iX2 hown hK hP 0 rfl rfl 0 (by decide) w1 (fun _ h9 => h9) rfl dX2_add_1 ?_
  refine lv_aload_n hx hb dX2_add_4 rfl (lv_at hl 0 rfl) ?_
  refine va_get (D := kD E) (cl := vwCl) (tys := kT E) (ci := 2) (v := .int t_many) (C := RX2) (T := TX2) (N := 7) hx hb hts iX2 hown hK hP 0 rfl rfl 6 (by decide) w2 (fun _ h9 => h9) rfl dX2_add_5 ?_
  refine lv_iload_n hx hb dX2_add_8 rfl (lv_at hl 1 rfl) ?_
  refine kcvN (l := l) (E := E) (wc := [ar E a_t_lineOf 30 t_lineOf]) (w1 := [ar E a_t_lineOf 30 (mX9_put 30 t_many p1 t_lineOf)]) (w' := [oo a_t 2 [.ref a_t_lineOf, .ref a_t_after, .ref a_t_hours, .ref a_t_gangs, .ref a_t_begins, .ref a_t_done, .int t_many], ar E a_t_after 30 t_after, ar E a_t_gangs 30 t_gangs, ar E a_t_hours 30 t_hours, ar E a_t_lineOf 30 (mX9_put 30 t_many p1 t_lineOf)]) (ads := [a_t_lineOf]) (As := [.ref a_t_lineOf, .int t_many, .int p1]) (rest := []) (kX9_put l E (hn_q0 := (Nat.le_of_ble_eq_true rfl)) rfl) ⟨hx, hb, hml, hown, hts⟩ ⟨va_cnB 3 hts gX2_add_X9_put_n41 rfl rfl rfl (nwm_12 hE.2.1) w3 (by decide +kernel) ⟨by decide, by decide⟩, w4, trivial⟩ hE hP hD hS hA [4] (by decide) rfl rfl rfl rfl  rfl hl.1 rfl (Nat.le_of_ble_eq_true rfl) dX2_add_9 ⟨Nat.zero_le _, Nat.zero_le _⟩ (fun H locs hP hD hS => ?_)
  refine lv_aload_n hx hb dX2_add_12 rfl (lv_at hl 0 rfl) ?_
  refine va_get (D := kD E) (cl := vwCl) (tys := kT E) (ci := 2) (v := .ref a_t_after) (C := RX2) (T := TX2) (N := 7) hx hb hts iX2 hown hK hP 0 rfl rfl 1 (by decide) w5 (fun _ h9 => h9) rfl dX2_add_13 ?_
  refine lv_iload_n hx hb dX2_add_16 rfl (lv_at hl 1 rfl) ?_
  refine lv_iload_n hx hb dX2_add_17 rfl (lv_at hl 2 rfl) ?_
  refine kcvN (l := l) (E := E) (wc := [ar E a_t_after 30 t_after]) (w1 := [ar E a_t_after 30 (mX9_put 30 p1 p2 t_after)]) (w' := [oo a_t 2 [.ref a_t_lineOf, .ref a_t_after, .ref a_t_hours, .ref a_t_gangs, .ref a_t_begins, .ref a_t_done, .int t_many], ar E a_t_after 30 (mX9_put 30 p1 p2 t_after), ar E a_t_gangs 30 t_gangs, ar E a_t_hours 30 t_hours, ar E a_t_lineOf 30 (mX9_put 30 t_many p1 t_lineOf)]) (ads := [a_t_after]) (As := [.ref a_t_after, .int p1, .int p2]) (rest := []) (kX9_put l E (hn_q0 := (Nat.le_of_ble_eq_true rfl)) rfl) ⟨hx, hb, hml, hown, hts⟩ ⟨va_cnB 3 hts gX2_add_X9_put_n41 rfl rfl rfl (nwm_12 hE.2.1) w3 (by decide +kernel) ⟨by decide, by decide⟩, w4, trivial⟩ hE hP hD hS hA [1] (by decide) rfl rfl rfl rfl  rfl hl.1 rfl (Nat.le_of_ble_eq_true rfl) dX2_add_18 ⟨Nat.zero_le _, Nat.zero_le _⟩ (fun H locs hP hD hS => ?_)
  refine lv_aload_n hx hb dX2_add_21 rfl (lv_at hl 0 rfl) ?_
  refine va_get (D := kD E) (cl := vwCl) (tys := kT E) (ci := 2) (v := .ref a_t_hours) (C := RX2) (T := TX2) (N := 7) hx hb hts iX2 hown hK hP 0 rfl rfl 2 (by decide) w6 (fun _ h9 => h9) rfl dX2_add_22 ?_
  refine lv_iload_n hx hb dX2_add_25 rfl (lv_at hl 1 rfl) ?_
  refine lv_iload_n hx hb dX2_add_26 rfl (lv_at hl 3 rfl) ?_
  refine kcvN (l := l) (E := E) (wc := [ar E a_t_hours 30 t_hours]) (w1 := [ar E a_t_hours 30 (mX9_put 30 p1 p3 t_hours)]) (w' := [oo a_t 2 [.ref a_t_lineOf, .ref a_t_after, .ref a_t_hours, .ref a_t_gangs, .ref a_t_begins, .ref a_t_done, .int t_many], ar E a_t_after 30 (mX9_put 30 p1 p2 t_after), ar E a_t_gangs 30 t_gangs, ar E a_t_hours 30 (mX9_put 30 p1 p3 t_hours), ar E a_t_lineOf 30 (mX9_put 30 t_many p1 t_lineOf)]) (ads := [a_t_hours]) (As := [.ref a_t_hours, .int p1, .int p3]) (rest := []) (kX9_put l E (hn_q0 := (Nat.le_of_ble_eq_true rfl)) rfl) ⟨hx, hb, hml, hown, hts⟩ ⟨va_cnB 3 hts gX2_add_X9_put_n41 rfl rfl rfl (nwm_12 hE.2.1) w3 (by decide +kernel) ⟨by decide, by decide⟩, w4, trivial⟩ hE hP hD hS hA [3] (by decide) rfl rfl rfl rfl  rfl hl.1 rfl (Nat.le_of_ble_eq_true rfl) dX2_add_27 ⟨Nat.zero_le _, Nat.zero_le _⟩ (fun H locs hP hD hS => ?_)
  refine lv_aload_n hx hb dX2_add_30 rfl (lv_at hl 0 rfl) ?_
  refine va_get (D := kD E) (cl := vwCl) (tys := kT E) (ci := 2) (v := .ref a_t_gangs) (C := RX2) (T := TX2) (N := 7) hx hb hts iX2 hown hK hP 0 rfl rfl 3 (by decide) w7 (fun _ h9 => h9) rfl dX2_add_31 ?_
  refine lv_iload_n hx hb dX2_add_34 rfl (lv_at hl 1 rfl) ?_
  refine lv_iload hx hb dX2_add_35 (lv_at hl 4 rfl) ?_
  refine kcvN (l := l) (E := E) (wc := [ar E a_t_gangs 30 t_gangs]) (w1 := [ar E a_t_gangs 30 (mX9_put 30 p1 p4 t_gangs)]) (w' := [oo a_t 2 [.ref a_t_lineOf, .ref a_t_after, .ref a_t_hours, .ref a_t_gangs, .ref a_t_begins, .ref a_t_done, .int t_many], ar E a_t_after 30 (mX9_put 30 p1 p2 t_after), ar E a_t_gangs 30 (mX9_put 30 p1 p4 t_gangs), ar E a_t_hours 30 (mX9_put 30 p1 p3 t_hours), ar E a_t_lineOf 30 (mX9_put 30 t_many p1 t_lineOf)]) (ads := [a_t_gangs]) (As := [.ref a_t_gangs, .int p1, .int p4]) (rest := []) (kX9_put l E (hn_q0 := (Nat.le_of_ble_eq_true rfl)) rfl) ⟨hx, hb, hml, hown, hts⟩ ⟨va_cnB 3 hts gX2_add_X9_put_n41 rfl rfl rfl (nwm_12 hE.2.1) w3 (by decide +kernel) ⟨by decide, by decide⟩, w4, trivial⟩ hE hP hD hS hA [2] (by decide) rfl rfl rfl rfl  rfl hl.1 rfl (Nat.le_of_ble_eq_true rfl) dX2_add_37 ⟨Nat.zero_le _, Nat.zero_le _⟩ (fun H locs hP hD hS => ?_)
  refine lv_aload_n hx hb dX2_add_40 rfl (lv_at hl 0 rfl) ?_
  refine lv_dup hx hb dX2_add_41 rfl ?_
  refine va_get (D := kD E) (cl := vwCl) (tys := kT E) (ci := 2) (v := .int t_many) (C := RX2) (T := TX2) (N := 7) hx hb hts iX2 hown hK hP 0 rfl rfl 6 (by decide) w2 (fun _ h9 => h9) rfl dX2_add_42 ?_
  refine lv_iconst (v := (iI 1)) hx hb dX2_add_45 (by decide) ?_
  refine lv_iadd hx hb dX2_add_46 ?_
  refine kput (w' := [oo a_t 2 [.ref a_t_lineOf, .ref a_t_after, .ref a_t_hours, .ref a_t_gangs, .ref a_t_begins, .ref a_t_done, .int (t_many + (iI 1))], ar E a_t_after 30 (mX9_put 30 p1 p2 t_after), ar E a_t_gangs 30 (mX9_put 30 p1 p4 t_gangs), ar E a_t_hours 30 (mX9_put 30 p1 p3 t_hours), ar E a_t_lineOf 30 (mX9_put 30 t_many p1 t_lineOf)]) (E := E) (ci := 2) (v := .int (t_many + (iI 1))) (ty := .int) (C := RX2) (T := TX2) (N := 7) hx hb hts iX2 tyX2 tyX2_ok nmX2 hown hK hP hD hS 0 rfl rfl 6 (by decide) w2 (fun _ h9 => h9) rfl (tyX2_ok 6 (by decide)) rfl rfl (Nat.le_of_ble_eq_true rfl) rfl dX2_add_47 (fun H locs hP hD hS => ?_)
  exact hret _ ((t_many + (iI 1)), (mX9_put 30 p1 p2 t_after), (mX9_put 30 p1 p4 t_gangs), (mX9_put 30 p1 p3 t_hours), (mX9_put 30 t_many p1 t_lineOf)) _ _ _ (Option.some.inj h) hP hS dX2_add_50
abbrev rmX2_hasOrder : Room := { frames := 1, cells := 0, slots := 0, locals := 21 }
set_option maxHeartbeats 4000000 in
set_option maxRecDepth 100000 in
theorem kX2_hasOrder (l : Launch) (E : KE) {a_t : Nat} {a_t_lineOf : Nat} {a_t_after : Nat} {a_t_hours : Nat} {a_t_gangs : Nat} {a_t_begins : Nat} {a_t_done : Nat} {p1 : Int32} {t_many : Int32} {t_gangs : Nat → Int32} {out : Int32} (h : mX2_hasOrder p1 t_gangs = out) : KI l E yX2_hasOrder wsX2_hasOrder rmX2_hasOrder [.ref a_t, .int p1] [oo a_t 2 [.ref a_t_lineOf, .ref a_t_after, .ref a_t_hours, .ref a_t_gangs, .ref a_t_begins, .ref a_t_done, .int t_many], ar E a_t_gangs 30 t_gangs] [oo a_t 2 [.ref a_t_lineOf, .ref a_t_after, .ref a_t_hours, .ref a_t_gangs, .ref a_t_begins, .ref a_t_done, .int t_many], ar E a_t_gangs 30 t_gangs] out := by
  refine kmetI (T := Int32) (out := out) (wf := (fun (o : Int32) => [oo a_t 2 [.ref a_t_lineOf, .ref a_t_after, .ref a_t_hours, .ref a_t_gangs, .ref a_t_begins, .ref a_t_done, .int t_many], ar E a_t_gangs 30 t_gangs])) (rf := (fun (o : Int32) => o)) (cc := cX2_hasOrder) (maxL := 2) (ty := .boolean) (by decide) rfl (Nat.le_of_ble_eq_true rfl) ?_
  intro p e s m args below meth c A Q ls hx hb hml hts hown hE hP hD hS hA hl hret
  have hown : s.vm.findClass RX2 = some m.cls := hown
  have hK := hE.1
  have hl : lv_has ls 2 [(0, .ref a_t), (1, .int p1)] := hl
  have hP : va_P (kD E) vwCl [oo a_t 2 [.ref a_t_lineOf, .ref a_t_after, .ref a_t_hours, .ref a_t_gangs, .ref a_t_begins, .ref a_t_done, .int t_many], ar E a_t_gangs 30 t_gangs] s.heap := hP
  have hD : va_D A [oo a_t 2 [.ref a_t_lineOf, .ref a_t_after, .ref a_t_hours, .ref a_t_gangs, .ref a_t_begins, .ref a_t_done, .int t_many], ar E a_t_gangs 30 t_gangs] := hD
  have iX2 : ∀ w ∈ wsX20, w ∈ wsX2_hasOrder := by decide +kernel
  have w1 := hts (.fieldLink RX2 21 "GaugeWeekend$Plan" "gangs" "[I") (by decide +kernel)
  have w2 := hts (.initialized RX9) (by decide +kernel)
  have w3 := hts (.static yX9_at) (by decide +kernel)
  rw [mX2_hasOrder] at h
  refine lv_aload_n hx hb dX2_hasOrder_0 rfl (lv_at hl 0 rfl) ?_
  refine va_get (D := kD E) (cl := vwCl) (tys := kT E) (ci := 2) (v := .ref a_t_gangs) (C := RX2) (T := TX2) (N := 7) hx hb hts iX2 hown hK hP 0 rfl rfl 3 (by decide) w1 (fun _ h9 => h9) rfl dX2_hasOrder_1 ?_
  refine lv_iload_n hx hb dX2_hasOrder_4 rfl (lv_at hl 1 rfl) ?_
  refine kciN (l := l) (E := E) (wc := [ar E a_t_gangs 30 t_gangs]) (w1 := [ar E a_t_gangs 30 t_gangs]) (w' := [oo a_t 2 [.ref a_t_lineOf, .ref a_t_after, .ref a_t_hours, .ref a_t_gangs, .ref a_t_begins, .ref a_t_done, .int t_many], ar E a_t_gangs 30 t_gangs]) (ads := [a_t_gangs]) (r := (mX9_at 30 p1 t_gangs)) (As := [.ref a_t_gangs, .int p1]) (rest := []) (kX9_at l E (hn_q0 := (Nat.le_of_ble_eq_true rfl)) rfl) ⟨hx, hb, hml, hown, hts⟩ ⟨va_cnB 2 hts gX2_hasOrder_X9_at_n45 rfl rfl rfl (nwm_11 hE.2.1) w2 (by decide +kernel) ⟨by decide, by decide⟩, w3, trivial⟩ hE hP hD hS hA [1] (by decide) rfl rfl rfl rfl  rfl hl.1 rfl (Nat.le_of_ble_eq_true rfl) dX2_hasOrder_5 ⟨Nat.zero_le _, Nat.zero_le _⟩ (fun H locs hP hD hS => ?_)
  refine lv_if_le (tgt := 15) hx hb dX2_hasOrder_8 (by decide) (fun c_2 => ?_) (fun c_2 => ?_)
  · have h := (if_pos c_2).symm.trans h
    refine lv_iconst (v := (iI 0)) hx hb dX2_hasOrder_15 (by decide) ?_
    exact hret _ _ (iI 0) _ _ _ h rfl rfl hP hS dX2_hasOrder_16
  · have h := (if_neg c_2).symm.trans h
    refine lv_iconst (v := (iI 1)) hx hb dX2_hasOrder_11 (by decide) ?_
    refine lv_goto (tgt := 16) hx hb dX2_hasOrder_12 (by decide) ?_
    exact hret _ _ (iI 1) _ _ _ h rfl rfl hP hS dX2_hasOrder_16
abbrev rmX2_reckon : Room := { frames := 2, cells := 0, slots := 0, locals := 44 }
set_option maxHeartbeats 4000000 in
set_option maxRecDepth 100000 in
theorem kX2_reckon (l : Launch) (E : KE) {a_t : Nat} {a_t_lineOf : Nat} {a_t_after : Nat} {a_t_hours : Nat} {a_t_gangs : Nat} {a_t_begins : Nat} {a_t_done : Nat} {a_q1 : Nat} {a_q1_oneEnd : Nat} {a_q1_otherEnd : Nat} {a_q1_miles : Nat} {a_q1_hours : Nat} {a_q1_spikesSet : Nat} {t_many : Int32} {t_after : Nat → Int32} {t_begins : Nat → Int32} {t_done : Nat → Int32} {t_gangs : Nat → Int32} {t_hours : Nat → Int32} {t_lineOf : Nat → Int32} {q1_many : Int32} {q1_rateOfSet : Int32} {q1_rateOfOthers : Int32} {q1_miles : Nat → Int32} {q1_spikesSet : Nat → Int32} {out : (Nat → Int32) × (Nat → Int32)} (h : mX2_reckon t_many t_after t_begins t_done t_gangs t_hours t_lineOf q1_rateOfSet q1_rateOfOthers q1_miles q1_spikesSet = some out) : KV l E yX2_reckon wsX2_reckon rmX2_reckon [.ref a_t, .ref a_q1] [oo a_t 2 [.ref a_t_lineOf, .ref a_t_after, .ref a_t_hours, .ref a_t_gangs, .ref a_t_begins, .ref a_t_done, .int t_many], ar E a_t_after 30 t_after, ar E a_t_begins 30 t_begins, ar E a_t_done 30 t_done, ar E a_t_gangs 30 t_gangs, ar E a_t_hours 30 t_hours, ar E a_t_lineOf 30 t_lineOf, oo a_q1 1 [.ref a_q1_oneEnd, .ref a_q1_otherEnd, .ref a_q1_miles, .ref a_q1_hours, .ref a_q1_spikesSet, .int q1_many, .int q1_rateOfSet, .int q1_rateOfOthers], ar E a_q1_miles 30 q1_miles, ar E a_q1_spikesSet 30 q1_spikesSet] [oo a_t 2 [.ref a_t_lineOf, .ref a_t_after, .ref a_t_hours, .ref a_t_gangs, .ref a_t_begins, .ref a_t_done, .int t_many], ar E a_t_after 30 t_after, ar E a_t_begins 30 out.1, ar E a_t_done 30 out.2, ar E a_t_gangs 30 t_gangs, ar E a_t_hours 30 t_hours, ar E a_t_lineOf 30 t_lineOf, oo a_q1 1 [.ref a_q1_oneEnd, .ref a_q1_otherEnd, .ref a_q1_miles, .ref a_q1_hours, .ref a_q1_spikesSet, .int q1_many, .int q1_rateOfSet, .int q1_rateOfOthers], ar E a_q1_miles 30 q1_miles, ar E a_q1_spikesSet 30 q1_spikesSet] := by
  refine kmetV (T := (Nat → Int32) × (Nat → Int32)) (out := out) (wf := (fun (o : (Nat → Int32) × (Nat → Int32)) => [oo a_t 2 [.ref a_t_lineOf, .ref a_t_after, .ref a_t_hours, .ref a_t_gangs, .ref a_t_begins, .ref a_t_done, .int t_many], ar E a_t_after 30 t_after, ar E a_t_begins 30 o.1, ar E a_t_done 30 o.2, ar E a_t_gangs 30 t_gangs, ar E a_t_hours 30 t_hours, ar E a_t_lineOf 30 t_lineOf, oo a_q1 1 [.ref a_q1_oneEnd, .ref a_q1_otherEnd, .ref a_q1_miles, .ref a_q1_hours, .ref a_q1_spikesSet, .int q1_many, .int q1_rateOfSet, .int q1_rateOfOthers], ar E a_q1_miles 30 q1_miles, ar E a_q1_spikesSet 30 q1_spikesSet])) (cc := cX2_reckon) (maxL := 6) (by decide) rfl (Nat.le_of_ble_eq_true rfl) ?_
  intro p e s m args below meth c A Q ls hx hb hml hts hown hE hP hD hS hA hl hret
  have hown : s.vm.findClass RX2 = some m.cls := hown
  have hK := hE.1
  have hl : lv_has ls 6 [(0, .ref a_t), (1, .ref a_q1)] := hl
  have hP : va_P (kD E) vwCl [oo a_t 2 [.ref a_t_lineOf, .ref a_t_after, .ref a_t_hours, .ref a_t_gangs, .ref a_t_begins, .ref a_t_done, .int t_many], ar E a_t_after 30 t_after, ar E a_t_begins 30 t_begins, ar E a_t_done 30 t_done, ar E a_t_gangs 30 t_gangs, ar E a_t_hours 30 t_hours, ar E a_t_lineOf 30 t_lineOf, oo a_q1 1 [.ref a_q1_oneEnd, .ref a_q1_otherEnd, .ref a_q1_miles, .ref a_q1_hours, .ref a_q1_spikesSet, .int q1_many, .int q1_rateOfSet, .int q1_rateOfOthers], ar E a_q1_miles 30 q1_miles, ar E a_q1_spikesSet 30 q1_spikesSet] s.heap := hP
  have hD : va_D A [oo a_t 2 [.ref a_t_lineOf, .ref a_t_after, .ref a_t_hours, .ref a_t_gangs, .ref a_t_begins, .ref a_t_done, .int t_many], ar E a_t_after 30 t_after, ar E a_t_begins 30 t_begins, ar E a_t_done 30 t_done, ar E a_t_gangs 30 t_gangs, ar E a_t_hours 30 t_hours, ar E a_t_lineOf 30 t_lineOf, oo a_q1 1 [.ref a_q1_oneEnd, .ref a_q1_otherEnd, .ref a_q1_miles, .ref a_q1_hours, .ref a_q1_spikesSet, .int q1_many, .int q1_rateOfSet, .int q1_rateOfOthers], ar E a_q1_miles 30 q1_miles, ar E a_q1_spikesSet 30 q1_spikesSet] := hD
  have iX2 : ∀ w ∈ wsX20, w ∈ wsX2_reckon := by decide +kernel
  have w1 := hts (.fieldLink RX2 30 "GaugeWeekend$Plan" "many" "I") (by decide +kernel)
  have w2 := hts (.fieldLink RX2 9 "GaugeWeekend$Plan" "lineOf" "[I") (by decide +kernel)
  have w3 := hts (.initialized RX9) (by decide +kernel)
  have w4 := hts (.static yX9_at) (by decide +kernel)
  have w5 := hts (.fieldLink RX2 15 "GaugeWeekend$Plan" "after" "[I") (by decide +kernel)
  have w6 := hts (.fieldLink RX2 18 "GaugeWeekend$Plan" "hours" "[I") (by decide +kernel)
  have w7 := hts (.fieldLink RX2 27 "GaugeWeekend$Plan" "done" "[I") (by decide +kernel)
  have w8 := hts (.fieldLink RX2 24 "GaugeWeekend$Plan" "begins" "[I") (by decide +kernel)
  have w9 := hts (.static yX9_put) (by decide +kernel)
  have w10 := hts (.fieldLink RX2 21 "GaugeWeekend$Plan" "gangs" "[I") (by decide +kernel)
  have J56 : ∀ (s0 : Int32) (s1 : Int32) (v2 : Int32) (v3 : Int32) (t_begins : Nat → Int32) (t_done : Nat → Int32) (k2 : Int32 → (Nat → Int32) → (Nat → Int32) → Option ((Nat → Int32) × (Nat → Int32))) (hk2 : ∀ (v2 : Int32) (t_begins : Nat → Int32) (t_done : Nat → Int32) (H : Heap) (locs : List Loc) (ls : Array Slot) (h : k2 v2 t_begins t_done = some out) (hP : va_P (kD E) vwCl [oo a_t 2 [.ref a_t_lineOf, .ref a_t_after, .ref a_t_hours, .ref a_t_gangs, .ref a_t_begins, .ref a_t_done, .int t_many], ar E a_t_after 30 t_after, ar E a_t_begins 30 t_begins, ar E a_t_done 30 t_done, ar E a_t_gangs 30 t_gangs, ar E a_t_hours 30 t_hours, ar E a_t_lineOf 30 t_lineOf, oo a_q1 1 [.ref a_q1_oneEnd, .ref a_q1_otherEnd, .ref a_q1_miles, .ref a_q1_hours, .ref a_q1_spikesSet, .int q1_many, .int q1_rateOfSet, .int q1_rateOfOthers], ar E a_q1_miles 30 q1_miles, ar E a_q1_spikesSet 30 q1_spikesSet] H) (hD : va_D A [oo a_t 2 [.ref a_t_lineOf, .ref a_t_after, .ref a_t_hours, .ref a_t_gangs, .ref a_t_begins, .ref a_t_done, .int t_many], ar E a_t_after 30 t_after, ar E a_t_begins 30 t_begins, ar E a_t_done 30 t_done, ar E a_t_gangs 30 t_gangs, ar E a_t_hours 30 t_hours, ar E a_t_lineOf 30 t_lineOf, oo a_q1 1 [.ref a_q1_oneEnd, .ref a_q1_otherEnd, .ref a_q1_miles, .ref a_q1_hours, .ref a_q1_spikesSet, .int q1_many, .int q1_rateOfSet, .int q1_rateOfOthers], ar E a_q1_miles 30 q1_miles, ar E a_q1_spikesSet 30 q1_spikesSet]) (hS : va_S A s.heap H locs) (hl : lv_has ls 6 [(0, .ref a_t), (1, .ref a_q1), (2, .int v2)]), W p l e rmX2_reckon s m args below meth c H locs 0 0 Q (F0 m 2 ls [])) (H : Heap) (locs : List Loc) (ls : Array Slot) (h : mX2_reckon_J56 t_gangs q1_rateOfSet q1_rateOfOthers q1_miles q1_spikesSet k2 s0 s1 v2 v3 t_begins t_done = some out) (hP : va_P (kD E) vwCl [oo a_t 2 [.ref a_t_lineOf, .ref a_t_after, .ref a_t_hours, .ref a_t_gangs, .ref a_t_begins, .ref a_t_done, .int t_many], ar E a_t_after 30 t_after, ar E a_t_begins 30 t_begins, ar E a_t_done 30 t_done, ar E a_t_gangs 30 t_gangs, ar E a_t_hours 30 t_hours, ar E a_t_lineOf 30 t_lineOf, oo a_q1 1 [.ref a_q1_oneEnd, .ref a_q1_otherEnd, .ref a_q1_miles, .ref a_q1_hours, .ref a_q1_spikesSet, .int q1_many, .int q1_rateOfSet, .int q1_rateOfOthers], ar E a_q1_miles 30 q1_miles, ar E a_q1_spikesSet 30 q1_spikesSet] H) (hD : va_D A [oo a_t 2 [.ref a_t_lineOf, .ref a_t_after, .ref a_t_hours, .ref a_t_gangs, .ref a_t_begins, .ref a_t_done, .int t_many], ar E a_t_after 30 t_after, ar E a_t_begins 30 t_begins, ar E a_t_done 30 t_done, ar E a_t_gangs 30 t_gangs, ar E a_t_hours 30 t_hours, ar E a_t_lineOf 30 t_lineOf, oo a_q1 1 [.ref a_q1_oneEnd, .ref a_q1_otherEnd, .ref a_q1_miles, .ref a_q1_hours, .ref a_q1_spikesSet, .int q1_many, .int q1_rateOfSet, .int q1_rateOfOthers], ar E a_q1_miles 30 q1_miles, ar E a_q1_spikesSet 30 q1_spikesSet]) (hS : va_S A s.heap H locs) (hl : lv_has ls 6 [(0, .ref a_t), (1, .ref a_q1), (2, .int v2), (3, .int v3)]), W p l e rmX2_reckon s m args below meth c H locs 0 0 Q (F0 m 56 ls [.int s1, .int s0]) := by
    intro s0 s1 v2 v3 t_begins t_done k2 hk2 H locs ls h hP hD hS hl
    rw [mX2_reckon_J56] at h
    refine lv_iadd hx hb dX2_reckon_56 ?_
    refine lv_istore (lv' := [(5, .int (s0 + s1)), (0, .ref a_t), (1, .ref a_q1), (2, .int v2), (3, .int v3)]) hx hb dX2_reckon_57 hl (by decide) rfl (fun ls hl => ?_)
    refine lv_aload_n hx hb dX2_reckon_59 rfl (lv_at hl 1 rfl) ?_
    refine va_get (D := kD E) (cl := vwCl) (tys := kT E) (ci := 2) (v := .ref a_t_begins) (C := RX2) (T := TX2) (N := 7) hx hb hts iX2 hown hK hP 0 rfl rfl 4 (by decide) w8 (fun _ h9 => h9) rfl dX2_reckon_60 ?_
    refine lv_iload_n hx hb dX2_reckon_63 rfl (lv_at hl 4 rfl) ?_
    refine lv_iload hx hb dX2_reckon_64 (lv_at hl 0 rfl) ?_
    refine kcvN (l := l) (E := E) (wc := [ar E a_t_begins 30 t_begins]) (w1 := [ar E a_t_begins 30 (mX9_put 30 v3 (s0 + s1) t_begins)]) (w' := [oo a_t 2 [.ref a_t_lineOf, .ref a_t_after, .ref a_t_hours, .ref a_t_gangs, .ref a_t_begins, .ref a_t_done, .int t_many], ar E a_t_after 30 t_after, ar E a_t_begins 30 (mX9_put 30 v3 (s0 + s1) t_begins), ar E a_t_done 30 t_done, ar E a_t_gangs 30 t_gangs, ar E a_t_hours 30 t_hours, ar E a_t_lineOf 30 t_lineOf, oo a_q1 1 [.ref a_q1_oneEnd, .ref a_q1_otherEnd, .ref a_q1_miles, .ref a_q1_hours, .ref a_q1_spikesSet, .int q1_many, .int q1_rateOfSet, .int q1_rateOfOthers], ar E a_q1_miles 30 q1_miles, ar E a_q1_spikesSet 30 q1_spikesSet]) (ads := [a_t_begins]) (As := [.ref a_t_begins, .int v3, .int (s0 + s1)]) (rest := []) (kX9_put l E (hn_q0 := (Nat.le_of_ble_eq_true rfl)) rfl) ⟨hx, hb, hml, hown, hts⟩ ⟨va_cnB 3 hts gX2_reckon_X9_put_n41 rfl rfl rfl (nwm_12 hE.2.1) w3 (by decide +kernel) ⟨by decide, by decide⟩, w9, trivial⟩ hE hP hD hS hA [2] (by decide) rfl rfl rfl rfl  rfl hl.1 rfl (Nat.le_of_ble_eq_true rfl) dX2_reckon_66 ⟨Nat.zero_le _, Nat.zero_le _⟩ (fun H locs hP hD hS => ?_)
    refine lv_aload_n hx hb dX2_reckon_69 rfl (lv_at hl 1 rfl) ?_
    refine va_get (D := kD E) (cl := vwCl) (tys := kT E) (ci := 2) (v := .ref a_t_done) (C := RX2) (T := TX2) (N := 7) hx hb hts iX2 hown hK hP 0 rfl rfl 5 (by decide) w7 (fun _ h9 => h9) rfl dX2_reckon_70 ?_
    refine lv_iload_n hx hb dX2_reckon_73 rfl (lv_at hl 4 rfl) ?_
    refine lv_iload hx hb dX2_reckon_74 (lv_at hl 0 rfl) ?_
    refine lv_aload_n hx hb dX2_reckon_76 rfl (lv_at hl 2 rfl) ?_
    refine lv_iload_n hx hb dX2_reckon_77 rfl (lv_at hl 4 rfl) ?_
    refine lv_aload_n hx hb dX2_reckon_78 rfl (lv_at hl 1 rfl) ?_
    refine va_get (D := kD E) (cl := vwCl) (tys := kT E) (ci := 2) (v := .ref a_t_gangs) (C := RX2) (T := TX2) (N := 7) hx hb hts iX2 hown hK hP 0 rfl rfl 3 (by decide) w10 (fun _ h9 => h9) rfl dX2_reckon_79 ?_
    refine lv_iload_n hx hb dX2_reckon_82 rfl (lv_at hl 4 rfl) ?_
    refine kciN (l := l) (E := E) (wc := [ar E a_t_gangs 30 t_gangs]) (w1 := [ar E a_t_gangs 30 t_gangs]) (w' := [oo a_t 2 [.ref a_t_lineOf, .ref a_t_after, .ref a_t_hours, .ref a_t_gangs, .ref a_t_begins, .ref a_t_done, .int t_many], ar E a_t_after 30 t_after, ar E a_t_begins 30 (mX9_put 30 v3 (s0 + s1) t_begins), ar E a_t_done 30 t_done, ar E a_t_gangs 30 t_gangs, ar E a_t_hours 30 t_hours, ar E a_t_lineOf 30 t_lineOf, oo a_q1 1 [.ref a_q1_oneEnd, .ref a_q1_otherEnd, .ref a_q1_miles, .ref a_q1_hours, .ref a_q1_spikesSet, .int q1_many, .int q1_rateOfSet, .int q1_rateOfOthers], ar E a_q1_miles 30 q1_miles, ar E a_q1_spikesSet 30 q1_spikesSet]) (ads := [a_t_gangs]) (r := (mX9_at 30 v3 t_gangs)) (As := [.ref a_t_gangs, .int v3]) (rest := [.int v3, .ref a_q1, .int (s0 + s1), .int v3, .ref a_t_done]) (kX9_at l E (hn_q0 := (Nat.le_of_ble_eq_true rfl)) rfl) ⟨hx, hb, hml, hown, hts⟩ ⟨va_cnB 2 hts gX2_reckon_X9_at_n45 rfl rfl rfl (nwm_11 hE.2.1) w3 (by decide +kernel) ⟨by decide, by decide⟩, w4, trivial⟩ hE hP hD hS hA [4] (by decide) rfl rfl rfl rfl  rfl hl.1 rfl (Nat.le_of_ble_eq_true rfl) dX2_reckon_83 ⟨Nat.zero_le _, Nat.zero_le _⟩ (fun H locs hP hD hS => ?_)
    obtain ⟨o9, hc9, h⟩ := kbind h
    refine kciV (l := l) (E := E) (wc := [oo a_q1 1 [.ref a_q1_oneEnd, .ref a_q1_otherEnd, .ref a_q1_miles, .ref a_q1_hours, .ref a_q1_spikesSet, .int q1_many, .int q1_rateOfSet, .int q1_rateOfOthers], ar E a_q1_miles 30 q1_miles, ar E a_q1_spikesSet 30 q1_spikesSet]) (w1 := [oo a_q1 1 [.ref a_q1_oneEnd, .ref a_q1_otherEnd, .ref a_q1_miles, .ref a_q1_hours, .ref a_q1_spikesSet, .int q1_many, .int q1_rateOfSet, .int q1_rateOfOthers], ar E a_q1_miles 30 q1_miles, ar E a_q1_spikesSet 30 q1_spikesSet]) (w' := [oo a_t 2 [.ref a_t_lineOf, .ref a_t_after, .ref a_t_hours, .ref a_t_gangs, .ref a_t_begins, .ref a_t_done, .int t_many], ar E a_t_after 30 t_after, ar E a_t_begins 30 (mX9_put 30 v3 (s0 + s1) t_begins), ar E a_t_done 30 t_done, ar E a_t_gangs 30 t_gangs, ar E a_t_hours 30 t_hours, ar E a_t_lineOf 30 t_lineOf, oo a_q1 1 [.ref a_q1_oneEnd, .ref a_q1_otherEnd, .ref a_q1_miles, .ref a_q1_hours, .ref a_q1_spikesSet, .int q1_many, .int q1_rateOfSet, .int q1_rateOfOthers], ar E a_q1_miles 30 q1_miles, ar E a_q1_spikesSet 30 q1_spikesSet]) (ads := [a_q1, a_q1_miles, a_q1_spikesSet]) (r := o9) (As := [.int v3, .int (mX9_at 30 v3 t_gangs)]) (rest := [.int (s0 + s1), .int v3, .ref a_t_done]) (kX1_hoursToChange l E hc9) ⟨hx, hb, hml, hown, hts⟩ (cwV 2 hts gX2_reckon_X1_hoursToChange rfl rfl rfl (by decide +kernel) ⟨by decide, by decide⟩) hE hP hD hS hA [7, 8, 9] (by decide) rfl rfl rfl rfl rfl rfl rfl rfl hl.1 rfl (Nat.le_of_ble_eq_true rfl) dX2_reckon_86 ⟨Nat.zero_le _, Nat.zero_le _⟩ (fun H locs hP hD hS => ?_)
    refine lv_iadd hx hb dX2_reckon_89 ?_
    refine kcvN (l := l) (E := E) (wc := [ar E a_t_done 30 t_done]) (w1 := [ar E a_t_done 30 (mX9_put 30 v3 ((s0 + s1) + o9) t_done)]) (w' := [oo a_t 2 [.ref a_t_lineOf, .ref a_t_after, .ref a_t_hours, .ref a_t_gangs, .ref a_t_begins, .ref a_t_done, .int t_many], ar E a_t_after 30 t_after, ar E a_t_begins 30 (mX9_put 30 v3 (s0 + s1) t_begins), ar E a_t_done 30 (mX9_put 30 v3 ((s0 + s1) + o9) t_done), ar E a_t_gangs 30 t_gangs, ar E a_t_hours 30 t_hours, ar E a_t_lineOf 30 t_lineOf, oo a_q1 1 [.ref a_q1_oneEnd, .ref a_q1_otherEnd, .ref a_q1_miles, .ref a_q1_hours, .ref a_q1_spikesSet, .int q1_many, .int q1_rateOfSet, .int q1_rateOfOthers], ar E a_q1_miles 30 q1_miles, ar E a_q1_spikesSet 30 q1_spikesSet]) (ads := [a_t_done]) (As := [.ref a_t_done, .int v3, .int ((s0 + s1) + o9)]) (rest := []) (kX9_put l E (hn_q0 := (Nat.le_of_ble_eq_true rfl)) rfl) ⟨hx, hb, hml, hown, hts⟩ ⟨va_cnB 3 hts gX2_reckon_X9_put_n41 rfl rfl rfl (nwm_12 hE.2.1) w3 (by decide +kernel) ⟨by decide, by decide⟩, w9, trivial⟩ hE hP hD hS hA [3] (by decide) rfl rfl rfl rfl  rfl hl.1 rfl (Nat.le_of_ble_eq_true rfl) dX2_reckon_90 ⟨Nat.zero_le _, Nat.zero_le _⟩ (fun H locs hP hD hS => ?_)
    refine lv_iinc (v := (v2 + (iI 1))) (lv' := [(2, .int (v2 + (iI 1))), (5, .int (s0 + s1)), (0, .ref a_t), (1, .ref a_q1), (3, .int v3)]) hx hb dX2_reckon_93 hl (k := 3) rfl (kinc _ (by decide)) (by decide) rfl (fun ls hl => ?_)
    refine lv_goto (tgt := 2) hx hb dX2_reckon_96 (by decide) ?_
    exact hk2 (v2 + (iI 1)) (mX9_put 30 v3 (s0 + s1) t_begins) (mX9_put 30 v3 ((s0 + s1) + o9) t_done) _ _ _ h hP hD hS (lv_sub hl [2, 3, 0] rfl)
  have L2 : ∀ (n : Nat) (v2 : Int32) (t_begins : Nat → Int32) (t_done : Nat → Int32) (H : Heap) (locs : List Loc) (ls : Array Slot) (h : mX2_reckon_L2 t_many t_after t_gangs t_hours t_lineOf q1_rateOfSet q1_rateOfOthers q1_miles q1_spikesSet n v2 t_begins t_done = some out) (hP : va_P (kD E) vwCl [oo a_t 2 [.ref a_t_lineOf, .ref a_t_after, .ref a_t_hours, .ref a_t_gangs, .ref a_t_begins, .ref a_t_done, .int t_many], ar E a_t_after 30 t_after, ar E a_t_begins 30 t_begins, ar E a_t_done 30 t_done, ar E a_t_gangs 30 t_gangs, ar E a_t_hours 30 t_hours, ar E a_t_lineOf 30 t_lineOf, oo a_q1 1 [.ref a_q1_oneEnd, .ref a_q1_otherEnd, .ref a_q1_miles, .ref a_q1_hours, .ref a_q1_spikesSet, .int q1_many, .int q1_rateOfSet, .int q1_rateOfOthers], ar E a_q1_miles 30 q1_miles, ar E a_q1_spikesSet 30 q1_spikesSet] H) (hD : va_D A [oo a_t 2 [.ref a_t_lineOf, .ref a_t_after, .ref a_t_hours, .ref a_t_gangs, .ref a_t_begins, .ref a_t_done, .int t_many], ar E a_t_after 30 t_after, ar E a_t_begins 30 t_begins, ar E a_t_done 30 t_done, ar E a_t_gangs 30 t_gangs, ar E a_t_hours 30 t_hours, ar E a_t_lineOf 30 t_lineOf, oo a_q1 1 [.ref a_q1_oneEnd, .ref a_q1_otherEnd, .ref a_q1_miles, .ref a_q1_hours, .ref a_q1_spikesSet, .int q1_many, .int q1_rateOfSet, .int q1_rateOfOthers], ar E a_q1_miles 30 q1_miles, ar E a_q1_spikesSet 30 q1_spikesSet]) (hS : va_S A s.heap H locs) (hl : lv_has ls 6 [(0, .ref a_t), (1, .ref a_q1), (2, .int v2)]), W p l e rmX2_reckon s m args below meth c H locs 0 0 Q (F0 m 2 ls []) := by
    intro  n
    induction n with
    | zero =>
      intro v2 t_begins t_done H locs ls h
      rw [mX2_reckon_L2] at h
      cases h
    | succ n ih =>
      intro v2 t_begins t_done H locs ls h hP hD hS hl
      rw [mX2_reckon_L2] at h
      refine lv_iload_n hx hb dX2_reckon_2 rfl (lv_at hl 2 rfl) ?_
      refine lv_aload_n hx hb dX2_reckon_3 rfl (lv_at hl 0 rfl) ?_
      refine va_get (D := kD E) (cl := vwCl) (tys := kT E) (ci := 2) (v := .int t_many) (C := RX2) (T := TX2) (N := 7) hx hb hts iX2 hown hK hP 0 rfl rfl 6 (by decide) w1 (fun _ h9 => h9) rfl dX2_reckon_4 ?_
      refine lv_icmp_ge (tgt := 99) hx hb dX2_reckon_7 (by decide) (fun c_1 => ?_) (fun c_1 => ?_)
      · have h := (if_pos c_1).symm.trans h
        exact hret _ (t_begins, t_done) _ _ _ (Option.some.inj h) hP hS dX2_reckon_99
      · have h := (if_neg c_1).symm.trans h
        refine lv_aload_n hx hb dX2_reckon_10 rfl (lv_at hl 0 rfl) ?_
        refine va_get (D := kD E) (cl := vwCl) (tys := kT E) (ci := 2) (v := .ref a_t_lineOf) (C := RX2) (T := TX2) (N := 7) hx hb hts iX2 hown hK hP 0 rfl rfl 0 (by decide) w2 (fun _ h9 => h9) rfl dX2_reckon_11 ?_
        refine lv_iload_n hx hb dX2_reckon_14 rfl (lv_at hl 2 rfl) ?_
        refine kciN (l := l) (E := E) (wc := [ar E a_t_lineOf 30 t_lineOf]) (w1 := [ar E a_t_lineOf 30 t_lineOf]) (w' := [oo a_t 2 [.ref a_t_lineOf, .ref a_t_after, .ref a_t_hours, .ref a_t_gangs, .ref a_t_begins, .ref a_t_done, .int t_many], ar E a_t_after 30 t_after, ar E a_t_begins 30 t_begins, ar E a_t_done 30 t_done, ar E a_t_gangs 30 t_gangs, ar E a_t_hours 30 t_hours, ar E a_t_lineOf 30 t_lineOf, oo a_q1 1 [.ref a_q1_oneEnd, .ref a_q1_otherEnd, .ref a_q1_miles, .ref a_q1_hours, .ref a_q1_spikesSet, .int q1_many, .int q1_rateOfSet, .int q1_rateOfOthers], ar E a_q1_miles 30 q1_miles, ar E a_q1_spikesSet 30 q1_spikesSet]) (ads := [a_t_lineOf]) (r := (mX9_at 30 v2 t_lineOf)) (As := [.ref a_t_lineOf, .int v2]) (rest := []) (kX9_at l E (hn_q0 := (Nat.le_of_ble_eq_true rfl)) rfl) ⟨hx, hb, hml, hown, hts⟩ ⟨va_cnB 2 hts gX2_reckon_X9_at_n45 rfl rfl rfl (nwm_11 hE.2.1) w3 (by decide +kernel) ⟨by decide, by decide⟩, w4, trivial⟩ hE hP hD hS hA [6] (by decide) rfl rfl rfl rfl  rfl hl.1 rfl (Nat.le_of_ble_eq_true rfl) dX2_reckon_15 ⟨Nat.zero_le _, Nat.zero_le _⟩ (fun H locs hP hD hS => ?_)
        refine lv_istore_n (lv' := [(3, .int (mX9_at 30 v2 t_lineOf)), (0, .ref a_t), (1, .ref a_q1), (2, .int v2)]) hx hb dX2_reckon_18 rfl hl (by decide) rfl (fun ls hl => ?_)
        refine lv_aload_n hx hb dX2_reckon_19 rfl (lv_at hl 1 rfl) ?_
        refine va_get (D := kD E) (cl := vwCl) (tys := kT E) (ci := 2) (v := .ref a_t_after) (C := RX2) (T := TX2) (N := 7) hx hb hts iX2 hown hK hP 0 rfl rfl 1 (by decide) w5 (fun _ h9 => h9) rfl dX2_reckon_20 ?_
        refine lv_iload_n hx hb dX2_reckon_23 rfl (lv_at hl 0 rfl) ?_
        refine kciN (l := l) (E := E) (wc := [ar E a_t_after 30 t_after]) (w1 := [ar E a_t_after 30 t_after]) (w' := [oo a_t 2 [.ref a_t_lineOf, .ref a_t_after, .ref a_t_hours, .ref a_t_gangs, .ref a_t_begins, .ref a_t_done, .int t_many], ar E a_t_after 30 t_after, ar E a_t_begins 30 t_begins, ar E a_t_done 30 t_done, ar E a_t_gangs 30 t_gangs, ar E a_t_hours 30 t_hours, ar E a_t_lineOf 30 t_lineOf, oo a_q1 1 [.ref a_q1_oneEnd, .ref a_q1_otherEnd, .ref a_q1_miles, .ref a_q1_hours, .ref a_q1_spikesSet, .int q1_many, .int q1_rateOfSet, .int q1_rateOfOthers], ar E a_q1_miles 30 q1_miles, ar E a_q1_spikesSet 30 q1_spikesSet]) (ads := [a_t_after]) (r := (mX9_at 30 (mX9_at 30 v2 t_lineOf) t_after)) (As := [.ref a_t_after, .int (mX9_at 30 v2 t_lineOf)]) (rest := []) (kX9_at l E (hn_q0 := (Nat.le_of_ble_eq_true rfl)) rfl) ⟨hx, hb, hml, hown, hts⟩ ⟨va_cnB 2 hts gX2_reckon_X9_at_n45 rfl rfl rfl (nwm_11 hE.2.1) w3 (by decide +kernel) ⟨by decide, by decide⟩, w4, trivial⟩ hE hP hD hS hA [1] (by decide) rfl rfl rfl rfl  rfl hl.1 rfl (Nat.le_of_ble_eq_true rfl) dX2_reckon_24 ⟨Nat.zero_le _, Nat.zero_le _⟩ (fun H locs hP hD hS => ?_)
        refine lv_istore (lv' := [(4, .int (mX9_at 30 (mX9_at 30 v2 t_lineOf) t_after)), (3, .int (mX9_at 30 v2 t_lineOf)), (0, .ref a_t), (1, .ref a_q1), (2, .int v2)]) hx hb dX2_reckon_27 hl (by decide) rfl (fun ls hl => ?_)
        refine lv_aload_n hx hb dX2_reckon_29 rfl (lv_at hl 2 rfl) ?_
        refine va_get (D := kD E) (cl := vwCl) (tys := kT E) (ci := 2) (v := .ref a_t_hours) (C := RX2) (T := TX2) (N := 7) hx hb hts iX2 hown hK hP 0 rfl rfl 2 (by decide) w6 (fun _ h9 => h9) rfl dX2_reckon_30 ?_
        refine lv_iload_n hx hb dX2_reckon_33 rfl (lv_at hl 1 rfl) ?_
        refine kciN (l := l) (E := E) (wc := [ar E a_t_hours 30 t_hours]) (w1 := [ar E a_t_hours 30 t_hours]) (w' := [oo a_t 2 [.ref a_t_lineOf, .ref a_t_after, .ref a_t_hours, .ref a_t_gangs, .ref a_t_begins, .ref a_t_done, .int t_many], ar E a_t_after 30 t_after, ar E a_t_begins 30 t_begins, ar E a_t_done 30 t_done, ar E a_t_gangs 30 t_gangs, ar E a_t_hours 30 t_hours, ar E a_t_lineOf 30 t_lineOf, oo a_q1 1 [.ref a_q1_oneEnd, .ref a_q1_otherEnd, .ref a_q1_miles, .ref a_q1_hours, .ref a_q1_spikesSet, .int q1_many, .int q1_rateOfSet, .int q1_rateOfOthers], ar E a_q1_miles 30 q1_miles, ar E a_q1_spikesSet 30 q1_spikesSet]) (ads := [a_t_hours]) (r := (mX9_at 30 (mX9_at 30 v2 t_lineOf) t_hours)) (As := [.ref a_t_hours, .int (mX9_at 30 v2 t_lineOf)]) (rest := []) (kX9_at l E (hn_q0 := (Nat.le_of_ble_eq_true rfl)) rfl) ⟨hx, hb, hml, hown, hts⟩ ⟨va_cnB 2 hts gX2_reckon_X9_at_n45 rfl rfl rfl (nwm_11 hE.2.1) w3 (by decide +kernel) ⟨by decide, by decide⟩, w4, trivial⟩ hE hP hD hS hA [5] (by decide) rfl rfl rfl rfl  rfl hl.1 rfl (Nat.le_of_ble_eq_true rfl) dX2_reckon_34 ⟨Nat.zero_le _, Nat.zero_le _⟩ (fun H locs hP hD hS => ?_)
        refine lv_iload hx hb dX2_reckon_37 (lv_at hl 0 rfl) ?_
        refine lv_iconst (v := (iI (-1))) hx hb dX2_reckon_39 (by decide) ?_
        refine lv_icmp_ne (tgt := 47) hx hb dX2_reckon_40 (by decide) (fun c_5 => ?_) (fun c_5 => ?_)
        · have h := (if_neg c_5).symm.trans h
          refine lv_aload_n hx hb dX2_reckon_47 rfl (lv_at hl 2 rfl) ?_
          refine va_get (D := kD E) (cl := vwCl) (tys := kT E) (ci := 2) (v := .ref a_t_done) (C := RX2) (T := TX2) (N := 7) hx hb hts iX2 hown hK hP 0 rfl rfl 5 (by decide) w7 (fun _ h9 => h9) rfl dX2_reckon_48 ?_
          refine lv_iload hx hb dX2_reckon_51 (lv_at hl 0 rfl) ?_
          refine kciN (l := l) (E := E) (wc := [ar E a_t_done 30 t_done]) (w1 := [ar E a_t_done 30 t_done]) (w' := [oo a_t 2 [.ref a_t_lineOf, .ref a_t_after, .ref a_t_hours, .ref a_t_gangs, .ref a_t_begins, .ref a_t_done, .int t_many], ar E a_t_after 30 t_after, ar E a_t_begins 30 t_begins, ar E a_t_done 30 t_done, ar E a_t_gangs 30 t_gangs, ar E a_t_hours 30 t_hours, ar E a_t_lineOf 30 t_lineOf, oo a_q1 1 [.ref a_q1_oneEnd, .ref a_q1_otherEnd, .ref a_q1_miles, .ref a_q1_hours, .ref a_q1_spikesSet, .int q1_many, .int q1_rateOfSet, .int q1_rateOfOthers], ar E a_q1_miles 30 q1_miles, ar E a_q1_spikesSet 30 q1_spikesSet]) (ads := [a_t_done]) (r := (mX9_at 30 (mX9_at 30 (mX9_at 30 v2 t_lineOf) t_after) t_done)) (As := [.ref a_t_done, .int (mX9_at 30 (mX9_at 30 v2 t_lineOf) t_after)]) (rest := [.int (mX9_at 30 (mX9_at 30 v2 t_lineOf) t_hours)]) (kX9_at l E (hn_q0 := (Nat.le_of_ble_eq_true rfl)) rfl) ⟨hx, hb, hml, hown, hts⟩ ⟨va_cnB 2 hts gX2_reckon_X9_at_n45 rfl rfl rfl (nwm_11 hE.2.1) w3 (by decide +kernel) ⟨by decide, by decide⟩, w4, trivial⟩ hE hP hD hS hA [3] (by decide) rfl rfl rfl rfl  rfl hl.1 rfl (Nat.le_of_ble_eq_true rfl) dX2_reckon_53 ⟨Nat.zero_le _, Nat.zero_le _⟩ (fun H locs hP hD hS => ?_)
          refine J56 (mX9_at 30 (mX9_at 30 v2 t_lineOf) t_hours) (mX9_at 30 (mX9_at 30 (mX9_at 30 v2 t_lineOf) t_after) t_done) v2 (mX9_at 30 v2 t_lineOf) t_begins t_done _ ?_ _ _ _ h hP hD hS (lv_sub hl [2, 3, 4, 1] rfl)
          · intro v2_11 t_begins_11 t_done_11 H locs ls h hP hD hS hl
            exact ih v2_11 t_begins_11 t_done_11 _ _ _ h hP hD hS (lv_sub hl [0, 1, 2] rfl)
        · have h := (if_pos c_5).symm.trans h
          refine lv_iconst (v := (iI 0)) hx hb dX2_reckon_43 (by decide) ?_
          refine lv_goto (tgt := 56) hx hb dX2_reckon_44 (by decide) ?_
          refine J56 (mX9_at 30 (mX9_at 30 v2 t_lineOf) t_hours) (iI 0) v2 (mX9_at 30 v2 t_lineOf) t_begins t_done _ ?_ _ _ _ h hP hD hS (lv_sub hl [2, 3, 4, 1] rfl)
          · intro v2_12 t_begins_12 t_done_12 H locs ls h hP hD hS hl
            exact ih v2_12 t_begins_12 t_done_12 _ _ _ h hP hD hS (lv_sub hl [0, 1, 2] rfl)
  rw [mX2_reckon] at h
  refine lv_iconst (v := (iI 0)) hx hb dX2_reckon_0 (by decide) ?_
  refine lv_istore_n (lv' := [(2, .int (iI 0)), (0, .ref a_t), (1, .ref a_q1)]) hx hb dX2_reckon_1 rfl hl (by decide) rfl (fun ls hl => ?_)
  exact L2 _ (iI 0) t_begins t_done _ _ _ h hP hD hS (lv_sub hl [1, 2, 0] rfl)
abbrev rmX2_beginsOf : Room := { frames := 2, cells := 0, slots := 0, locals := 42 }
set_option maxHeartbeats 4000000 in
set_option maxRecDepth 100000 in
theorem kX2_beginsOf (l : Launch) (E : KE) {a_t : Nat} {a_t_lineOf : Nat} {a_t_after : Nat} {a_t_hours : Nat} {a_t_gangs : Nat} {a_t_begins : Nat} {a_t_done : Nat} {p1 : Int32} {t_many : Int32} {t_begins : Nat → Int32} {t_gangs : Nat → Int32} {out : Int32} (h : mX2_beginsOf p1 t_begins t_gangs = out) : KI l E yX2_beginsOf wsX2_beginsOf rmX2_beginsOf [.ref a_t, .int p1] [oo a_t 2 [.ref a_t_lineOf, .ref a_t_after, .ref a_t_hours, .ref a_t_gangs, .ref a_t_begins, .ref a_t_done, .int t_many], ar E a_t_begins 30 t_begins, ar E a_t_gangs 30 t_gangs] [oo a_t 2 [.ref a_t_lineOf, .ref a_t_after, .ref a_t_hours, .ref a_t_gangs, .ref a_t_begins, .ref a_t_done, .int t_many], ar E a_t_begins 30 t_begins, ar E a_t_gangs 30 t_gangs] out := by
  refine kmetI (T := Int32) (out := out) (wf := (fun (o : Int32) => [oo a_t 2 [.ref a_t_lineOf, .ref a_t_after, .ref a_t_hours, .ref a_t_gangs, .ref a_t_begins, .ref a_t_done, .int t_many], ar E a_t_begins 30 t_begins, ar E a_t_gangs 30 t_gangs])) (rf := (fun (o : Int32) => o)) (cc := cX2_beginsOf) (maxL := 2) (ty := .int) (by decide) rfl (Nat.le_of_ble_eq_true rfl) ?_
  intro p e s m args below meth c A Q ls hx hb hml hts hown hE hP hD hS hA hl hret
  have hown : s.vm.findClass RX2 = some m.cls := hown
  have hK := hE.1
  have hl : lv_has ls 2 [(0, .ref a_t), (1, .int p1)] := hl
  have hP : va_P (kD E) vwCl [oo a_t 2 [.ref a_t_lineOf, .ref a_t_after, .ref a_t_hours, .ref a_t_gangs, .ref a_t_begins, .ref a_t_done, .int t_many], ar E a_t_begins 30 t_begins, ar E a_t_gangs 30 t_gangs] s.heap := hP
  have hD : va_D A [oo a_t 2 [.ref a_t_lineOf, .ref a_t_after, .ref a_t_hours, .ref a_t_gangs, .ref a_t_begins, .ref a_t_done, .int t_many], ar E a_t_begins 30 t_begins, ar E a_t_gangs 30 t_gangs] := hD
  have iX2 : ∀ w ∈ wsX20, w ∈ wsX2_beginsOf := by decide +kernel
  have w1 := hts (.fieldLink RX2 24 "GaugeWeekend$Plan" "begins" "[I") (by decide +kernel)
  have w2 := hts (.initialized RX9) (by decide +kernel)
  have w3 := hts (.static yX9_at) (by decide +kernel)
  rw [mX2_beginsOf] at h
  refine lv_aload_n hx hb dX2_beginsOf_0 rfl (lv_at hl 0 rfl) ?_
  refine lv_iload_n hx hb dX2_beginsOf_1 rfl (lv_at hl 1 rfl) ?_
  refine kciV (l := l) (E := E) (wc := [oo a_t 2 [.ref a_t_lineOf, .ref a_t_after, .ref a_t_hours, .ref a_t_gangs, .ref a_t_begins, .ref a_t_done, .int t_many], ar E a_t_gangs 30 t_gangs]) (w1 := [oo a_t 2 [.ref a_t_lineOf, .ref a_t_after, .ref a_t_hours, .ref a_t_gangs, .ref a_t_begins, .ref a_t_done, .int t_many], ar E a_t_gangs 30 t_gangs]) (w' := [oo a_t 2 [.ref a_t_lineOf, .ref a_t_after, .ref a_t_hours, .ref a_t_gangs, .ref a_t_begins, .ref a_t_done, .int t_many], ar E a_t_begins 30 t_begins, ar E a_t_gangs 30 t_gangs]) (ads := [a_t, a_t_gangs]) (r := (mX2_hasOrder p1 t_gangs)) (As := [.int p1]) (rest := []) (kX2_hasOrder l E rfl) ⟨hx, hb, hml, hown, hts⟩ (cwV 1 hts gX2_beginsOf_X2_hasOrder rfl rfl rfl (by decide +kernel) ⟨by decide, by decide⟩) hE hP hD hS hA [0, 2] (by decide) rfl rfl rfl rfl rfl rfl rfl rfl hl.1 rfl (Nat.le_of_ble_eq_true rfl) dX2_beginsOf_2 ⟨Nat.zero_le _, Nat.zero_le _⟩ (fun H locs hP hD hS => ?_)
  refine lv_if_eq (tgt := 19) hx hb dX2_beginsOf_5 (by decide) (fun c_2 => ?_) (fun c_2 => ?_)
  · have h := (if_pos c_2).symm.trans h
    refine lv_iconst (v := (iI (-1))) hx hb dX2_beginsOf_19 (by decide) ?_
    exact hret _ _ (iI (-1)) _ _ _ h rfl rfl hP hS dX2_beginsOf_20
  · have h := (if_neg c_2).symm.trans h
    refine lv_aload_n hx hb dX2_beginsOf_8 rfl (lv_at hl 0 rfl) ?_
    refine va_get (D := kD E) (cl := vwCl) (tys := kT E) (ci := 2) (v := .ref a_t_begins) (C := RX2) (T := TX2) (N := 7) hx hb hts iX2 hown hK hP 0 rfl rfl 4 (by decide) w1 (fun _ h9 => h9) rfl dX2_beginsOf_9 ?_
    refine lv_iload_n hx hb dX2_beginsOf_12 rfl (lv_at hl 1 rfl) ?_
    refine kciN (l := l) (E := E) (wc := [ar E a_t_begins 30 t_begins]) (w1 := [ar E a_t_begins 30 t_begins]) (w' := [oo a_t 2 [.ref a_t_lineOf, .ref a_t_after, .ref a_t_hours, .ref a_t_gangs, .ref a_t_begins, .ref a_t_done, .int t_many], ar E a_t_begins 30 t_begins, ar E a_t_gangs 30 t_gangs]) (ads := [a_t_begins]) (r := (mX9_at 30 p1 t_begins)) (As := [.ref a_t_begins, .int p1]) (rest := []) (kX9_at l E (hn_q0 := (Nat.le_of_ble_eq_true rfl)) rfl) ⟨hx, hb, hml, hown, hts⟩ ⟨va_cnB 2 hts gX2_beginsOf_X9_at_n45 rfl rfl rfl (nwm_11 hE.2.1) w2 (by decide +kernel) ⟨by decide, by decide⟩, w3, trivial⟩ hE hP hD hS hA [1] (by decide) rfl rfl rfl rfl  rfl hl.1 rfl (Nat.le_of_ble_eq_true rfl) dX2_beginsOf_13 ⟨Nat.zero_le _, Nat.zero_le _⟩ (fun H locs hP hD hS => ?_)
    refine lv_goto (tgt := 20) hx hb dX2_beginsOf_16 (by decide) ?_
    exact hret _ _ (mX9_at 30 p1 t_begins) _ _ _ h rfl rfl hP hS dX2_beginsOf_20
abbrev rmX2_doneOf : Room := { frames := 2, cells := 0, slots := 0, locals := 42 }
set_option maxHeartbeats 4000000 in
set_option maxRecDepth 100000 in
theorem kX2_doneOf (l : Launch) (E : KE) {a_t : Nat} {a_t_lineOf : Nat} {a_t_after : Nat} {a_t_hours : Nat} {a_t_gangs : Nat} {a_t_begins : Nat} {a_t_done : Nat} {p1 : Int32} {t_many : Int32} {t_done : Nat → Int32} {t_gangs : Nat → Int32} {out : Int32} (h : mX2_doneOf p1 t_done t_gangs = out) : KI l E yX2_doneOf wsX2_doneOf rmX2_doneOf [.ref a_t, .int p1] [oo a_t 2 [.ref a_t_lineOf, .ref a_t_after, .ref a_t_hours, .ref a_t_gangs, .ref a_t_begins, .ref a_t_done, .int t_many], ar E a_t_done 30 t_done, ar E a_t_gangs 30 t_gangs] [oo a_t 2 [.ref a_t_lineOf, .ref a_t_after, .ref a_t_hours, .ref a_t_gangs, .ref a_t_begins, .ref a_t_done, .int t_many], ar E a_t_done 30 t_done, ar E a_t_gangs 30 t_gangs] out := by
  refine kmetI (T := Int32) (out := out) (wf := (fun (o : Int32) => [oo a_t 2 [.ref a_t_lineOf, .ref a_t_after, .ref a_t_hours, .ref a_t_gangs, .ref a_t_begins, .ref a_t_done, .int t_many], ar E a_t_done 30 t_done, ar E a_t_gangs 30 t_gangs])) (rf := (fun (o : Int32) => o)) (cc := cX2_doneOf) (maxL := 2) (ty := .int) (by decide) rfl (Nat.le_of_ble_eq_true rfl) ?_
  intro p e s m args below meth c A Q ls hx hb hml hts hown hE hP hD hS hA hl hret
  have hown : s.vm.findClass RX2 = some m.cls := hown
  have hK := hE.1
  have hl : lv_has ls 2 [(0, .ref a_t), (1, .int p1)] := hl
  have hP : va_P (kD E) vwCl [oo a_t 2 [.ref a_t_lineOf, .ref a_t_after, .ref a_t_hours, .ref a_t_gangs, .ref a_t_begins, .ref a_t_done, .int t_many], ar E a_t_done 30 t_done, ar E a_t_gangs 30 t_gangs] s.heap := hP
  have hD : va_D A [oo a_t 2 [.ref a_t_lineOf, .ref a_t_after, .ref a_t_hours, .ref a_t_gangs, .ref a_t_begins, .ref a_t_done, .int t_many], ar E a_t_done 30 t_done, ar E a_t_gangs 30 t_gangs] := hD
  have iX2 : ∀ w ∈ wsX20, w ∈ wsX2_doneOf := by decide +kernel
  have w1 := hts (.fieldLink RX2 27 "GaugeWeekend$Plan" "done" "[I") (by decide +kernel)
  have w2 := hts (.initialized RX9) (by decide +kernel)
  have w3 := hts (.static yX9_at) (by decide +kernel)
  rw [mX2_doneOf] at h
  refine lv_aload_n hx hb dX2_doneOf_0 rfl (lv_at hl 0 rfl) ?_
  refine lv_iload_n hx hb dX2_doneOf_1 rfl (lv_at hl 1 rfl) ?_
  refine kciV (l := l) (E := E) (wc := [oo a_t 2 [.ref a_t_lineOf, .ref a_t_after, .ref a_t_hours, .ref a_t_gangs, .ref a_t_begins, .ref a_t_done, .int t_many], ar E a_t_gangs 30 t_gangs]) (w1 := [oo a_t 2 [.ref a_t_lineOf, .ref a_t_after, .ref a_t_hours, .ref a_t_gangs, .ref a_t_begins, .ref a_t_done, .int t_many], ar E a_t_gangs 30 t_gangs]) (w' := [oo a_t 2 [.ref a_t_lineOf, .ref a_t_after, .ref a_t_hours, .ref a_t_gangs, .ref a_t_begins, .ref a_t_done, .int t_many], ar E a_t_done 30 t_done, ar E a_t_gangs 30 t_gangs]) (ads := [a_t, a_t_gangs]) (r := (mX2_hasOrder p1 t_gangs)) (As := [.int p1]) (rest := []) (kX2_hasOrder l E rfl) ⟨hx, hb, hml, hown, hts⟩ (cwV 1 hts gX2_doneOf_X2_hasOrder rfl rfl rfl (by decide +kernel) ⟨by decide, by decide⟩) hE hP hD hS hA [0, 2] (by decide) rfl rfl rfl rfl rfl rfl rfl rfl hl.1 rfl (Nat.le_of_ble_eq_true rfl) dX2_doneOf_2 ⟨Nat.zero_le _, Nat.zero_le _⟩ (fun H locs hP hD hS => ?_)
  refine lv_if_eq (tgt := 19) hx hb dX2_doneOf_5 (by decide) (fun c_2 => ?_) (fun c_2 => ?_)
  · have h := (if_pos c_2).symm.trans h
    refine lv_iconst (v := (iI (-1))) hx hb dX2_doneOf_19 (by decide) ?_
    exact hret _ _ (iI (-1)) _ _ _ h rfl rfl hP hS dX2_doneOf_20
  · have h := (if_neg c_2).symm.trans h
    refine lv_aload_n hx hb dX2_doneOf_8 rfl (lv_at hl 0 rfl) ?_
    refine va_get (D := kD E) (cl := vwCl) (tys := kT E) (ci := 2) (v := .ref a_t_done) (C := RX2) (T := TX2) (N := 7) hx hb hts iX2 hown hK hP 0 rfl rfl 5 (by decide) w1 (fun _ h9 => h9) rfl dX2_doneOf_9 ?_
    refine lv_iload_n hx hb dX2_doneOf_12 rfl (lv_at hl 1 rfl) ?_
    refine kciN (l := l) (E := E) (wc := [ar E a_t_done 30 t_done]) (w1 := [ar E a_t_done 30 t_done]) (w' := [oo a_t 2 [.ref a_t_lineOf, .ref a_t_after, .ref a_t_hours, .ref a_t_gangs, .ref a_t_begins, .ref a_t_done, .int t_many], ar E a_t_done 30 t_done, ar E a_t_gangs 30 t_gangs]) (ads := [a_t_done]) (r := (mX9_at 30 p1 t_done)) (As := [.ref a_t_done, .int p1]) (rest := []) (kX9_at l E (hn_q0 := (Nat.le_of_ble_eq_true rfl)) rfl) ⟨hx, hb, hml, hown, hts⟩ ⟨va_cnB 2 hts gX2_doneOf_X9_at_n45 rfl rfl rfl (nwm_11 hE.2.1) w2 (by decide +kernel) ⟨by decide, by decide⟩, w3, trivial⟩ hE hP hD hS hA [1] (by decide) rfl rfl rfl rfl  rfl hl.1 rfl (Nat.le_of_ble_eq_true rfl) dX2_doneOf_13 ⟨Nat.zero_le _, Nat.zero_le _⟩ (fun H locs hP hD hS => ?_)
    refine lv_goto (tgt := 20) hx hb dX2_doneOf_16 (by decide) ?_
    exact hret _ _ (mX9_at 30 p1 t_done) _ _ _ h rfl rfl hP hS dX2_doneOf_20
abbrev rmX2_gangsOf : Room := { frames := 1, cells := 0, slots := 0, locals := 21 }
set_option maxHeartbeats 4000000 in
set_option maxRecDepth 100000 in
theorem kX2_gangsOf (l : Launch) (E : KE) {a_t : Nat} {a_t_lineOf : Nat} {a_t_after : Nat} {a_t_hours : Nat} {a_t_gangs : Nat} {a_t_begins : Nat} {a_t_done : Nat} {p1 : Int32} {t_many : Int32} {t_gangs : Nat → Int32} {out : Int32} (h : mX2_gangsOf p1 t_gangs = out) : KI l E yX2_gangsOf wsX2_gangsOf rmX2_gangsOf [.ref a_t, .int p1] [oo a_t 2 [.ref a_t_lineOf, .ref a_t_after, .ref a_t_hours, .ref a_t_gangs, .ref a_t_begins, .ref a_t_done, .int t_many], ar E a_t_gangs 30 t_gangs] [oo a_t 2 [.ref a_t_lineOf, .ref a_t_after, .ref a_t_hours, .ref a_t_gangs, .ref a_t_begins, .ref a_t_done, .int t_many], ar E a_t_gangs 30 t_gangs] out := by
  refine kmetI (T := Int32) (out := out) (wf := (fun (o : Int32) => [oo a_t 2 [.ref a_t_lineOf, .ref a_t_after, .ref a_t_hours, .ref a_t_gangs, .ref a_t_begins, .ref a_t_done, .int t_many], ar E a_t_gangs 30 t_gangs])) (rf := (fun (o : Int32) => o)) (cc := cX2_gangsOf) (maxL := 2) (ty := .int) (by decide) rfl (Nat.le_of_ble_eq_true rfl) ?_
  intro p e s m args below meth c A Q ls hx hb hml hts hown hE hP hD hS hA hl hret
  have hown : s.vm.findClass RX2 = some m.cls := hown
  have hK := hE.1
  have hl : lv_has ls 2 [(0, .ref a_t), (1, .int p1)] := hl
  have hP : va_P (kD E) vwCl [oo a_t 2 [.ref a_t_lineOf, .ref a_t_after, .ref a_t_hours, .ref a_t_gangs, .ref a_t_begins, .ref a_t_done, .int t_many], ar E a_t_gangs 30 t_gangs] s.heap := hP
  have hD : va_D A [oo a_t 2 [.ref a_t_lineOf, .ref a_t_after, .ref a_t_hours, .ref a_t_gangs, .ref a_t_begins, .ref a_t_done, .int t_many], ar E a_t_gangs 30 t_gangs] := hD
  have iX2 : ∀ w ∈ wsX20, w ∈ wsX2_gangsOf := by decide +kernel
  have w1 := hts (.fieldLink RX2 21 "GaugeWeekend$Plan" "gangs" "[I") (by decide +kernel)
  have w2 := hts (.initialized RX9) (by decide +kernel)
  have w3 := hts (.static yX9_at) (by decide +kernel)
  rw [mX2_gangsOf] at h
  refine lv_aload_n hx hb dX2_gangsOf_0 rfl (lv_at hl 0 rfl) ?_
  refine va_get (D := kD E) (cl := vwCl) (tys := kT E) (ci := 2) (v := .ref a_t_gangs) (C := RX2) (T := TX2) (N := 7) hx hb hts iX2 hown hK hP 0 rfl rfl 3 (by decide) w1 (fun _ h9 => h9) rfl dX2_gangsOf_1 ?_
  refine lv_iload_n hx hb dX2_gangsOf_4 rfl (lv_at hl 1 rfl) ?_
  refine kciN (l := l) (E := E) (wc := [ar E a_t_gangs 30 t_gangs]) (w1 := [ar E a_t_gangs 30 t_gangs]) (w' := [oo a_t 2 [.ref a_t_lineOf, .ref a_t_after, .ref a_t_hours, .ref a_t_gangs, .ref a_t_begins, .ref a_t_done, .int t_many], ar E a_t_gangs 30 t_gangs]) (ads := [a_t_gangs]) (r := (mX9_at 30 p1 t_gangs)) (As := [.ref a_t_gangs, .int p1]) (rest := []) (kX9_at l E (hn_q0 := (Nat.le_of_ble_eq_true rfl)) rfl) ⟨hx, hb, hml, hown, hts⟩ ⟨va_cnB 2 hts gX2_gangsOf_X9_at_n45 rfl rfl rfl (nwm_11 hE.2.1) w2 (by decide +kernel) ⟨by decide, by decide⟩, w3, trivial⟩ hE hP hD hS hA [1] (by decide) rfl rfl rfl rfl  rfl hl.1 rfl (Nat.le_of_ble_eq_true rfl) dX2_gangsOf_5 ⟨Nat.zero_le _, Nat.zero_le _⟩ (fun H locs hP hD hS => ?_)
  exact hret _ _ (mX9_at 30 p1 t_gangs) _ _ _ h rfl rfl hP hS dX2_gangsOf_8
abbrev rmX2_stateOf : Room := { frames := 1, cells := 0, slots := 0, locals := 21 }
set_option maxHeartbeats 4000000 in
set_option maxRecDepth 100000 in
theorem kX2_stateOf (l : Launch) (E : KE) {a_t : Nat} {a_t_lineOf : Nat} {a_t_after : Nat} {a_t_hours : Nat} {a_t_gangs : Nat} {a_t_begins : Nat} {a_t_done : Nat} {p1 : Int32} {p2 : Int32} {t_many : Int32} {t_begins : Nat → Int32} {t_done : Nat → Int32} {out : Int32} (h : mX2_stateOf p1 p2 t_begins t_done = out) : KI l E yX2_stateOf wsX2_stateOf rmX2_stateOf [.ref a_t, .int p1, .int p2] [oo a_t 2 [.ref a_t_lineOf, .ref a_t_after, .ref a_t_hours, .ref a_t_gangs, .ref a_t_begins, .ref a_t_done, .int t_many], ar E a_t_begins 30 t_begins, ar E a_t_done 30 t_done] [oo a_t 2 [.ref a_t_lineOf, .ref a_t_after, .ref a_t_hours, .ref a_t_gangs, .ref a_t_begins, .ref a_t_done, .int t_many], ar E a_t_begins 30 t_begins, ar E a_t_done 30 t_done] out := by
  refine kmetI (T := Int32) (out := out) (wf := (fun (o : Int32) => [oo a_t 2 [.ref a_t_lineOf, .ref a_t_after, .ref a_t_hours, .ref a_t_gangs, .ref a_t_begins, .ref a_t_done, .int t_many], ar E a_t_begins 30 t_begins, ar E a_t_done 30 t_done])) (rf := (fun (o : Int32) => o)) (cc := cX2_stateOf) (maxL := 3) (ty := .int) (by decide) rfl (Nat.le_of_ble_eq_true rfl) ?_
  intro p e s m args below meth c A Q ls hx hb hml hts hown hE hP hD hS hA hl hret
  have hown : s.vm.findClass RX2 = some m.cls := hown
  have hK := hE.1
  have hl : lv_has ls 3 [(0, .ref a_t), (1, .int p1), (2, .int p2)] := hl
  have hP : va_P (kD E) vwCl [oo a_t 2 [.ref a_t_lineOf, .ref a_t_after, .ref a_t_hours, .ref a_t_gangs, .ref a_t_begins, .ref a_t_done, .int t_many], ar E a_t_begins 30 t_begins, ar E a_t_done 30 t_done] s.heap := hP
  have hD : va_D A [oo a_t 2 [.ref a_t_lineOf, .ref a_t_after, .ref a_t_hours, .ref a_t_gangs, .ref a_t_begins, .ref a_t_done, .int t_many], ar E a_t_begins 30 t_begins, ar E a_t_done 30 t_done] := hD
  have iX2 : ∀ w ∈ wsX20, w ∈ wsX2_stateOf := by decide +kernel
  have w1 := hts (.fieldLink RX2 24 "GaugeWeekend$Plan" "begins" "[I") (by decide +kernel)
  have w2 := hts (.initialized RX9) (by decide +kernel)
  have w3 := hts (.static yX9_at) (by decide +kernel)
  have w4 := hts (.fieldLink RX2 27 "GaugeWeekend$Plan" "done" "[I") (by decide +kernel)
  rw [mX2_stateOf] at h
  refine lv_iload_n hx hb dX2_stateOf_0 rfl (lv_at hl 2 rfl) ?_
  refine lv_aload_n hx hb dX2_stateOf_1 rfl (lv_at hl 0 rfl) ?_
  refine va_get (D := kD E) (cl := vwCl) (tys := kT E) (ci := 2) (v := .ref a_t_begins) (C := RX2) (T := TX2) (N := 7) hx hb hts iX2 hown hK hP 0 rfl rfl 4 (by decide) w1 (fun _ h9 => h9) rfl dX2_stateOf_2 ?_
  refine lv_iload_n hx hb dX2_stateOf_5 rfl (lv_at hl 1 rfl) ?_
  refine kciN (l := l) (E := E) (wc := [ar E a_t_begins 30 t_begins]) (w1 := [ar E a_t_begins 30 t_begins]) (w' := [oo a_t 2 [.ref a_t_lineOf, .ref a_t_after, .ref a_t_hours, .ref a_t_gangs, .ref a_t_begins, .ref a_t_done, .int t_many], ar E a_t_begins 30 t_begins, ar E a_t_done 30 t_done]) (ads := [a_t_begins]) (r := (mX9_at 30 p1 t_begins)) (As := [.ref a_t_begins, .int p1]) (rest := [.int p2]) (kX9_at l E (hn_q0 := (Nat.le_of_ble_eq_true rfl)) rfl) ⟨hx, hb, hml, hown, hts⟩ ⟨va_cnB 2 hts gX2_stateOf_X9_at_n45 rfl rfl rfl (nwm_11 hE.2.1) w2 (by decide +kernel) ⟨by decide, by decide⟩, w3, trivial⟩ hE hP hD hS hA [1] (by decide) rfl rfl rfl rfl  rfl hl.1 rfl (Nat.le_of_ble_eq_true rfl) dX2_stateOf_6 ⟨Nat.zero_le _, Nat.zero_le _⟩ (fun H locs hP hD hS => ?_)
  refine lv_icmp_ge (tgt := 14) hx hb dX2_stateOf_9 (by decide) (fun c_2 => ?_) (fun c_2 => ?_)
  · have h := (if_pos c_2).symm.trans h
    refine lv_iload_n hx hb dX2_stateOf_14 rfl (lv_at hl 2 rfl) ?_
    refine lv_aload_n hx hb dX2_stateOf_15 rfl (lv_at hl 0 rfl) ?_
    refine va_get (D := kD E) (cl := vwCl) (tys := kT E) (ci := 2) (v := .ref a_t_done) (C := RX2) (T := TX2) (N := 7) hx hb hts iX2 hown hK hP 0 rfl rfl 5 (by decide) w4 (fun _ h9 => h9) rfl dX2_stateOf_16 ?_
    refine lv_iload_n hx hb dX2_stateOf_19 rfl (lv_at hl 1 rfl) ?_
    refine kciN (l := l) (E := E) (wc := [ar E a_t_done 30 t_done]) (w1 := [ar E a_t_done 30 t_done]) (w' := [oo a_t 2 [.ref a_t_lineOf, .ref a_t_after, .ref a_t_hours, .ref a_t_gangs, .ref a_t_begins, .ref a_t_done, .int t_many], ar E a_t_begins 30 t_begins, ar E a_t_done 30 t_done]) (ads := [a_t_done]) (r := (mX9_at 30 p1 t_done)) (As := [.ref a_t_done, .int p1]) (rest := [.int p2]) (kX9_at l E (hn_q0 := (Nat.le_of_ble_eq_true rfl)) rfl) ⟨hx, hb, hml, hown, hts⟩ ⟨va_cnB 2 hts gX2_stateOf_X9_at_n45 rfl rfl rfl (nwm_11 hE.2.1) w2 (by decide +kernel) ⟨by decide, by decide⟩, w3, trivial⟩ hE hP hD hS hA [2] (by decide) rfl rfl rfl rfl  rfl hl.1 rfl (Nat.le_of_ble_eq_true rfl) dX2_stateOf_20 ⟨Nat.zero_le _, Nat.zero_le _⟩ (fun H locs hP hD hS => ?_)
    refine lv_icmp_ge (tgt := 30) hx hb dX2_stateOf_23 (by decide) (fun c_4 => ?_) (fun c_4 => ?_)
    · have h := (if_pos c_4).symm.trans h
      refine lv_iconst (v := (iI 2)) hx hb dX2_stateOf_30 (by decide) ?_
      exact hret _ _ (iI 2) _ _ _ h rfl rfl hP hS dX2_stateOf_31
    · have h := (if_neg c_4).symm.trans h
      refine lv_iconst (v := (iI 1)) hx hb dX2_stateOf_26 (by decide) ?_
      refine lv_goto (tgt := 31) hx hb dX2_stateOf_27 (by decide) ?_
      exact hret _ _ (iI 1) _ _ _ h rfl rfl hP hS dX2_stateOf_31
  · have h := (if_neg c_2).symm.trans h
    refine lv_iconst (v := (iI 0)) hx hb dX2_stateOf_12 (by decide) ?_
    exact hret _ _ (iI 0) _ _ _ h rfl rfl hP hS dX2_stateOf_13
abbrev rmX2_busyGangs : Room := { frames := 2, cells := 0, slots := 0, locals := 43 }
set_option maxHeartbeats 4000000 in
set_option maxRecDepth 100000 in
theorem kX2_busyGangs (l : Launch) (E : KE) {a_t : Nat} {a_t_lineOf : Nat} {a_t_after : Nat} {a_t_hours : Nat} {a_t_gangs : Nat} {a_t_begins : Nat} {a_t_done : Nat} {p1 : Int32} {t_many : Int32} {t_begins : Nat → Int32} {t_done : Nat → Int32} {t_gangs : Nat → Int32} {t_lineOf : Nat → Int32} {out : Int32} (h : mX2_busyGangs p1 t_many t_begins t_done t_gangs t_lineOf = some out) : KI l E yX2_busyGangs wsX2_busyGangs rmX2_busyGangs [.ref a_t, .int p1] [oo a_t 2 [.ref a_t_lineOf, .ref a_t_after, .ref a_t_hours, .ref a_t_gangs, .ref a_t_begins, .ref a_t_done, .int t_many], ar E a_t_begins 30 t_begins, ar E a_t_done 30 t_done, ar E a_t_gangs 30 t_gangs, ar E a_t_lineOf 30 t_lineOf] [oo a_t 2 [.ref a_t_lineOf, .ref a_t_after, .ref a_t_hours, .ref a_t_gangs, .ref a_t_begins, .ref a_t_done, .int t_many], ar E a_t_begins 30 t_begins, ar E a_t_done 30 t_done, ar E a_t_gangs 30 t_gangs, ar E a_t_lineOf 30 t_lineOf] out := by
  refine kmetI (T := Int32) (out := out) (wf := (fun (o : Int32) => [oo a_t 2 [.ref a_t_lineOf, .ref a_t_after, .ref a_t_hours, .ref a_t_gangs, .ref a_t_begins, .ref a_t_done, .int t_many], ar E a_t_begins 30 t_begins, ar E a_t_done 30 t_done, ar E a_t_gangs 30 t_gangs, ar E a_t_lineOf 30 t_lineOf])) (rf := (fun (o : Int32) => o)) (cc := cX2_busyGangs) (maxL := 5) (ty := .int) (by decide) rfl (Nat.le_of_ble_eq_true rfl) ?_
  intro p e s m args below meth c A Q ls hx hb hml hts hown hE hP hD hS hA hl hret
  have hown : s.vm.findClass RX2 = some m.cls := hown
  have hK := hE.1
  have hl : lv_has ls 5 [(0, .ref a_t), (1, .int p1)] := hl
  have hP : va_P (kD E) vwCl [oo a_t 2 [.ref a_t_lineOf, .ref a_t_after, .ref a_t_hours, .ref a_t_gangs, .ref a_t_begins, .ref a_t_done, .int t_many], ar E a_t_begins 30 t_begins, ar E a_t_done 30 t_done, ar E a_t_gangs 30 t_gangs, ar E a_t_lineOf 30 t_lineOf] s.heap := hP
  have hD : va_D A [oo a_t 2 [.ref a_t_lineOf, .ref a_t_after, .ref a_t_hours, .ref a_t_gangs, .ref a_t_begins, .ref a_t_done, .int t_many], ar E a_t_begins 30 t_begins, ar E a_t_done 30 t_done, ar E a_t_gangs 30 t_gangs, ar E a_t_lineOf 30 t_lineOf] := hD
  have iX2 : ∀ w ∈ wsX20, w ∈ wsX2_busyGangs := by decide +kernel
  have w1 := hts (.fieldLink RX2 30 "GaugeWeekend$Plan" "many" "I") (by decide +kernel)
  have w2 := hts (.fieldLink RX2 9 "GaugeWeekend$Plan" "lineOf" "[I") (by decide +kernel)
  have w3 := hts (.initialized RX9) (by decide +kernel)
  have w4 := hts (.static yX9_at) (by decide +kernel)
  have L4 : ∀ (n : Nat) (v2 : Int32) (v3 : Int32) (H : Heap) (locs : List Loc) (ls : Array Slot) (h : mX2_busyGangs_L4 p1 t_many t_begins t_done t_gangs t_lineOf n v2 v3 = some out) (hP : va_P (kD E) vwCl [oo a_t 2 [.ref a_t_lineOf, .ref a_t_after, .ref a_t_hours, .ref a_t_gangs, .ref a_t_begins, .ref a_t_done, .int t_many], ar E a_t_begins 30 t_begins, ar E a_t_done 30 t_done, ar E a_t_gangs 30 t_gangs, ar E a_t_lineOf 30 t_lineOf] H) (hD : va_D A [oo a_t 2 [.ref a_t_lineOf, .ref a_t_after, .ref a_t_hours, .ref a_t_gangs, .ref a_t_begins, .ref a_t_done, .int t_many], ar E a_t_begins 30 t_begins, ar E a_t_done 30 t_done, ar E a_t_gangs 30 t_gangs, ar E a_t_lineOf 30 t_lineOf]) (hS : va_S A s.heap H locs) (hl : lv_has ls 5 [(0, .ref a_t), (1, .int p1), (2, .int v2), (3, .int v3)]), W p l e rmX2_busyGangs s m args below meth c H locs 0 0 Q (F0 m 4 ls []) := by
    intro  n
    induction n with
    | zero =>
      intro v2 v3 H locs ls h
      rw [mX2_busyGangs_L4] at h
      cases h
    | succ n ih =>
      intro v2 v3 H locs ls h hP hD hS hl
      rw [mX2_busyGangs_L4] at h
      refine lv_iload_n hx hb dX2_busyGangs_4 rfl (lv_at hl 3 rfl) ?_
      refine lv_aload_n hx hb dX2_busyGangs_5 rfl (lv_at hl 0 rfl) ?_
      refine va_get (D := kD E) (cl := vwCl) (tys := kT E) (ci := 2) (v := .int t_many) (C := RX2) (T := TX2) (N := 7) hx hb hts iX2 hown hK hP 0 rfl rfl 6 (by decide) w1 (fun _ h9 => h9) rfl dX2_busyGangs_6 ?_
      refine lv_icmp_ge (tgt := 48) hx hb dX2_busyGangs_9 (by decide) (fun c_1 => ?_) (fun c_1 => ?_)
      · have h := (if_pos c_1).symm.trans h
        refine lv_iload_n hx hb dX2_busyGangs_48 rfl (lv_at hl 2 rfl) ?_
        exact hret _ _ v2 _ _ _ (Option.some.inj h) rfl rfl hP hS dX2_busyGangs_49
      · have h := (if_neg c_1).symm.trans h
        refine lv_aload_n hx hb dX2_busyGangs_12 rfl (lv_at hl 0 rfl) ?_
        refine va_get (D := kD E) (cl := vwCl) (tys := kT E) (ci := 2) (v := .ref a_t_lineOf) (C := RX2) (T := TX2) (N := 7) hx hb hts iX2 hown hK hP 0 rfl rfl 0 (by decide) w2 (fun _ h9 => h9) rfl dX2_busyGangs_13 ?_
        refine lv_iload_n hx hb dX2_busyGangs_16 rfl (lv_at hl 3 rfl) ?_
        refine kciN (l := l) (E := E) (wc := [ar E a_t_lineOf 30 t_lineOf]) (w1 := [ar E a_t_lineOf 30 t_lineOf]) (w' := [oo a_t 2 [.ref a_t_lineOf, .ref a_t_after, .ref a_t_hours, .ref a_t_gangs, .ref a_t_begins, .ref a_t_done, .int t_many], ar E a_t_begins 30 t_begins, ar E a_t_done 30 t_done, ar E a_t_gangs 30 t_gangs, ar E a_t_lineOf 30 t_lineOf]) (ads := [a_t_lineOf]) (r := (mX9_at 30 v3 t_lineOf)) (As := [.ref a_t_lineOf, .int v3]) (rest := []) (kX9_at l E (hn_q0 := (Nat.le_of_ble_eq_true rfl)) rfl) ⟨hx, hb, hml, hown, hts⟩ ⟨va_cnB 2 hts gX2_busyGangs_X9_at_n45 rfl rfl rfl (nwm_11 hE.2.1) w3 (by decide +kernel) ⟨by decide, by decide⟩, w4, trivial⟩ hE hP hD hS hA [4] (by decide) rfl rfl rfl rfl  rfl hl.1 rfl (Nat.le_of_ble_eq_true rfl) dX2_busyGangs_17 ⟨Nat.zero_le _, Nat.zero_le _⟩ (fun H locs hP hD hS => ?_)
        refine lv_istore (lv' := [(4, .int (mX9_at 30 v3 t_lineOf)), (0, .ref a_t), (1, .int p1), (2, .int v2), (3, .int v3)]) hx hb dX2_busyGangs_20 hl (by decide) rfl (fun ls hl => ?_)
        refine lv_aload_n hx hb dX2_busyGangs_22 rfl (lv_at hl 1 rfl) ?_
        refine lv_iload hx hb dX2_busyGangs_23 (lv_at hl 0 rfl) ?_
        refine lv_iload_n hx hb dX2_busyGangs_25 rfl (lv_at hl 2 rfl) ?_
        refine kciV (l := l) (E := E) (wc := [oo a_t 2 [.ref a_t_lineOf, .ref a_t_after, .ref a_t_hours, .ref a_t_gangs, .ref a_t_begins, .ref a_t_done, .int t_many], ar E a_t_begins 30 t_begins, ar E a_t_done 30 t_done]) (w1 := [oo a_t 2 [.ref a_t_lineOf, .ref a_t_after, .ref a_t_hours, .ref a_t_gangs, .ref a_t_begins, .ref a_t_done, .int t_many], ar E a_t_begins 30 t_begins, ar E a_t_done 30 t_done]) (w' := [oo a_t 2 [.ref a_t_lineOf, .ref a_t_after, .ref a_t_hours, .ref a_t_gangs, .ref a_t_begins, .ref a_t_done, .int t_many], ar E a_t_begins 30 t_begins, ar E a_t_done 30 t_done, ar E a_t_gangs 30 t_gangs, ar E a_t_lineOf 30 t_lineOf]) (ads := [a_t, a_t_begins, a_t_done]) (r := (mX2_stateOf (mX9_at 30 v3 t_lineOf) p1 t_begins t_done)) (As := [.int (mX9_at 30 v3 t_lineOf), .int p1]) (rest := []) (kX2_stateOf l E rfl) ⟨hx, hb, hml, hown, hts⟩ (cwV 2 hts gX2_busyGangs_X2_stateOf rfl rfl rfl (by decide +kernel) ⟨by decide, by decide⟩) hE hP hD hS hA [0, 1, 2] (by decide) rfl rfl rfl rfl rfl rfl rfl rfl hl.1 rfl (Nat.le_of_ble_eq_true rfl) dX2_busyGangs_26 ⟨Nat.zero_le _, Nat.zero_le _⟩ (fun H locs hP hD hS => ?_)
        refine lv_iconst (v := (iI 1)) hx hb dX2_busyGangs_29 (by decide) ?_
        refine lv_icmp_ne (tgt := 42) hx hb dX2_busyGangs_30 (by decide) (fun c_4 => ?_) (fun c_4 => ?_)
        · have h := (if_neg c_4).symm.trans h
          refine lv_iinc (v := (v3 + (iI 1))) (lv' := [(3, .int (v3 + (iI 1))), (4, .int (mX9_at 30 v3 t_lineOf)), (0, .ref a_t), (1, .int p1), (2, .int v2)]) hx hb dX2_busyGangs_42 hl (k := 4) rfl (kinc _ (by decide)) (by decide) rfl (fun ls hl => ?_)
          refine lv_goto (tgt := 4) hx hb dX2_busyGangs_45 (by decide) ?_
          exact ih v2 (v3 + (iI 1)) _ _ _ h hP hD hS (lv_sub hl [2, 3, 4, 0] rfl)
        · have h := (if_pos c_4).symm.trans h
          refine lv_iload_n hx hb dX2_busyGangs_33 rfl (lv_at hl 3 rfl) ?_
          refine lv_aload_n hx hb dX2_busyGangs_34 rfl (lv_at hl 1 rfl) ?_
          refine lv_iload hx hb dX2_busyGangs_35 (lv_at hl 0 rfl) ?_
          refine kciV (l := l) (E := E) (wc := [oo a_t 2 [.ref a_t_lineOf, .ref a_t_after, .ref a_t_hours, .ref a_t_gangs, .ref a_t_begins, .ref a_t_done, .int t_many], ar E a_t_gangs 30 t_gangs]) (w1 := [oo a_t 2 [.ref a_t_lineOf, .ref a_t_after, .ref a_t_hours, .ref a_t_gangs, .ref a_t_begins, .ref a_t_done, .int t_many], ar E a_t_gangs 30 t_gangs]) (w' := [oo a_t 2 [.ref a_t_lineOf, .ref a_t_after, .ref a_t_hours, .ref a_t_gangs, .ref a_t_begins, .ref a_t_done, .int t_many], ar E a_t_begins 30 t_begins, ar E a_t_done 30 t_done, ar E a_t_gangs 30 t_gangs, ar E a_t_lineOf 30 t_lineOf]) (ads := [a_t, a_t_gangs]) (r := (mX2_gangsOf (mX9_at 30 v3 t_lineOf) t_gangs)) (As := [.int (mX9_at 30 v3 t_lineOf)]) (rest := [.int v2]) (kX2_gangsOf l E rfl) ⟨hx, hb, hml, hown, hts⟩ (cwV 1 hts gX2_busyGangs_X2_gangsOf rfl rfl rfl (by decide +kernel) ⟨by decide, by decide⟩) hE hP hD hS hA [0, 3] (by decide) rfl rfl rfl rfl rfl rfl rfl rfl hl.1 rfl (Nat.le_of_ble_eq_true rfl) dX2_busyGangs_37 ⟨Nat.zero_le _, Nat.zero_le _⟩ (fun H locs hP hD hS => ?_)
          refine lv_iadd hx hb dX2_busyGangs_40 ?_
          refine lv_istore_n (lv' := [(2, .int (v2 + (mX2_gangsOf (mX9_at 30 v3 t_lineOf) t_gangs))), (4, .int (mX9_at 30 v3 t_lineOf)), (0, .ref a_t), (1, .int p1), (3, .int v3)]) hx hb dX2_busyGangs_41 rfl hl (by decide) rfl (fun ls hl => ?_)
          refine lv_iinc (v := (v3 + (iI 1))) (lv' := [(3, .int (v3 + (iI 1))), (2, .int (v2 + (mX2_gangsOf (mX9_at 30 v3 t_lineOf) t_gangs))), (4, .int (mX9_at 30 v3 t_lineOf)), (0, .ref a_t), (1, .int p1)]) hx hb dX2_busyGangs_42 hl (k := 4) rfl (kinc _ (by decide)) (by decide) rfl (fun ls hl => ?_)
          refine lv_goto (tgt := 4) hx hb dX2_busyGangs_45 (by decide) ?_
          exact ih (v2 + (mX2_gangsOf (mX9_at 30 v3 t_lineOf) t_gangs)) (v3 + (iI 1)) _ _ _ h hP hD hS (lv_sub hl [3, 4, 1, 0] rfl)
  rw [mX2_busyGangs] at h
  refine lv_iconst (v := (iI 0)) hx hb dX2_busyGangs_0 (by decide) ?_
  refine lv_istore_n (lv' := [(2, .int (iI 0)), (0, .ref a_t), (1, .int p1)]) hx hb dX2_busyGangs_1 rfl hl (by decide) rfl (fun ls hl => ?_)
  refine lv_iconst (v := (iI 0)) hx hb dX2_busyGangs_2 (by decide) ?_
  refine lv_istore_n (lv' := [(3, .int (iI 0)), (2, .int (iI 0)), (0, .ref a_t), (1, .int p1)]) hx hb dX2_busyGangs_3 rfl hl (by decide) rfl (fun ls hl => ?_)
  exact L4 _ (iI 0) (iI 0) _ _ _ h hP hD hS (lv_sub hl [2, 3, 1, 0] rfl)
abbrev rmX2_allDone : Room := { frames := 3, cells := 0, slots := 0, locals := 63 }
set_option maxHeartbeats 4000000 in
set_option maxRecDepth 100000 in
theorem kX2_allDone (l : Launch) (E : KE) {a_t : Nat} {a_t_lineOf : Nat} {a_t_after : Nat} {a_t_hours : Nat} {a_t_gangs : Nat} {a_t_begins : Nat} {a_t_done : Nat} {t_many : Int32} {t_done : Nat → Int32} {t_gangs : Nat → Int32} {t_lineOf : Nat → Int32} {out : Int32} (h : mX2_allDone t_many t_done t_gangs t_lineOf = some out) : KI l E yX2_allDone wsX2_allDone rmX2_allDone [.ref a_t] [oo a_t 2 [.ref a_t_lineOf, .ref a_t_after, .ref a_t_hours, .ref a_t_gangs, .ref a_t_begins, .ref a_t_done, .int t_many], ar E a_t_done 30 t_done, ar E a_t_gangs 30 t_gangs, ar E a_t_lineOf 30 t_lineOf] [oo a_t 2 [.ref a_t_lineOf, .ref a_t_after, .ref a_t_hours, .ref a_t_gangs, .ref a_t_begins, .ref a_t_done, .int t_many], ar E a_t_done 30 t_done, ar E a_t_gangs 30 t_gangs, ar E a_t_lineOf 30 t_lineOf] out := by
  refine kmetI (T := Int32) (out := out) (wf := (fun (o : Int32) => [oo a_t 2 [.ref a_t_lineOf, .ref a_t_after, .ref a_t_hours, .ref a_t_gangs, .ref a_t_begins, .ref a_t_done, .int t_many], ar E a_t_done 30 t_done, ar E a_t_gangs 30 t_gangs, ar E a_t_lineOf 30 t_lineOf])) (rf := (fun (o : Int32) => o)) (cc := cX2_allDone) (maxL := 3) (ty := .int) (by decide) rfl (Nat.le_of_ble_eq_true rfl) ?_
  intro p e s m args below meth c A Q ls hx hb hml hts hown hE hP hD hS hA hl hret
  have hown : s.vm.findClass RX2 = some m.cls := hown
  have hK := hE.1
  have hl : lv_has ls 3 [(0, .ref a_t)] := hl
  have hP : va_P (kD E) vwCl [oo a_t 2 [.ref a_t_lineOf, .ref a_t_after, .ref a_t_hours, .ref a_t_gangs, .ref a_t_begins, .ref a_t_done, .int t_many], ar E a_t_done 30 t_done, ar E a_t_gangs 30 t_gangs, ar E a_t_lineOf 30 t_lineOf] s.heap := hP
  have hD : va_D A [oo a_t 2 [.ref a_t_lineOf, .ref a_t_after, .ref a_t_hours, .ref a_t_gangs, .ref a_t_begins, .ref a_t_done, .int t_many], ar E a_t_done 30 t_done, ar E a_t_gangs 30 t_gangs, ar E a_t_lineOf 30 t_lineOf] := hD
  have iX2 : ∀ w ∈ wsX20, w ∈ wsX2_allDone := by decide +kernel
  have w1 := hts (.fieldLink RX2 30 "GaugeWeekend$Plan" "many" "I") (by decide +kernel)
  have w2 := hts (.fieldLink RX2 9 "GaugeWeekend$Plan" "lineOf" "[I") (by decide +kernel)
  have w3 := hts (.initialized RX9) (by decide +kernel)
  have w4 := hts (.static yX9_at) (by decide +kernel)
  have w5 := hts (.methodLink RX2 69 Lib.Math.max.name) (by decide +kernel)
  have w6 := hts (.static Lib.Math.max.name) (by decide +kernel)
  have w7 := hts (.initialized "java/lang/Math") (by decide +kernel)
  have w8 := hts (.code Lib.Math.max.name Lib.Math.max.code 2 (some .int)) (by decide +kernel)
  have L4 : ∀ (n : Nat) (v1 : Int32) (v2 : Int32) (H : Heap) (locs : List Loc) (ls : Array Slot) (h : mX2_allDone_L4 t_many t_done t_gangs t_lineOf n v1 v2 = some out) (hP : va_P (kD E) vwCl [oo a_t 2 [.ref a_t_lineOf, .ref a_t_after, .ref a_t_hours, .ref a_t_gangs, .ref a_t_begins, .ref a_t_done, .int t_many], ar E a_t_done 30 t_done, ar E a_t_gangs 30 t_gangs, ar E a_t_lineOf 30 t_lineOf] H) (hD : va_D A [oo a_t 2 [.ref a_t_lineOf, .ref a_t_after, .ref a_t_hours, .ref a_t_gangs, .ref a_t_begins, .ref a_t_done, .int t_many], ar E a_t_done 30 t_done, ar E a_t_gangs 30 t_gangs, ar E a_t_lineOf 30 t_lineOf]) (hS : va_S A s.heap H locs) (hl : lv_has ls 3 [(0, .ref a_t), (1, .int v1), (2, .int v2)]), W p l e rmX2_allDone s m args below meth c H locs 0 0 Q (F0 m 4 ls []) := by
    intro  n
    induction n with
    | zero =>
      intro v1 v2 H locs ls h
      rw [mX2_allDone_L4] at h
      cases h
    | succ n ih =>
      intro v1 v2 H locs ls h hP hD hS hl
      rw [mX2_allDone_L4] at h
      refine lv_iload_n hx hb dX2_allDone_4 rfl (lv_at hl 2 rfl) ?_
      refine lv_aload_n hx hb dX2_allDone_5 rfl (lv_at hl 0 rfl) ?_
      refine va_get (D := kD E) (cl := vwCl) (tys := kT E) (ci := 2) (v := .int t_many) (C := RX2) (T := TX2) (N := 7) hx hb hts iX2 hown hK hP 0 rfl rfl 6 (by decide) w1 (fun _ h9 => h9) rfl dX2_allDone_6 ?_
      refine lv_icmp_ge (tgt := 35) hx hb dX2_allDone_9 (by decide) (fun c_1 => ?_) (fun c_1 => ?_)
      · have h := (if_pos c_1).symm.trans h
        refine lv_iload_n hx hb dX2_allDone_35 rfl (lv_at hl 1 rfl) ?_
        exact hret _ _ v1 _ _ _ (Option.some.inj h) rfl rfl hP hS dX2_allDone_36
      · have h := (if_neg c_1).symm.trans h
        refine lv_iload_n hx hb dX2_allDone_12 rfl (lv_at hl 1 rfl) ?_
        refine lv_aload_n hx hb dX2_allDone_13 rfl (lv_at hl 0 rfl) ?_
        refine lv_aload_n hx hb dX2_allDone_14 rfl (lv_at hl 0 rfl) ?_
        refine va_get (D := kD E) (cl := vwCl) (tys := kT E) (ci := 2) (v := .ref a_t_lineOf) (C := RX2) (T := TX2) (N := 7) hx hb hts iX2 hown hK hP 0 rfl rfl 0 (by decide) w2 (fun _ h9 => h9) rfl dX2_allDone_15 ?_
        refine lv_iload_n hx hb dX2_allDone_18 rfl (lv_at hl 2 rfl) ?_
        refine kciN (l := l) (E := E) (wc := [ar E a_t_lineOf 30 t_lineOf]) (w1 := [ar E a_t_lineOf 30 t_lineOf]) (w' := [oo a_t 2 [.ref a_t_lineOf, .ref a_t_after, .ref a_t_hours, .ref a_t_gangs, .ref a_t_begins, .ref a_t_done, .int t_many], ar E a_t_done 30 t_done, ar E a_t_gangs 30 t_gangs, ar E a_t_lineOf 30 t_lineOf]) (ads := [a_t_lineOf]) (r := (mX9_at 30 v2 t_lineOf)) (As := [.ref a_t_lineOf, .int v2]) (rest := [.ref a_t, .int v1]) (kX9_at l E (hn_q0 := (Nat.le_of_ble_eq_true rfl)) rfl) ⟨hx, hb, hml, hown, hts⟩ ⟨va_cnB 2 hts gX2_allDone_X9_at_n45 rfl rfl rfl (nwm_11 hE.2.1) w3 (by decide +kernel) ⟨by decide, by decide⟩, w4, trivial⟩ hE hP hD hS hA [3] (by decide) rfl rfl rfl rfl  rfl hl.1 rfl (Nat.le_of_ble_eq_true rfl) dX2_allDone_19 ⟨Nat.zero_le _, Nat.zero_le _⟩ (fun H locs hP hD hS => ?_)
        refine kciV (l := l) (E := E) (wc := [oo a_t 2 [.ref a_t_lineOf, .ref a_t_after, .ref a_t_hours, .ref a_t_gangs, .ref a_t_begins, .ref a_t_done, .int t_many], ar E a_t_done 30 t_done, ar E a_t_gangs 30 t_gangs]) (w1 := [oo a_t 2 [.ref a_t_lineOf, .ref a_t_after, .ref a_t_hours, .ref a_t_gangs, .ref a_t_begins, .ref a_t_done, .int t_many], ar E a_t_done 30 t_done, ar E a_t_gangs 30 t_gangs]) (w' := [oo a_t 2 [.ref a_t_lineOf, .ref a_t_after, .ref a_t_hours, .ref a_t_gangs, .ref a_t_begins, .ref a_t_done, .int t_many], ar E a_t_done 30 t_done, ar E a_t_gangs 30 t_gangs, ar E a_t_lineOf 30 t_lineOf]) (ads := [a_t, a_t_done, a_t_gangs]) (r := (mX2_doneOf (mX9_at 30 v2 t_lineOf) t_done t_gangs)) (As := [.int (mX9_at 30 v2 t_lineOf)]) (rest := [.int v1]) (kX2_doneOf l E rfl) ⟨hx, hb, hml, hown, hts⟩ (cwV 1 hts gX2_allDone_X2_doneOf rfl rfl rfl (by decide +kernel) ⟨by decide, by decide⟩) hE hP hD hS hA [0, 1, 2] (by decide) rfl rfl rfl rfl rfl rfl rfl rfl hl.1 rfl (Nat.le_of_ble_eq_true rfl) dX2_allDone_22 ⟨Nat.zero_le _, Nat.zero_le _⟩ (fun H locs hP hD hS => ?_)
        refine va_mmax hx hb (hml.trans hl.1.symm) hown w5 w6 w7 w8 (Nat.le_of_ble_eq_true rfl) (Nat.le_of_ble_eq_true rfl) (Nat.zero_le _) (Nat.zero_le _) dX2_allDone_25 ?_
        refine lv_istore_n (lv' := [(1, .int (if v1 < (mX2_doneOf (mX9_at 30 v2 t_lineOf) t_done t_gangs) then (mX2_doneOf (mX9_at 30 v2 t_lineOf) t_done t_gangs) else v1)), (0, .ref a_t), (2, .int v2)]) hx hb dX2_allDone_28 rfl hl (by decide) rfl (fun ls hl => ?_)
        refine lv_iinc (v := (v2 + (iI 1))) (lv' := [(2, .int (v2 + (iI 1))), (1, .int (if v1 < (mX2_doneOf (mX9_at 30 v2 t_lineOf) t_done t_gangs) then (mX2_doneOf (mX9_at 30 v2 t_lineOf) t_done t_gangs) else v1)), (0, .ref a_t)]) hx hb dX2_allDone_29 hl (k := 2) rfl (kinc _ (by decide)) (by decide) rfl (fun ls hl => ?_)
        refine lv_goto (tgt := 4) hx hb dX2_allDone_32 (by decide) ?_
        exact ih (if v1 < (mX2_doneOf (mX9_at 30 v2 t_lineOf) t_done t_gangs) then (mX2_doneOf (mX9_at 30 v2 t_lineOf) t_done t_gangs) else v1) (v2 + (iI 1)) _ _ _ h hP hD hS (lv_sub hl [2, 1, 0] rfl)
  rw [mX2_allDone] at h
  refine lv_iconst (v := (iI 0)) hx hb dX2_allDone_0 (by decide) ?_
  refine lv_istore_n (lv' := [(1, .int (iI 0)), (0, .ref a_t)]) hx hb dX2_allDone_1 rfl hl (by decide) rfl (fun ls hl => ?_)
  refine lv_iconst (v := (iI 0)) hx hb dX2_allDone_2 (by decide) ?_
  refine lv_istore_n (lv' := [(2, .int (iI 0)), (1, .int (iI 0)), (0, .ref a_t)]) hx hb dX2_allDone_3 rfl hl (by decide) rfl (fun ls hl => ?_)
  exact L4 _ (iI 0) (iI 0) _ _ _ h hP hD hS (lv_sub hl [2, 1, 0] rfl)
abbrev rmX3_changeRates : Room := { frames := 3, cells := 0, slots := 0, locals := 69 }
set_option maxHeartbeats 4000000 in
set_option maxRecDepth 100000 in
theorem kX3_changeRates (l : Launch) (E : KE) {a_t : Nat} {a_t_lines : Nat} {a_t_plan : Nat} {a_t_draft : Nat} {a_t_lines_oneEnd : Nat} {a_t_lines_otherEnd : Nat} {a_t_lines_miles : Nat} {a_t_lines_hours : Nat} {a_t_lines_spikesSet : Nat} {a_t_plan_lineOf : Nat} {a_t_plan_after : Nat} {a_t_plan_hours : Nat} {a_t_plan_gangs : Nat} {a_t_plan_begins : Nat} {a_t_plan_done : Nat} {p1 : Int32} {p2 : Int32} {t_lines_many : Int32} {t_lines_rateOfSet : Int32} {t_lines_rateOfOthers : Int32} {t_lines_miles : Nat → Int32} {t_lines_spikesSet : Nat → Int32} {t_plan_many : Int32} {t_plan_after : Nat → Int32} {t_plan_begins : Nat → Int32} {t_plan_done : Nat → Int32} {t_plan_gangs : Nat → Int32} {t_plan_hours : Nat → Int32} {t_plan_lineOf : Nat → Int32} {out : Int32 × Int32 × Int32 × (Nat → Int32) × (Nat → Int32)} (h : mX3_changeRates p1 p2 t_lines_rateOfSet t_lines_rateOfOthers t_lines_miles t_lines_spikesSet t_plan_many t_plan_after t_plan_begins t_plan_done t_plan_gangs t_plan_hours t_plan_lineOf = some out) : KI l E yX3_changeRates wsX3_changeRates rmX3_changeRates [.ref a_t, .int p1, .int p2] [oo a_t 3 [.ref a_t_lines, .ref a_t_plan, .ref a_t_draft], oo a_t_lines 1 [.ref a_t_lines_oneEnd, .ref a_t_lines_otherEnd, .ref a_t_lines_miles, .ref a_t_lines_hours, .ref a_t_lines_spikesSet, .int t_lines_many, .int t_lines_rateOfSet, .int t_lines_rateOfOthers], ar E a_t_lines_miles 30 t_lines_miles, ar E a_t_lines_spikesSet 30 t_lines_spikesSet, oo a_t_plan 2 [.ref a_t_plan_lineOf, .ref a_t_plan_after, .ref a_t_plan_hours, .ref a_t_plan_gangs, .ref a_t_plan_begins, .ref a_t_plan_done, .int t_plan_many], ar E a_t_plan_after 30 t_plan_after, ar E a_t_plan_begins 30 t_plan_begins, ar E a_t_plan_done 30 t_plan_done, ar E a_t_plan_gangs 30 t_plan_gangs, ar E a_t_plan_hours 30 t_plan_hours, ar E a_t_plan_lineOf 30 t_plan_lineOf] [oo a_t 3 [.ref a_t_lines, .ref a_t_plan, .ref a_t_draft], oo a_t_lines 1 [.ref a_t_lines_oneEnd, .ref a_t_lines_otherEnd, .ref a_t_lines_miles, .ref a_t_lines_hours, .ref a_t_lines_spikesSet, .int t_lines_many, .int out.2.1, .int out.2.2.1], ar E a_t_lines_miles 30 t_lines_miles, ar E a_t_lines_spikesSet 30 t_lines_spikesSet, oo a_t_plan 2 [.ref a_t_plan_lineOf, .ref a_t_plan_after, .ref a_t_plan_hours, .ref a_t_plan_gangs, .ref a_t_plan_begins, .ref a_t_plan_done, .int t_plan_many], ar E a_t_plan_after 30 t_plan_after, ar E a_t_plan_begins 30 out.2.2.2.1, ar E a_t_plan_done 30 out.2.2.2.2, ar E a_t_plan_gangs 30 t_plan_gangs, ar E a_t_plan_hours 30 t_plan_hours, ar E a_t_plan_lineOf 30 t_plan_lineOf] out.1 := by
  refine kmetI (T := Int32 × Int32 × Int32 × (Nat → Int32) × (Nat → Int32)) (out := out) (wf := (fun (o : Int32 × Int32 × Int32 × (Nat → Int32) × (Nat → Int32)) => [oo a_t 3 [.ref a_t_lines, .ref a_t_plan, .ref a_t_draft], oo a_t_lines 1 [.ref a_t_lines_oneEnd, .ref a_t_lines_otherEnd, .ref a_t_lines_miles, .ref a_t_lines_hours, .ref a_t_lines_spikesSet, .int t_lines_many, .int o.2.1, .int o.2.2.1], ar E a_t_lines_miles 30 t_lines_miles, ar E a_t_lines_spikesSet 30 t_lines_spikesSet, oo a_t_plan 2 [.ref a_t_plan_lineOf, .ref a_t_plan_after, .ref a_t_plan_hours, .ref a_t_plan_gangs, .ref a_t_plan_begins, .ref a_t_plan_done, .int t_plan_many], ar E a_t_plan_after 30 t_plan_after, ar E a_t_plan_begins 30 o.2.2.2.1, ar E a_t_plan_done 30 o.2.2.2.2, ar E a_t_plan_gangs 30 t_plan_gangs, ar E a_t_plan_hours 30 t_plan_hours, ar E a_t_plan_lineOf 30 t_plan_lineOf])) (rf := (fun (o : Int32 × Int32 × Int32 × (Nat → Int32) × (Nat → Int32)) => o.1)) (cc := cX3_changeRates) (maxL := 4) (ty := .int) (by decide) rfl (Nat.le_of_ble_eq_true rfl) ?_
  intro p e s m args below meth c A Q ls hx hb hml hts hown hE hP hD hS hA hl hret
  have hown : s.vm.findClass RX3 = some m.cls := hown
  have hK := hE.1
  have hl : lv_has ls 4 [(0, .ref a_t), (1, .int p1), (2, .int p2)] := hl
  have hP : va_P (kD E) vwCl [oo a_t 3 [.ref a_t_lines, .ref a_t_plan, .ref a_t_draft], oo a_t_lines 1 [.ref a_t_lines_oneEnd, .ref a_t_lines_otherEnd, .ref a_t_lines_miles, .ref a_t_lines_hours, .ref a_t_lines_spikesSet, .int t_lines_many, .int t_lines_rateOfSet, .int t_lines_rateOfOthers], ar E a_t_lines_miles 30 t_lines_miles, ar E a_t_lines_spikesSet 30 t_lines_spikesSet, oo a_t_plan 2 [.ref a_t_plan_lineOf, .ref a_t_plan_after, .ref a_t_plan_hours, .ref a_t_plan_gangs, .ref a_t_plan_begins, .ref a_t_plan_done, .int t_plan_many], ar E a_t_plan_after 30 t_plan_after, ar E a_t_plan_begins 30 t_plan_begins, ar E a_t_plan_done 30 t_plan_done, ar E a_t_plan_gangs 30 t_plan_gangs, ar E a_t_plan_hours 30 t_plan_hours, ar E a_t_plan_lineOf 30 t_plan_lineOf] s.heap := hP
  have hD : va_D A [oo a_t 3 [.ref a_t_lines, .ref a_t_plan, .ref a_t_draft], oo a_t_lines 1 [.ref a_t_lines_oneEnd, .ref a_t_lines_otherEnd, .ref a_t_lines_miles, .ref a_t_lines_hours, .ref a_t_lines_spikesSet, .int t_lines_many, .int t_lines_rateOfSet, .int t_lines_rateOfOthers], ar E a_t_lines_miles 30 t_lines_miles, ar E a_t_lines_spikesSet 30 t_lines_spikesSet, oo a_t_plan 2 [.ref a_t_plan_lineOf, .ref a_t_plan_after, .ref a_t_plan_hours, .ref a_t_plan_gangs, .ref a_t_plan_begins, .ref a_t_plan_done, .int t_plan_many], ar E a_t_plan_after 30 t_plan_after, ar E a_t_plan_begins 30 t_plan_begins, ar E a_t_plan_done 30 t_plan_done, ar E a_t_plan_gangs 30 t_plan_gangs, ar E a_t_plan_hours 30 t_plan_hours, ar E a_t_plan_lineOf 30 t_plan_lineOf] := hD
  have iX3 : ∀ w ∈ wsX30, w ∈ wsX3_changeRates := by decide +kernel
  have w1 := hts (.fieldLink RX3 12 "GaugeWeekend$Railway" "lines" "LGaugeWeekend$Lines;") (by decide +kernel)
  have w2 := hts (.fieldLink RX3 21 "GaugeWeekend$Railway" "plan" "LGaugeWeekend$Plan;") (by decide +kernel)
  rw [mX3_changeRates] at h
  refine lv_aload_n hx hb dX3_changeRates_0 rfl (lv_at hl 0 rfl) ?_
  refine va_get (D := kD E) (cl := vwCl) (tys := kT E) (ci := 3) (v := .ref a_t_lines) (C := RX3) (T := TX3) (N := 3) hx hb hts iX3 hown hK hP 0 rfl rfl 0 (by decide) w1 (fun _ h9 => h9) rfl dX3_changeRates_1 ?_
  refine lv_iload_n hx hb dX3_changeRates_4 rfl (lv_at hl 1 rfl) ?_
  refine lv_iload_n hx hb dX3_changeRates_5 rfl (lv_at hl 2 rfl) ?_
  obtain ⟨o1, hc1, h⟩ := kbind h
  refine kciV (l := l) (E := E) (wc := [oo a_t_lines 1 [.ref a_t_lines_oneEnd, .ref a_t_lines_otherEnd, .ref a_t_lines_miles, .ref a_t_lines_hours, .ref a_t_lines_spikesSet, .int t_lines_many, .int t_lines_rateOfSet, .int t_lines_rateOfOthers]]) (w1 := [oo a_t_lines 1 [.ref a_t_lines_oneEnd, .ref a_t_lines_otherEnd, .ref a_t_lines_miles, .ref a_t_lines_hours, .ref a_t_lines_spikesSet, .int t_lines_many, .int o1.2.1, .int o1.2.2]]) (w' := [oo a_t 3 [.ref a_t_lines, .ref a_t_plan, .ref a_t_draft], oo a_t_lines 1 [.ref a_t_lines_oneEnd, .ref a_t_lines_otherEnd, .ref a_t_lines_miles, .ref a_t_lines_hours, .ref a_t_lines_spikesSet, .int t_lines_many, .int o1.2.1, .int o1.2.2], ar E a_t_lines_miles 30 t_lines_miles, ar E a_t_lines_spikesSet 30 t_lines_spikesSet, oo a_t_plan 2 [.ref a_t_plan_lineOf, .ref a_t_plan_after, .ref a_t_plan_hours, .ref a_t_plan_gangs, .ref a_t_plan_begins, .ref a_t_plan_done, .int t_plan_many], ar E a_t_plan_after 30 t_plan_after, ar E a_t_plan_begins 30 t_plan_begins, ar E a_t_plan_done 30 t_plan_done, ar E a_t_plan_gangs 30 t_plan_gangs, ar E a_t_plan_hours 30 t_plan_hours, ar E a_t_plan_lineOf 30 t_plan_lineOf]) (ads := [a_t_lines]) (r := o1.1) (As := [.int p1, .int p2]) (rest := []) (kX1_setRates l E hc1) ⟨hx, hb, hml, hown, hts⟩ (cwV 2 hts gX3_changeRates_X1_setRates rfl rfl rfl (by decide +kernel) ⟨by decide, by decide⟩) hE hP hD hS hA [1] (by decide) rfl rfl rfl rfl rfl rfl rfl rfl hl.1 rfl (Nat.le_of_ble_eq_true rfl) dX3_changeRates_6 ⟨Nat.zero_le _, Nat.zero_le _⟩ (fun H locs hP hD hS => ?_)
  refine lv_istore_n (lv' := [(3, .int o1.1), (0, .ref a_t), (1, .int p1), (2, .int p2)]) hx hb dX3_changeRates_9 rfl hl (by decide) rfl (fun ls hl => ?_)
  refine lv_aload_n hx hb dX3_changeRates_10 rfl (lv_at hl 1 rfl) ?_
  refine va_get (D := kD E) (cl := vwCl) (tys := kT E) (ci := 3) (v := .ref a_t_plan) (C := RX3) (T := TX3) (N := 3) hx hb hts iX3 hown hK hP 0 rfl rfl 1 (by decide) w2 (fun _ h9 => h9) rfl dX3_changeRates_11 ?_
  refine lv_aload_n hx hb dX3_changeRates_14 rfl (lv_at hl 1 rfl) ?_
  refine va_get (D := kD E) (cl := vwCl) (tys := kT E) (ci := 3) (v := .ref a_t_lines) (C := RX3) (T := TX3) (N := 3) hx hb hts iX3 hown hK hP 0 rfl rfl 0 (by decide) w1 (fun _ h9 => h9) rfl dX3_changeRates_15 ?_
  obtain ⟨o2, hc2, h⟩ := kbind h
  refine kcvV (l := l) (E := E) (wc := [oo a_t_plan 2 [.ref a_t_plan_lineOf, .ref a_t_plan_after, .ref a_t_plan_hours, .ref a_t_plan_gangs, .ref a_t_plan_begins, .ref a_t_plan_done, .int t_plan_many], ar E a_t_plan_after 30 t_plan_after, ar E a_t_plan_begins 30 t_plan_begins, ar E a_t_plan_done 30 t_plan_done, ar E a_t_plan_gangs 30 t_plan_gangs, ar E a_t_plan_hours 30 t_plan_hours, ar E a_t_plan_lineOf 30 t_plan_lineOf, oo a_t_lines 1 [.ref a_t_lines_oneEnd, .ref a_t_lines_otherEnd, .ref a_t_lines_miles, .ref a_t_lines_hours, .ref a_t_lines_spikesSet, .int t_lines_many, .int o1.2.1, .int o1.2.2], ar E a_t_lines_miles 30 t_lines_miles, ar E a_t_lines_spikesSet 30 t_lines_spikesSet]) (w1 := [oo a_t_plan 2 [.ref a_t_plan_lineOf, .ref a_t_plan_after, .ref a_t_plan_hours, .ref a_t_plan_gangs, .ref a_t_plan_begins, .ref a_t_plan_done, .int t_plan_many], ar E a_t_plan_after 30 t_plan_after, ar E a_t_plan_begins 30 o2.1, ar E a_t_plan_done 30 o2.2, ar E a_t_plan_gangs 30 t_plan_gangs, ar E a_t_plan_hours 30 t_plan_hours, ar E a_t_plan_lineOf 30 t_plan_lineOf, oo a_t_lines 1 [.ref a_t_lines_oneEnd, .ref a_t_lines_otherEnd, .ref a_t_lines_miles, .ref a_t_lines_hours, .ref a_t_lines_spikesSet, .int t_lines_many, .int o1.2.1, .int o1.2.2], ar E a_t_lines_miles 30 t_lines_miles, ar E a_t_lines_spikesSet 30 t_lines_spikesSet]) (w' := [oo a_t 3 [.ref a_t_lines, .ref a_t_plan, .ref a_t_draft], oo a_t_lines 1 [.ref a_t_lines_oneEnd, .ref a_t_lines_otherEnd, .ref a_t_lines_miles, .ref a_t_lines_hours, .ref a_t_lines_spikesSet, .int t_lines_many, .int o1.2.1, .int o1.2.2], ar E a_t_lines_miles 30 t_lines_miles, ar E a_t_lines_spikesSet 30 t_lines_spikesSet, oo a_t_plan 2 [.ref a_t_plan_lineOf, .ref a_t_plan_after, .ref a_t_plan_hours, .ref a_t_plan_gangs, .ref a_t_plan_begins, .ref a_t_plan_done, .int t_plan_many], ar E a_t_plan_after 30 t_plan_after, ar E a_t_plan_begins 30 o2.1, ar E a_t_plan_done 30 o2.2, ar E a_t_plan_gangs 30 t_plan_gangs, ar E a_t_plan_hours 30 t_plan_hours, ar E a_t_plan_lineOf 30 t_plan_lineOf]) (ads := [a_t_plan, a_t_plan_after, a_t_plan_begins, a_t_plan_done, a_t_plan_gangs, a_t_plan_hours, a_t_plan_lineOf, a_t_lines, a_t_lines_miles, a_t_lines_spikesSet]) (As := [.ref a_t_lines]) (rest := []) (kX2_reckon l E hc2) ⟨hx, hb, hml, hown, hts⟩ (cwV 1 hts gX3_changeRates_X2_reckon rfl rfl rfl (by decide +kernel) ⟨by decide, by decide⟩) hE hP hD hS hA [4, 5, 6, 7, 8, 9, 10, 1, 2, 3] (by decide) rfl rfl rfl rfl rfl rfl rfl rfl hl.1 rfl (Nat.le_of_ble_eq_true rfl) dX3_changeRates_18 ⟨Nat.zero_le _, Nat.zero_le _⟩ (fun H locs hP hD hS => ?_)
  refine lv_iload_n hx hb dX3_changeRates_21 rfl (lv_at hl 0 rfl) ?_
  exact hret _ _ (o1.1, o1.2.1, o1.2.2, o2.1, o2.2) _ _ _ (Option.some.inj h) rfl rfl hP hS dX3_changeRates_22
abbrev rmX3_takeDraft : Room := { frames := 3, cells := 0, slots := 0, locals := 69 }
set_option maxHeartbeats 4000000 in
set_option maxRecDepth 100000 in
theorem kX3_takeDraft (l : Launch) (E : KE) {a_t : Nat} {a_t_lines : Nat} {a_t_plan : Nat} {a_t_draft : Nat} {a_t_draft_lineOf : Nat} {a_t_draft_after : Nat} {a_t_draft_hours : Nat} {a_t_draft_gangs : Nat} {a_t_draft_begins : Nat} {a_t_draft_done : Nat} {a_t_lines_oneEnd : Nat} {a_t_lines_otherEnd : Nat} {a_t_lines_miles : Nat} {a_t_lines_hours : Nat} {a_t_lines_spikesSet : Nat} {t_draft_many : Int32} {t_draft_after : Nat → Int32} {t_draft_begins : Nat → Int32} {t_draft_done : Nat → Int32} {t_draft_gangs : Nat → Int32} {t_draft_hours : Nat → Int32} {t_draft_lineOf : Nat → Int32} {t_lines_many : Int32} {t_lines_rateOfSet : Int32} {t_lines_rateOfOthers : Int32} {t_lines_miles : Nat → Int32} {t_lines_spikesSet : Nat → Int32} {out : (Nat → Int32) × (Nat → Int32)} (h : mX3_takeDraft t_draft_many t_draft_after t_draft_begins t_draft_done t_draft_gangs t_draft_hours t_draft_lineOf t_lines_rateOfSet t_lines_rateOfOthers t_lines_miles t_lines_spikesSet = some out) : KV l E yX3_takeDraft wsX3_takeDraft rmX3_takeDraft [.ref a_t] [oo a_t 3 [.ref a_t_lines, .ref a_t_plan, .ref a_t_draft], oo a_t_draft 2 [.ref a_t_draft_lineOf, .ref a_t_draft_after, .ref a_t_draft_hours, .ref a_t_draft_gangs, .ref a_t_draft_begins, .ref a_t_draft_done, .int t_draft_many], ar E a_t_draft_after 30 t_draft_after, ar E a_t_draft_begins 30 t_draft_begins, ar E a_t_draft_done 30 t_draft_done, ar E a_t_draft_gangs 30 t_draft_gangs, ar E a_t_draft_hours 30 t_draft_hours, ar E a_t_draft_lineOf 30 t_draft_lineOf, oo a_t_lines 1 [.ref a_t_lines_oneEnd, .ref a_t_lines_otherEnd, .ref a_t_lines_miles, .ref a_t_lines_hours, .ref a_t_lines_spikesSet, .int t_lines_many, .int t_lines_rateOfSet, .int t_lines_rateOfOthers], ar E a_t_lines_miles 30 t_lines_miles, ar E a_t_lines_spikesSet 30 t_lines_spikesSet] [oo a_t 3 [.ref a_t_lines, .ref a_t_draft, .ref a_t_plan], oo a_t_draft 2 [.ref a_t_draft_lineOf, .ref a_t_draft_after, .ref a_t_draft_hours, .ref a_t_draft_gangs, .ref a_t_draft_begins, .ref a_t_draft_done, .int t_draft_many], ar E a_t_draft_after 30 t_draft_after, ar E a_t_draft_begins 30 out.1, ar E a_t_draft_done 30 out.2, ar E a_t_draft_gangs 30 t_draft_gangs, ar E a_t_draft_hours 30 t_draft_hours, ar E a_t_draft_lineOf 30 t_draft_lineOf, oo a_t_lines 1 [.ref a_t_lines_oneEnd, .ref a_t_lines_otherEnd, .ref a_t_lines_miles, .ref a_t_lines_hours, .ref a_t_lines_spikesSet, .int t_lines_many, .int t_lines_rateOfSet, .int t_lines_rateOfOthers], ar E a_t_lines_miles 30 t_lines_miles, ar E a_t_lines_spikesSet 30 t_lines_spikesSet] := by
  refine kmetV (T := (Nat → Int32) × (Nat → Int32)) (out := out) (wf := (fun (o : (Nat → Int32) × (Nat → Int32)) => [oo a_t 3 [.ref a_t_lines, .ref a_t_draft, .ref a_t_plan], oo a_t_draft 2 [.ref a_t_draft_lineOf, .ref a_t_draft_after, .ref a_t_draft_hours, .ref a_t_draft_gangs, .ref a_t_draft_begins, .ref a_t_draft_done, .int t_draft_many], ar E a_t_draft_after 30 t_draft_after, ar E a_t_draft_begins 30 o.1, ar E a_t_draft_done 30 o.2, ar E a_t_draft_gangs 30 t_draft_gangs, ar E a_t_draft_hours 30 t_draft_hours, ar E a_t_draft_lineOf 30 t_draft_lineOf, oo a_t_lines 1 [.ref a_t_lines_oneEnd, .ref a_t_lines_otherEnd, .ref a_t_lines_miles, .ref a_t_lines_hours, .ref a_t_lines_spikesSet, .int t_lines_many, .int t_lines_rateOfSet, .int t_lines_rateOfOthers], ar E a_t_lines_miles 30 t_lines_miles, ar E a_t_lines_spikesSet 30 t_lines_spikesSet])) (cc := cX3_takeDraft) (maxL := 2) (by decide) rfl (Nat.le_of_ble_eq_true rfl) ?_
  intro p e s m args below meth c A Q ls hx hb hml hts hown hE hP hD hS hA hl hret
  have hown : s.vm.findClass RX3 = some m.cls := hown
  have hK := hE.1
  have hl : lv_has ls 2 [(0, .ref a_t)] := hl
  have hP : va_P (kD E) vwCl [oo a_t 3 [.ref a_t_lines, .ref a_t_plan, .ref a_t_draft], oo a_t_draft 2 [.ref a_t_draft_lineOf, .ref a_t_draft_after, .ref a_t_draft_hours, .ref a_t_draft_gangs, .ref a_t_draft_begins, .ref a_t_draft_done, .int t_draft_many], ar E a_t_draft_after 30 t_draft_after, ar E a_t_draft_begins 30 t_draft_begins, ar E a_t_draft_done 30 t_draft_done, ar E a_t_draft_gangs 30 t_draft_gangs, ar E a_t_draft_hours 30 t_draft_hours, ar E a_t_draft_lineOf 30 t_draft_lineOf, oo a_t_lines 1 [.ref a_t_lines_oneEnd, .ref a_t_lines_otherEnd, .ref a_t_lines_miles, .ref a_t_lines_hours, .ref a_t_lines_spikesSet, .int t_lines_many, .int t_lines_rateOfSet, .int t_lines_rateOfOthers], ar E a_t_lines_miles 30 t_lines_miles, ar E a_t_lines_spikesSet 30 t_lines_spikesSet] s.heap := hP
  have hD : va_D A [oo a_t 3 [.ref a_t_lines, .ref a_t_plan, .ref a_t_draft], oo a_t_draft 2 [.ref a_t_draft_lineOf, .ref a_t_draft_after, .ref a_t_draft_hours, .ref a_t_draft_gangs, .ref a_t_draft_begins, .ref a_t_draft_done, .int t_draft_many], ar E a_t_draft_after 30 t_draft_after, ar E a_t_draft_begins 30 t_draft_begins, ar E a_t_draft_done 30 t_draft_done, ar E a_t_draft_gangs 30 t_draft_gangs, ar E a_t_draft_hours 30 t_draft_hours, ar E a_t_draft_lineOf 30 t_draft_lineOf, oo a_t_lines 1 [.ref a_t_lines_oneEnd, .ref a_t_lines_otherEnd, .ref a_t_lines_miles, .ref a_t_lines_hours, .ref a_t_lines_spikesSet, .int t_lines_many, .int t_lines_rateOfSet, .int t_lines_rateOfOthers], ar E a_t_lines_miles 30 t_lines_miles, ar E a_t_lines_spikesSet 30 t_lines_spikesSet] := hD
  have iX3 : ∀ w ∈ wsX30, w ∈ wsX3_takeDraft := by decide +kernel
  have w1 := hts (.fieldLink RX3 21 "GaugeWeekend$Railway" "plan" "LGaugeWeekend$Plan;") (by decide +kernel)
  have w2 := hts (.fieldLink RX3 25 "GaugeWeekend$Railway" "draft" "LGaugeWeekend$Plan;") (by decide +kernel)
  have w3 := hts (.fieldLink RX3 12 "GaugeWeekend$Railway" "lines" "LGaugeWeekend$Lines;") (by decide +kernel)
  rw [mX3_takeDraft] at h
  refine lv_aload_n hx hb dX3_takeDraft_0 rfl (lv_at hl 0 rfl) ?_
  refine va_get (D := kD E) (cl := vwCl) (tys := kT E) (ci := 3) (v := .ref a_t_plan) (C := RX3) (T := TX3) (N := 3) hx hb hts iX3 hown hK hP 0 rfl rfl 1 (by decide) w1 (fun _ h9 => h9) rfl dX3_takeDraft_1 ?_
  refine lv_astore_n (lv' := [(1, .ref a_t_plan), (0, .ref a_t)]) hx hb dX3_takeDraft_4 rfl hl (by decide) rfl (fun ls hl => ?_)
  refine lv_aload_n hx hb dX3_takeDraft_5 rfl (lv_at hl 1 rfl) ?_
  refine lv_aload_n hx hb dX3_takeDraft_6 rfl (lv_at hl 1 rfl) ?_
  refine va_get (D := kD E) (cl := vwCl) (tys := kT E) (ci := 3) (v := .ref a_t_draft) (C := RX3) (T := TX3) (N := 3) hx hb hts iX3 hown hK hP 0 rfl rfl 2 (by decide) w2 (fun _ h9 => h9) rfl dX3_takeDraft_7 ?_
  refine kput (w' := [oo a_t 3 [.ref a_t_lines, .ref a_t_draft, .ref a_t_draft], oo a_t_draft 2 [.ref a_t_draft_lineOf, .ref a_t_draft_after, .ref a_t_draft_hours, .ref a_t_draft_gangs, .ref a_t_draft_begins, .ref a_t_draft_done, .int t_draft_many], ar E a_t_draft_after 30 t_draft_after, ar E a_t_draft_begins 30 t_draft_begins, ar E a_t_draft_done 30 t_draft_done, ar E a_t_draft_gangs 30 t_draft_gangs, ar E a_t_draft_hours 30 t_draft_hours, ar E a_t_draft_lineOf 30 t_draft_lineOf, oo a_t_lines 1 [.ref a_t_lines_oneEnd, .ref a_t_lines_otherEnd, .ref a_t_lines_miles, .ref a_t_lines_hours, .ref a_t_lines_spikesSet, .int t_lines_many, .int t_lines_rateOfSet, .int t_lines_rateOfOthers], ar E a_t_lines_miles 30 t_lines_miles, ar E a_t_lines_spikesSet 30 t_lines_spikesSet]) (E := E) (ci := 3) (v := .ref a_t_draft) (ty := .object "GaugeWeekend$Plan") (C := RX3) (T := TX3) (N := 3) hx hb hts iX3 tyX3 tyX3_ok nmX3 hown hK hP hD hS 0 rfl rfl 1 (by decide) w1 (fun _ h9 => h9) rfl (tyX3_ok 1 (by decide)) rfl rfl (Nat.le_of_ble_eq_true rfl) rfl dX3_takeDraft_10 (fun H locs hP hD hS => ?_)
  refine lv_aload_n hx hb dX3_takeDraft_13 rfl (lv_at hl 1 rfl) ?_
  refine lv_aload_n hx hb dX3_takeDraft_14 rfl (lv_at hl 0 rfl) ?_
  refine kput (w' := [oo a_t 3 [.ref a_t_lines, .ref a_t_draft, .ref a_t_plan], oo a_t_draft 2 [.ref a_t_draft_lineOf, .ref a_t_draft_after, .ref a_t_draft_hours, .ref a_t_draft_gangs, .ref a_t_draft_begins, .ref a_t_draft_done, .int t_draft_many], ar E a_t_draft_after 30 t_draft_after, ar E a_t_draft_begins 30 t_draft_begins, ar E a_t_draft_done 30 t_draft_done, ar E a_t_draft_gangs 30 t_draft_gangs, ar E a_t_draft_hours 30 t_draft_hours, ar E a_t_draft_lineOf 30 t_draft_lineOf, oo a_t_lines 1 [.ref a_t_lines_oneEnd, .ref a_t_lines_otherEnd, .ref a_t_lines_miles, .ref a_t_lines_hours, .ref a_t_lines_spikesSet, .int t_lines_many, .int t_lines_rateOfSet, .int t_lines_rateOfOthers], ar E a_t_lines_miles 30 t_lines_miles, ar E a_t_lines_spikesSet 30 t_lines_spikesSet]) (E := E) (ci := 3) (v := .ref a_t_plan) (ty := .object "GaugeWeekend$Plan") (C := RX3) (T := TX3) (N := 3) hx hb hts iX3 tyX3 tyX3_ok nmX3 hown hK hP hD hS 0 rfl rfl 2 (by decide) w2 (fun _ h9 => h9) rfl (tyX3_ok 2 (by decide)) rfl rfl (Nat.le_of_ble_eq_true rfl) rfl dX3_takeDraft_15 (fun H locs hP hD hS => ?_)
  refine lv_aload_n hx hb dX3_takeDraft_18 rfl (lv_at hl 1 rfl) ?_
  refine va_get (D := kD E) (cl := vwCl) (tys := kT E) (ci := 3) (v := .ref a_t_draft) (C := RX3) (T := TX3) (N := 3) hx hb hts iX3 hown hK hP 0 rfl rfl 1 (by decide) w1 (fun _ h9 => h9) rfl dX3_takeDraft_19 ?_
  refine lv_aload_n hx hb dX3_takeDraft_22 rfl (lv_at hl 1 rfl) ?_
  refine va_get (D := kD E) (cl := vwCl) (tys := kT E) (ci := 3) (v := .ref a_t_lines) (C := RX3) (T := TX3) (N := 3) hx hb hts iX3 hown hK hP 0 rfl rfl 0 (by decide) w3 (fun _ h9 => h9) rfl dX3_takeDraft_23 ?_
  obtain ⟨o1, hc1, h⟩ := kbind h
  refine kcvV (l := l) (E := E) (wc := [oo a_t_draft 2 [.ref a_t_draft_lineOf, .ref a_t_draft_after, .ref a_t_draft_hours, .ref a_t_draft_gangs, .ref a_t_draft_begins, .ref a_t_draft_done, .int t_draft_many], ar E a_t_draft_after 30 t_draft_after, ar E a_t_draft_begins 30 t_draft_begins, ar E a_t_draft_done 30 t_draft_done, ar E a_t_draft_gangs 30 t_draft_gangs, ar E a_t_draft_hours 30 t_draft_hours, ar E a_t_draft_lineOf 30 t_draft_lineOf, oo a_t_lines 1 [.ref a_t_lines_oneEnd, .ref a_t_lines_otherEnd, .ref a_t_lines_miles, .ref a_t_lines_hours, .ref a_t_lines_spikesSet, .int t_lines_many, .int t_lines_rateOfSet, .int t_lines_rateOfOthers], ar E a_t_lines_miles 30 t_lines_miles, ar E a_t_lines_spikesSet 30 t_lines_spikesSet]) (w1 := [oo a_t_draft 2 [.ref a_t_draft_lineOf, .ref a_t_draft_after, .ref a_t_draft_hours, .ref a_t_draft_gangs, .ref a_t_draft_begins, .ref a_t_draft_done, .int t_draft_many], ar E a_t_draft_after 30 t_draft_after, ar E a_t_draft_begins 30 o1.1, ar E a_t_draft_done 30 o1.2, ar E a_t_draft_gangs 30 t_draft_gangs, ar E a_t_draft_hours 30 t_draft_hours, ar E a_t_draft_lineOf 30 t_draft_lineOf, oo a_t_lines 1 [.ref a_t_lines_oneEnd, .ref a_t_lines_otherEnd, .ref a_t_lines_miles, .ref a_t_lines_hours, .ref a_t_lines_spikesSet, .int t_lines_many, .int t_lines_rateOfSet, .int t_lines_rateOfOthers], ar E a_t_lines_miles 30 t_lines_miles, ar E a_t_lines_spikesSet 30 t_lines_spikesSet]) (w' := [oo a_t 3 [.ref a_t_lines, .ref a_t_draft, .ref a_t_plan], oo a_t_draft 2 [.ref a_t_draft_lineOf, .ref a_t_draft_after, .ref a_t_draft_hours, .ref a_t_draft_gangs, .ref a_t_draft_begins, .ref a_t_draft_done, .int t_draft_many], ar E a_t_draft_after 30 t_draft_after, ar E a_t_draft_begins 30 o1.1, ar E a_t_draft_done 30 o1.2, ar E a_t_draft_gangs 30 t_draft_gangs, ar E a_t_draft_hours 30 t_draft_hours, ar E a_t_draft_lineOf 30 t_draft_lineOf, oo a_t_lines 1 [.ref a_t_lines_oneEnd, .ref a_t_lines_otherEnd, .ref a_t_lines_miles, .ref a_t_lines_hours, .ref a_t_lines_spikesSet, .int t_lines_many, .int t_lines_rateOfSet, .int t_lines_rateOfOthers], ar E a_t_lines_miles 30 t_lines_miles, ar E a_t_lines_spikesSet 30 t_lines_spikesSet]) (ads := [a_t_draft, a_t_draft_after, a_t_draft_begins, a_t_draft_done, a_t_draft_gangs, a_t_draft_hours, a_t_draft_lineOf, a_t_lines, a_t_lines_miles, a_t_lines_spikesSet]) (As := [.ref a_t_lines]) (rest := []) (kX2_reckon l E hc1) ⟨hx, hb, hml, hown, hts⟩ (cwV 1 hts gX3_takeDraft_X2_reckon rfl rfl rfl (by decide +kernel) ⟨by decide, by decide⟩) hE hP hD hS hA [1, 2, 3, 4, 5, 6, 7, 8, 9, 10] (by decide) rfl rfl rfl rfl rfl rfl rfl rfl hl.1 rfl (Nat.le_of_ble_eq_true rfl) dX3_takeDraft_26 ⟨Nat.zero_le _, Nat.zero_le _⟩ (fun H locs hP hD hS => ?_)
  exact hret _ (o1.1, o1.2) _ _ _ (Option.some.inj h) hP hS dX3_takeDraft_29
abbrev rmX3_departure : Room := { frames := 1, cells := 0, slots := 0, locals := 21 }
set_option maxHeartbeats 4000000 in
set_option maxRecDepth 100000 in
theorem kX3_departure (l : Launch) (E : KE) {a_t : Nat} {a_t_lines : Nat} {a_t_plan : Nat} {a_t_draft : Nat} {a_t_lines_oneEnd : Nat} {a_t_lines_otherEnd : Nat} {a_t_lines_miles : Nat} {a_t_lines_hours : Nat} {a_t_lines_spikesSet : Nat} {a_t_plan_lineOf : Nat} {a_t_plan_after : Nat} {a_t_plan_hours : Nat} {a_t_plan_gangs : Nat} {a_t_plan_begins : Nat} {a_t_plan_done : Nat} {p1 : Int32} {p2 : Int32} {p3 : Int32} {t_lines_many : Int32} {t_lines_rateOfSet : Int32} {t_lines_rateOfOthers : Int32} {t_lines_hours : Nat → Int32} {t_plan_many : Int32} {t_plan_begins : Nat → Int32} {t_plan_done : Nat → Int32} {out : Int32} (h : mX3_departure p1 p2 p3 t_lines_hours t_plan_begins t_plan_done = some out) : KI l E yX3_departure wsX3_departure rmX3_departure [.ref a_t, .int p1, .int p2, .int p3] [oo a_t 3 [.ref a_t_lines, .ref a_t_plan, .ref a_t_draft], oo a_t_lines 1 [.ref a_t_lines_oneEnd, .ref a_t_lines_otherEnd, .ref a_t_lines_miles, .ref a_t_lines_hours, .ref a_t_lines_spikesSet, .int t_lines_many, .int t_lines_rateOfSet, .int t_lines_rateOfOthers], ar E a_t_lines_hours 30 t_lines_hours, oo a_t_plan 2 [.ref a_t_plan_lineOf, .ref a_t_plan_after, .ref a_t_plan_hours, .ref a_t_plan_gangs, .ref a_t_plan_begins, .ref a_t_plan_done, .int t_plan_many], ar E a_t_plan_begins 30 t_plan_begins, ar E a_t_plan_done 30 t_plan_done] [oo a_t 3 [.ref a_t_lines, .ref a_t_plan, .ref a_t_draft], oo a_t_lines 1 [.ref a_t_lines_oneEnd, .ref a_t_lines_otherEnd, .ref a_t_lines_miles, .ref a_t_lines_hours, .ref a_t_lines_spikesSet, .int t_lines_many, .int t_lines_rateOfSet, .int t_lines_rateOfOthers], ar E a_t_lines_hours 30 t_lines_hours, oo a_t_plan 2 [.ref a_t_plan_lineOf, .ref a_t_plan_after, .ref a_t_plan_hours, .ref a_t_plan_gangs, .ref a_t_plan_begins, .ref a_t_plan_done, .int t_plan_many], ar E a_t_plan_begins 30 t_plan_begins, ar E a_t_plan_done 30 t_plan_done] out := by
  refine kmetI (T := Int32) (out := out) (wf := (fun (o : Int32) => [oo a_t 3 [.ref a_t_lines, .ref a_t_plan, .ref a_t_draft], oo a_t_lines 1 [.ref a_t_lines_oneEnd, .ref a_t_lines_otherEnd, .ref a_t_lines_miles, .ref a_t_lines_hours, .ref a_t_lines_spikesSet, .int t_lines_many, .int t_lines_rateOfSet, .int t_lines_rateOfOthers], ar E a_t_lines_hours 30 t_lines_hours, oo a_t_plan 2 [.ref a_t_plan_lineOf, .ref a_t_plan_after, .ref a_t_plan_hours, .ref a_t_plan_gangs, .ref a_t_plan_begins, .ref a_t_plan_done, .int t_plan_many], ar E a_t_plan_begins 30 t_plan_begins, ar E a_t_plan_done 30 t_plan_done])) (rf := (fun (o : Int32) => o)) (cc := cX3_departure) (maxL := 7) (ty := .int) (by decide) rfl (Nat.le_of_ble_eq_true rfl) ?_
  intro p e s m args below meth c A Q ls hx hb hml hts hown hE hP hD hS hA hl hret
  have hown : s.vm.findClass RX3 = some m.cls := hown
  have hK := hE.1
  have hl : lv_has ls 7 [(0, .ref a_t), (1, .int p1), (2, .int p2), (3, .int p3)] := hl
  have hP : va_P (kD E) vwCl [oo a_t 3 [.ref a_t_lines, .ref a_t_plan, .ref a_t_draft], oo a_t_lines 1 [.ref a_t_lines_oneEnd, .ref a_t_lines_otherEnd, .ref a_t_lines_miles, .ref a_t_lines_hours, .ref a_t_lines_spikesSet, .int t_lines_many, .int t_lines_rateOfSet, .int t_lines_rateOfOthers], ar E a_t_lines_hours 30 t_lines_hours, oo a_t_plan 2 [.ref a_t_plan_lineOf, .ref a_t_plan_after, .ref a_t_plan_hours, .ref a_t_plan_gangs, .ref a_t_plan_begins, .ref a_t_plan_done, .int t_plan_many], ar E a_t_plan_begins 30 t_plan_begins, ar E a_t_plan_done 30 t_plan_done] s.heap := hP
  have hD : va_D A [oo a_t 3 [.ref a_t_lines, .ref a_t_plan, .ref a_t_draft], oo a_t_lines 1 [.ref a_t_lines_oneEnd, .ref a_t_lines_otherEnd, .ref a_t_lines_miles, .ref a_t_lines_hours, .ref a_t_lines_spikesSet, .int t_lines_many, .int t_lines_rateOfSet, .int t_lines_rateOfOthers], ar E a_t_lines_hours 30 t_lines_hours, oo a_t_plan 2 [.ref a_t_plan_lineOf, .ref a_t_plan_after, .ref a_t_plan_hours, .ref a_t_plan_gangs, .ref a_t_plan_begins, .ref a_t_plan_done, .int t_plan_many], ar E a_t_plan_begins 30 t_plan_begins, ar E a_t_plan_done 30 t_plan_done] := hD
  have iX3 : ∀ w ∈ wsX30, w ∈ wsX3_departure := by decide +kernel
  have w1 := hts (.fieldLink RX3 21 "GaugeWeekend$Railway" "plan" "LGaugeWeekend$Plan;") (by decide +kernel)
  have iX2 : ∀ w ∈ wsX20, w ∈ wsX3_departure := by decide +kernel
  have w3 := hts (.initialized RX9) (by decide +kernel)
  have w4 := hts (.static yX9_at) (by decide +kernel)
  have w5 := hts (.methodLink RX3 55 Lib.Math.min.name) (by decide +kernel)
  have w6 := hts (.static Lib.Math.min.name) (by decide +kernel)
  have w7 := hts (.initialized "java/lang/Math") (by decide +kernel)
  have w8 := hts (.code Lib.Math.min.name Lib.Math.min.code 2 (some .int)) (by decide +kernel)
  have w9 := hts (.fieldLink RX3 12 "GaugeWeekend$Railway" "lines" "LGaugeWeekend$Lines;") (by decide +kernel)
  have iX1 : ∀ w ∈ wsX10, w ∈ wsX3_departure := by decide +kernel
  have J44 : ∀ (s0 : Int32) (v4 : Int32) (H : Heap) (locs : List Loc) (ls : Array Slot) (h : mX3_departure_J44 p1 t_lines_hours s0 v4 = some out) (hP : va_P (kD E) vwCl [oo a_t 3 [.ref a_t_lines, .ref a_t_plan, .ref a_t_draft], oo a_t_lines 1 [.ref a_t_lines_oneEnd, .ref a_t_lines_otherEnd, .ref a_t_lines_miles, .ref a_t_lines_hours, .ref a_t_lines_spikesSet, .int t_lines_many, .int t_lines_rateOfSet, .int t_lines_rateOfOthers], ar E a_t_lines_hours 30 t_lines_hours, oo a_t_plan 2 [.ref a_t_plan_lineOf, .ref a_t_plan_after, .ref a_t_plan_hours, .ref a_t_plan_gangs, .ref a_t_plan_begins, .ref a_t_plan_done, .int t_plan_many], ar E a_t_plan_begins 30 t_plan_begins, ar E a_t_plan_done 30 t_plan_done] H) (hD : va_D A [oo a_t 3 [.ref a_t_lines, .ref a_t_plan, .ref a_t_draft], oo a_t_lines 1 [.ref a_t_lines_oneEnd, .ref a_t_lines_otherEnd, .ref a_t_lines_miles, .ref a_t_lines_hours, .ref a_t_lines_spikesSet, .int t_lines_many, .int t_lines_rateOfSet, .int t_lines_rateOfOthers], ar E a_t_lines_hours 30 t_lines_hours, oo a_t_plan 2 [.ref a_t_plan_lineOf, .ref a_t_plan_after, .ref a_t_plan_hours, .ref a_t_plan_gangs, .ref a_t_plan_begins, .ref a_t_plan_done, .int t_plan_many], ar E a_t_plan_begins 30 t_plan_begins, ar E a_t_plan_done 30 t_plan_done]) (hS : va_S A s.heap H locs) (hl : lv_has ls 7 [(0, .ref a_t), (1, .int p1), (4, .int v4)]), W p l e rmX3_departure s m args below meth c H locs 0 0 Q (F0 m 44 ls [.int s0]) := by
    intro s0 v4 H locs ls h hP hD hS hl
    rw [mX3_departure_J44] at h
    refine lv_istore (lv' := [(5, .int s0), (0, .ref a_t), (1, .int p1), (4, .int v4)]) hx hb dX3_departure_44 hl (by decide) rfl (fun ls hl => ?_)
    refine lv_iload hx hb dX3_departure_46 (lv_at hl 0 rfl) ?_
    refine lv_aload_n hx hb dX3_departure_48 rfl (lv_at hl 1 rfl) ?_
    refine va_get (D := kD E) (cl := vwCl) (tys := kT E) (ci := 3) (v := .ref a_t_lines) (C := RX3) (T := TX3) (N := 3) hx hb hts iX3 hown hK hP 0 rfl rfl 0 (by decide) w9 (fun _ h9 => h9) rfl dX3_departure_49 ?_
    refine va_getN (D := kD E) (cl := vwCl) (tys := kT E) (ci := 1) (v := .ref a_t_lines_hours) (C := RX1) (T := TX1) (N := 8) hx hb hts iX1 hown hK hP 1 rfl rfl 3 (by decide) (nwf_0 hE.2.1) (fun _ h9 => h9) rfl dX3_departure_52 ?_
    refine lv_iload_n hx hb dX3_departure_55 rfl (lv_at hl 2 rfl) ?_
    refine kciN (l := l) (E := E) (wc := [ar E a_t_lines_hours 30 t_lines_hours]) (w1 := [ar E a_t_lines_hours 30 t_lines_hours]) (w' := [oo a_t 3 [.ref a_t_lines, .ref a_t_plan, .ref a_t_draft], oo a_t_lines 1 [.ref a_t_lines_oneEnd, .ref a_t_lines_otherEnd, .ref a_t_lines_miles, .ref a_t_lines_hours, .ref a_t_lines_spikesSet, .int t_lines_many, .int t_lines_rateOfSet, .int t_lines_rateOfOthers], ar E a_t_lines_hours 30 t_lines_hours, oo a_t_plan 2 [.ref a_t_plan_lineOf, .ref a_t_plan_after, .ref a_t_plan_hours, .ref a_t_plan_gangs, .ref a_t_plan_begins, .ref a_t_plan_done, .int t_plan_many], ar E a_t_plan_begins 30 t_plan_begins, ar E a_t_plan_done 30 t_plan_done]) (ads := [a_t_lines_hours]) (r := (mX9_at 30 p1 t_lines_hours)) (As := [.ref a_t_lines_hours, .int p1]) (rest := [.int s0]) (kX9_at l E (hn_q0 := (Nat.le_of_ble_eq_true rfl)) rfl) ⟨hx, hb, hml, hown, hts⟩ ⟨va_cnB 2 hts gX3_departure_X9_at_n40 rfl rfl rfl (nwm_22 hE.2.1) w3 (by decide +kernel) ⟨by decide, by decide⟩, w4, trivial⟩ hE hP hD hS hA [2] (by decide) rfl rfl rfl rfl  rfl hl.1 rfl (Nat.le_of_ble_eq_true rfl) dX3_departure_56 ⟨Nat.zero_le _, Nat.zero_le _⟩ (fun H locs hP hD hS => ?_)
    refine lv_isub hx hb dX3_departure_59 ?_
    refine lv_istore (lv' := [(6, .int (s0 - (mX9_at 30 p1 t_lines_hours))), (5, .int s0), (0, .ref a_t), (1, .int p1), (4, .int v4)]) hx hb dX3_departure_60 hl (by decide) rfl (fun ls hl => ?_)
    refine lv_iload hx hb dX3_departure_62 (lv_at hl 0 rfl) ?_
    refine lv_iload hx hb dX3_departure_64 (lv_at hl 4 rfl) ?_
    refine lv_icmp_ge (tgt := 73) hx hb dX3_departure_66 (by decide) (fun c_5 => ?_) (fun c_5 => ?_)
    · have h := (if_pos c_5).symm.trans h
      refine lv_iload hx hb dX3_departure_73 (lv_at hl 0 rfl) ?_
      exact hret _ _ (s0 - (mX9_at 30 p1 t_lines_hours)) _ _ _ (Option.some.inj h) rfl rfl hP hS dX3_departure_75
    · have h := (if_neg c_5).symm.trans h
      refine lv_iconst (v := (iI (-1))) hx hb dX3_departure_69 (by decide) ?_
      refine lv_goto (tgt := 75) hx hb dX3_departure_70 (by decide) ?_
      exact hret _ _ (iI (-1)) _ _ _ (Option.some.inj h) rfl rfl hP hS dX3_departure_75
  have J19 : ∀ (s0 : Int32) (H : Heap) (locs : List Loc) (ls : Array Slot) (h : mX3_departure_J19 p1 p2 p3 t_lines_hours t_plan_begins s0 = some out) (hP : va_P (kD E) vwCl [oo a_t 3 [.ref a_t_lines, .ref a_t_plan, .ref a_t_draft], oo a_t_lines 1 [.ref a_t_lines_oneEnd, .ref a_t_lines_otherEnd, .ref a_t_lines_miles, .ref a_t_lines_hours, .ref a_t_lines_spikesSet, .int t_lines_many, .int t_lines_rateOfSet, .int t_lines_rateOfOthers], ar E a_t_lines_hours 30 t_lines_hours, oo a_t_plan 2 [.ref a_t_plan_lineOf, .ref a_t_plan_after, .ref a_t_plan_hours, .ref a_t_plan_gangs, .ref a_t_plan_begins, .ref a_t_plan_done, .int t_plan_many], ar E a_t_plan_begins 30 t_plan_begins, ar E a_t_plan_done 30 t_plan_done] H) (hD : va_D A [oo a_t 3 [.ref a_t_lines, .ref a_t_plan, .ref a_t_draft], oo a_t_lines 1 [.ref a_t_lines_oneEnd, .ref a_t_lines_otherEnd, .ref a_t_lines_miles, .ref a_t_lines_hours, .ref a_t_lines_spikesSet, .int t_lines_many, .int t_lines_rateOfSet, .int t_lines_rateOfOthers], ar E a_t_lines_hours 30 t_lines_hours, oo a_t_plan 2 [.ref a_t_plan_lineOf, .ref a_t_plan_after, .ref a_t_plan_hours, .ref a_t_plan_gangs, .ref a_t_plan_begins, .ref a_t_plan_done, .int t_plan_many], ar E a_t_plan_begins 30 t_plan_begins, ar E a_t_plan_done 30 t_plan_done]) (hS : va_S A s.heap H locs) (hl : lv_has ls 7 [(0, .ref a_t), (1, .int p1), (2, .int p2), (3, .int p3)]), W p l e rmX3_departure s m args below meth c H locs 0 0 Q (F0 m 19 ls [.int s0]) := by
    intro s0 H locs ls h hP hD hS hl
    rw [mX3_departure_J19] at h
    refine lv_istore (lv' := [(4, .int s0), (0, .ref a_t), (1, .int p1), (2, .int p2), (3, .int p3)]) hx hb dX3_departure_19 hl (by decide) rfl (fun ls hl => ?_)
    refine lv_iload_n hx hb dX3_departure_21 rfl (lv_at hl 3 rfl) ?_
    refine lv_if_eq (tgt := 29) hx hb dX3_departure_22 (by decide) (fun c_2 => ?_) (fun c_2 => ?_)
    · have h := (if_pos c_2).symm.trans h
      refine lv_iload_n hx hb dX3_departure_29 rfl (lv_at hl 4 rfl) ?_
      refine lv_aload_n hx hb dX3_departure_30 rfl (lv_at hl 1 rfl) ?_
      refine va_get (D := kD E) (cl := vwCl) (tys := kT E) (ci := 3) (v := .ref a_t_plan) (C := RX3) (T := TX3) (N := 3) hx hb hts iX3 hown hK hP 0 rfl rfl 1 (by decide) w1 (fun _ h9 => h9) rfl dX3_departure_31 ?_
      refine va_getN (D := kD E) (cl := vwCl) (tys := kT E) (ci := 2) (v := .ref a_t_plan_begins) (C := RX2) (T := TX2) (N := 7) hx hb hts iX2 hown hK hP 3 rfl rfl 4 (by decide) (nwf_4 hE.2.1) (fun _ h9 => h9) rfl dX3_departure_34 ?_
      refine lv_iload_n hx hb dX3_departure_37 rfl (lv_at hl 2 rfl) ?_
      refine kciN (l := l) (E := E) (wc := [ar E a_t_plan_begins 30 t_plan_begins]) (w1 := [ar E a_t_plan_begins 30 t_plan_begins]) (w' := [oo a_t 3 [.ref a_t_lines, .ref a_t_plan, .ref a_t_draft], oo a_t_lines 1 [.ref a_t_lines_oneEnd, .ref a_t_lines_otherEnd, .ref a_t_lines_miles, .ref a_t_lines_hours, .ref a_t_lines_spikesSet, .int t_lines_many, .int t_lines_rateOfSet, .int t_lines_rateOfOthers], ar E a_t_lines_hours 30 t_lines_hours, oo a_t_plan 2 [.ref a_t_plan_lineOf, .ref a_t_plan_after, .ref a_t_plan_hours, .ref a_t_plan_gangs, .ref a_t_plan_begins, .ref a_t_plan_done, .int t_plan_many], ar E a_t_plan_begins 30 t_plan_begins, ar E a_t_plan_done 30 t_plan_done]) (ads := [a_t_plan_begins]) (r := (mX9_at 30 p1 t_plan_begins)) (As := [.ref a_t_plan_begins, .int p1]) (rest := [.int p3]) (kX9_at l E (hn_q0 := (Nat.le_of_ble_eq_true rfl)) rfl) ⟨hx, hb, hml, hown, hts⟩ ⟨va_cnB 2 hts gX3_departure_X9_at_n40 rfl rfl rfl (nwm_22 hE.2.1) w3 (by decide +kernel) ⟨by decide, by decide⟩, w4, trivial⟩ hE hP hD hS hA [4] (by decide) rfl rfl rfl rfl  rfl hl.1 rfl (Nat.le_of_ble_eq_true rfl) dX3_departure_38 ⟨Nat.zero_le _, Nat.zero_le _⟩ (fun H locs hP hD hS => ?_)
      refine va_mmin hx hb (hml.trans hl.1.symm) hown w5 w6 w7 w8 (Nat.le_of_ble_eq_true rfl) (Nat.le_of_ble_eq_true rfl) (Nat.zero_le _) (Nat.zero_le _) dX3_departure_41 ?_
      exact J44 (if (mX9_at 30 p1 t_plan_begins) < p3 then (mX9_at 30 p1 t_plan_begins) else p3) s0 _ _ _ h hP hD hS (lv_sub hl [1, 2, 0] rfl)
    · have h := (if_neg c_2).symm.trans h
      refine lv_iload_n hx hb dX3_departure_25 rfl (lv_at hl 4 rfl) ?_
      refine lv_goto (tgt := 44) hx hb dX3_departure_26 (by decide) ?_
      exact J44 p3 s0 _ _ _ h hP hD hS (lv_sub hl [1, 2, 0] rfl)
  rw [mX3_departure] at h
  refine lv_iload_n hx hb dX3_departure_0 rfl (lv_at hl 2 rfl) ?_
  refine lv_if_eq (tgt := 18) hx hb dX3_departure_1 (by decide) (fun c_1 => ?_) (fun c_1 => ?_)
  · have h := (if_pos c_1).symm.trans h
    refine lv_iconst (v := (iI 0)) hx hb dX3_departure_18 (by decide) ?_
    exact J19 (iI 0) _ _ _ h hP hD hS (lv_sub hl [0, 1, 2, 3] rfl)
  · have h := (if_neg c_1).symm.trans h
    refine lv_aload_n hx hb dX3_departure_4 rfl (lv_at hl 0 rfl) ?_
    refine va_get (D := kD E) (cl := vwCl) (tys := kT E) (ci := 3) (v := .ref a_t_plan) (C := RX3) (T := TX3) (N := 3) hx hb hts iX3 hown hK hP 0 rfl rfl 1 (by decide) w1 (fun _ h9 => h9) rfl dX3_departure_5 ?_
    refine va_getN (D := kD E) (cl := vwCl) (tys := kT E) (ci := 2) (v := .ref a_t_plan_done) (C := RX2) (T := TX2) (N := 7) hx hb hts iX2 hown hK hP 3 rfl rfl 5 (by decide) (nwf_5 hE.2.1) (fun _ h9 => h9) rfl dX3_departure_8 ?_
    refine lv_iload_n hx hb dX3_departure_11 rfl (lv_at hl 1 rfl) ?_
    refine kciN (l := l) (E := E) (wc := [ar E a_t_plan_done 30 t_plan_done]) (w1 := [ar E a_t_plan_done 30 t_plan_done]) (w' := [oo a_t 3 [.ref a_t_lines, .ref a_t_plan, .ref a_t_draft], oo a_t_lines 1 [.ref a_t_lines_oneEnd, .ref a_t_lines_otherEnd, .ref a_t_lines_miles, .ref a_t_lines_hours, .ref a_t_lines_spikesSet, .int t_lines_many, .int t_lines_rateOfSet, .int t_lines_rateOfOthers], ar E a_t_lines_hours 30 t_lines_hours, oo a_t_plan 2 [.ref a_t_plan_lineOf, .ref a_t_plan_after, .ref a_t_plan_hours, .ref a_t_plan_gangs, .ref a_t_plan_begins, .ref a_t_plan_done, .int t_plan_many], ar E a_t_plan_begins 30 t_plan_begins, ar E a_t_plan_done 30 t_plan_done]) (ads := [a_t_plan_done]) (r := (mX9_at 30 p1 t_plan_done)) (As := [.ref a_t_plan_done, .int p1]) (rest := []) (kX9_at l E (hn_q0 := (Nat.le_of_ble_eq_true rfl)) rfl) ⟨hx, hb, hml, hown, hts⟩ ⟨va_cnB 2 hts gX3_departure_X9_at_n40 rfl rfl rfl (nwm_22 hE.2.1) w3 (by decide +kernel) ⟨by decide, by decide⟩, w4, trivial⟩ hE hP hD hS hA [5] (by decide) rfl rfl rfl rfl  rfl hl.1 rfl (Nat.le_of_ble_eq_true rfl) dX3_departure_12 ⟨Nat.zero_le _, Nat.zero_le _⟩ (fun H locs hP hD hS => ?_)
    refine lv_goto (tgt := 19) hx hb dX3_departure_15 (by decide) ?_
    exact J19 (mX9_at 30 p1 t_plan_done) _ _ _ h hP hD hS (lv_sub hl [0, 1, 2, 3] rfl)
