abbrev rmX5_setPushers : Room := { frames := 2, cells := 0, slots := 0, locals := 42 }
set_option maxHeartbeats 4000000 in
set_option maxRecDepth 100000 in
theorem kX5_setPushers (l : Launch) (E : KE) {a_t : Nat} {a_t_pushers : Nat} {a_t_hoursLeft : Nat} {a_t_slotOf : Nat} {a_t_wantedBy : Nat} {a_t_queue : Nat} {a_t_hoursSeen : Nat} {p1 : Int32} {p2 : Int32} {t_queued : Int32} {t_hasLatest : Int32} {t_pushers : Nat → Int32} {out : Int32 × (Nat → Int32)} (h : mX5_setPushers p1 p2 t_pushers = some out) : KI l E yX5_setPushers wsX5_setPushers rmX5_setPushers [.ref a_t, .int p1, .int p2] [oo a_t 5 [.ref a_t_pushers, .ref a_t_hoursLeft, .ref a_t_slotOf, .ref a_t_wantedBy, .ref a_t_queue, .ref a_t_hoursSeen, .int t_queued, .int t_hasLatest], ar E a_t_pushers 16 t_pushers] [oo a_t 5 [.ref a_t_pushers, .ref a_t_hoursLeft, .ref a_t_slotOf, .ref a_t_wantedBy, .ref a_t_queue, .ref a_t_hoursSeen, .int t_queued, .int t_hasLatest], ar E a_t_pushers 16 out.2] out.1 := by
  refine kmetI (T := Int32 × (Nat → Int32)) (out := out) (wf := (fun (o : Int32 × (Nat → Int32)) => [oo a_t 5 [.ref a_t_pushers, .ref a_t_hoursLeft, .ref a_t_slotOf, .ref a_t_wantedBy, .ref a_t_queue, .ref a_t_hoursSeen, .int t_queued, .int t_hasLatest], ar E a_t_pushers 16 o.2])) (rf := (fun (o : Int32 × (Nat → Int32)) => o.1)) (cc := cX5_setPushers) (maxL := 4) (ty := .int) (by decide) rfl (Nat.le_of_ble_eq_true rfl) ?_
  intro p e s m args below meth c A Q ls hx hb hml hts hown hE hP hD hS hA hl hret
  have hown : s.vm.findClass RX5 = some m.cls := hown
  have hK := hE.1
  have hl : lv_has ls 4 [(0, .ref a_t), (1, .int p1), (2, .int p2)] := hl
  have hP : va_P (kD E) vwCl [oo a_t 5 [.ref a_t_pushers, .ref a_t_hoursLeft, .ref a_t_slotOf, .ref a_t_wantedBy, .ref a_t_queue, .ref a_t_hoursSeen, .int t_queued, .int t_hasLatest], ar E a_t_pushers 16 t_pushers] s.heap := hP
  have hD : va_D A [oo a_t 5 [.ref a_t_pushers, .ref a_t_hoursLeft, .ref a_t_slotOf, .ref a_t_wantedBy, .ref a_t_queue, .ref a_t_hoursSeen, .int t_queued, .int t_hasLatest], ar E a_t_pushers 16 t_pushers] := hD
  have w0 := hts (.initialized RX9) (by decide +kernel)
  have w1 := hts (.static yX9_isPlace) (by decide +kernel)
  have w2 := hts (.static yX9_isWithin) (by decide +kernel)
  have iX5 : ∀ w ∈ wsX50, w ∈ wsX5_setPushers := by decide +kernel
  have w4 := hts (.fieldLink RX5 9 "GaugeWeekend$Shops" "pushers" "[I") (by decide +kernel)
  have w5 := hts (.static yX9_at) (by decide +kernel)
  have w6 := hts (.static yX9_put) (by decide +kernel)
  rw [mX5_setPushers] at h
  refine lv_iload_n hx hb dX5_setPushers_0 rfl (lv_at hl 1 rfl) ?_
  refine kciN (l := l) (E := E) (wc := []) (w1 := []) (w' := [oo a_t 5 [.ref a_t_pushers, .ref a_t_hoursLeft, .ref a_t_slotOf, .ref a_t_wantedBy, .ref a_t_queue, .ref a_t_hoursSeen, .int t_queued, .int t_hasLatest], ar E a_t_pushers 16 t_pushers]) (ads := []) (r := (mX9_isPlace p1)) (As := [.int p1]) (rest := []) (kX9_isPlace l E rfl) ⟨hx, hb, hml, hown, hts⟩ ⟨va_cnB 1 hts gX5_setPushers_X9_isPlace_n38 rfl rfl rfl (nwm_23 hE.2.1) w0 (by decide +kernel) ⟨by decide, by decide⟩, w1, trivial⟩ hE hP hD hS hA [] (by decide) rfl rfl rfl rfl  rfl hl.1 rfl (Nat.le_of_ble_eq_true rfl) dX5_setPushers_1 ⟨Nat.zero_le _, Nat.zero_le _⟩ (fun H locs hP hD hS => ?_)
  refine lv_if_eq (tgt := 17) hx hb dX5_setPushers_4 (by decide) (fun c_2 => ?_) (fun c_2 => ?_)
  · have h := (if_pos c_2).symm.trans h
    refine lv_iconst (v := (iI (-1))) hx hb dX5_setPushers_17 (by decide) ?_
    exact hret _ _ ((iI (-1)), t_pushers) _ _ _ (Option.some.inj h) rfl rfl hP hS dX5_setPushers_18
  · have h := (if_neg c_2).symm.trans h
    refine lv_iload_n hx hb dX5_setPushers_7 rfl (lv_at hl 2 rfl) ?_
    refine lv_iconst (v := (iI 0)) hx hb dX5_setPushers_8 (by decide) ?_
    refine lv_bipush (v := (iI 9)) hx hb dX5_setPushers_9 (by decide) ?_
    refine kciN (l := l) (E := E) (wc := []) (w1 := []) (w' := [oo a_t 5 [.ref a_t_pushers, .ref a_t_hoursLeft, .ref a_t_slotOf, .ref a_t_wantedBy, .ref a_t_queue, .ref a_t_hoursSeen, .int t_queued, .int t_hasLatest], ar E a_t_pushers 16 t_pushers]) (ads := []) (r := (mX9_isWithin p2 (iI 0) (iI 9))) (As := [.int p2, .int (iI 0), .int (iI 9)]) (rest := []) (kX9_isWithin l E rfl) ⟨hx, hb, hml, hown, hts⟩ ⟨va_cnB 3 hts gX5_setPushers_X9_isWithin_n42 rfl rfl rfl (nwm_24 hE.2.1) w0 (by decide +kernel) ⟨by decide, by decide⟩, w2, trivial⟩ hE hP hD hS hA [] (by decide) rfl rfl rfl rfl  rfl hl.1 rfl (Nat.le_of_ble_eq_true rfl) dX5_setPushers_11 ⟨Nat.zero_le _, Nat.zero_le _⟩ (fun H locs hP hD hS => ?_)
    refine lv_if_ne (tgt := 19) hx hb dX5_setPushers_14 (by decide) (fun c_4 => ?_) (fun c_4 => ?_)
    · have h := (if_neg c_4).symm.trans h
      refine lv_aload_n hx hb dX5_setPushers_19 rfl (lv_at hl 0 rfl) ?_
      refine va_get (D := kD E) (cl := vwCl) (tys := kT E) (ci := 5) (v := .ref a_t_pushers) (C := RX5) (T := TX5) (N := 8) hx hb hts iX5 hown hK hP 0 rfl rfl 0 (by decide) w4 (fun _ h9 => h9) rfl dX5_setPushers_20 ?_
      refine lv_iload_n hx hb dX5_setPushers_23 rfl (lv_at hl 1 rfl) ?_
      refine kciN (l := l) (E := E) (wc := [ar E a_t_pushers 16 t_pushers]) (w1 := [ar E a_t_pushers 16 t_pushers]) (w' := [oo a_t 5 [.ref a_t_pushers, .ref a_t_hoursLeft, .ref a_t_slotOf, .ref a_t_wantedBy, .ref a_t_queue, .ref a_t_hoursSeen, .int t_queued, .int t_hasLatest], ar E a_t_pushers 16 t_pushers]) (ads := [a_t_pushers]) (r := (mX9_at 16 p1 t_pushers)) (As := [.ref a_t_pushers, .int p1]) (rest := []) (kX9_at l E (hn_q0 := (Nat.le_of_ble_eq_true rfl)) rfl) ⟨hx, hb, hml, hown, hts⟩ ⟨va_cnB 2 hts gX5_setPushers_X9_at_n46 rfl rfl rfl (nwm_25 hE.2.1) w0 (by decide +kernel) ⟨by decide, by decide⟩, w5, trivial⟩ hE hP hD hS hA [1] (by decide) rfl rfl rfl rfl  rfl hl.1 rfl (Nat.le_of_ble_eq_true rfl) dX5_setPushers_24 ⟨Nat.zero_le _, Nat.zero_le _⟩ (fun H locs hP hD hS => ?_)
      refine lv_istore_n (lv' := [(3, .int (mX9_at 16 p1 t_pushers)), (0, .ref a_t), (1, .int p1), (2, .int p2)]) hx hb dX5_setPushers_27 rfl hl (by decide) rfl (fun ls hl => ?_)
      refine lv_aload_n hx hb dX5_setPushers_28 rfl (lv_at hl 1 rfl) ?_
      refine va_get (D := kD E) (cl := vwCl) (tys := kT E) (ci := 5) (v := .ref a_t_pushers) (C := RX5) (T := TX5) (N := 8) hx hb hts iX5 hown hK hP 0 rfl rfl 0 (by decide) w4 (fun _ h9 => h9) rfl dX5_setPushers_29 ?_
      refine lv_iload_n hx hb dX5_setPushers_32 rfl (lv_at hl 2 rfl) ?_
      refine lv_iload_n hx hb dX5_setPushers_33 rfl (lv_at hl 3 rfl) ?_
      refine kcvN (l := l) (E := E) (wc := [ar E a_t_pushers 16 t_pushers]) (w1 := [ar E a_t_pushers 16 (mX9_put 16 p1 p2 t_pushers)]) (w' := [oo a_t 5 [.ref a_t_pushers, .ref a_t_hoursLeft, .ref a_t_slotOf, .ref a_t_wantedBy, .ref a_t_queue, .ref a_t_hoursSeen, .int t_queued, .int t_hasLatest], ar E a_t_pushers 16 (mX9_put 16 p1 p2 t_pushers)]) (ads := [a_t_pushers]) (As := [.ref a_t_pushers, .int p1, .int p2]) (rest := []) (kX9_put l E (hn_q0 := (Nat.le_of_ble_eq_true rfl)) rfl) ⟨hx, hb, hml, hown, hts⟩ ⟨va_cnB 3 hts gX5_setPushers_X9_put_n50 rfl rfl rfl (nwm_26 hE.2.1) w0 (by decide +kernel) ⟨by decide, by decide⟩, w6, trivial⟩ hE hP hD hS hA [1] (by decide) rfl rfl rfl rfl  rfl hl.1 rfl (Nat.le_of_ble_eq_true rfl) dX5_setPushers_34 ⟨Nat.zero_le _, Nat.zero_le _⟩ (fun H locs hP hD hS => ?_)
      refine lv_iload_n hx hb dX5_setPushers_37 rfl (lv_at hl 0 rfl) ?_
      exact hret _ _ ((mX9_at 16 p1 t_pushers), (mX9_put 16 p1 p2 t_pushers)) _ _ _ (Option.some.inj h) rfl rfl hP hS dX5_setPushers_38
    · have h := (if_pos c_4).symm.trans h
      refine lv_iconst (v := (iI (-1))) hx hb dX5_setPushers_17 (by decide) ?_
      exact hret _ _ ((iI (-1)), t_pushers) _ _ _ (Option.some.inj h) rfl rfl hP hS dX5_setPushers_18
abbrev rmX5_isInLatest : Room := { frames := 1, cells := 0, slots := 0, locals := 21 }
set_option maxHeartbeats 4000000 in
set_option maxRecDepth 100000 in
theorem kX5_isInLatest (l : Launch) (E : KE) {a_t : Nat} {a_t_pushers : Nat} {a_t_hoursLeft : Nat} {a_t_slotOf : Nat} {a_t_wantedBy : Nat} {a_t_queue : Nat} {a_t_hoursSeen : Nat} {p1 : Int32} {t_queued : Int32} {t_hasLatest : Int32} {t_slotOf : Nat → Int32} {out : Int32} (h : mX5_isInLatest p1 t_hasLatest t_slotOf = out) : KI l E yX5_isInLatest wsX5_isInLatest rmX5_isInLatest [.ref a_t, .int p1] [oo a_t 5 [.ref a_t_pushers, .ref a_t_hoursLeft, .ref a_t_slotOf, .ref a_t_wantedBy, .ref a_t_queue, .ref a_t_hoursSeen, .int t_queued, .int t_hasLatest], ar E a_t_slotOf 30 t_slotOf] [oo a_t 5 [.ref a_t_pushers, .ref a_t_hoursLeft, .ref a_t_slotOf, .ref a_t_wantedBy, .ref a_t_queue, .ref a_t_hoursSeen, .int t_queued, .int t_hasLatest], ar E a_t_slotOf 30 t_slotOf] out := by
  refine kmetI (T := Int32) (out := out) (wf := (fun (o : Int32) => [oo a_t 5 [.ref a_t_pushers, .ref a_t_hoursLeft, .ref a_t_slotOf, .ref a_t_wantedBy, .ref a_t_queue, .ref a_t_hoursSeen, .int t_queued, .int t_hasLatest], ar E a_t_slotOf 30 t_slotOf])) (rf := (fun (o : Int32) => o)) (cc := cX5_isInLatest) (maxL := 2) (ty := .int) (by decide) rfl (Nat.le_of_ble_eq_true rfl) ?_
  intro p e s m args below meth c A Q ls hx hb hml hts hown hE hP hD hS hA hl hret
  have hown : s.vm.findClass RX5 = some m.cls := hown
  have hK := hE.1
  have hl : lv_has ls 2 [(0, .ref a_t), (1, .int p1)] := hl
  have hP : va_P (kD E) vwCl [oo a_t 5 [.ref a_t_pushers, .ref a_t_hoursLeft, .ref a_t_slotOf, .ref a_t_wantedBy, .ref a_t_queue, .ref a_t_hoursSeen, .int t_queued, .int t_hasLatest], ar E a_t_slotOf 30 t_slotOf] s.heap := hP
  have hD : va_D A [oo a_t 5 [.ref a_t_pushers, .ref a_t_hoursLeft, .ref a_t_slotOf, .ref a_t_wantedBy, .ref a_t_queue, .ref a_t_hoursSeen, .int t_queued, .int t_hasLatest], ar E a_t_slotOf 30 t_slotOf] := hD
  have iX5 : ∀ w ∈ wsX50, w ∈ wsX5_isInLatest := by decide +kernel
  have w1 := hts (.fieldLink RX5 34 "GaugeWeekend$Shops" "hasLatest" "Z") (by decide +kernel)
  have w2 := hts (.fieldLink RX5 18 "GaugeWeekend$Shops" "slotOf" "[I") (by decide +kernel)
  have w3 := hts (.initialized RX9) (by decide +kernel)
  have w4 := hts (.static yX9_at) (by decide +kernel)
  rw [mX5_isInLatest] at h
  refine lv_aload_n hx hb dX5_isInLatest_0 rfl (lv_at hl 0 rfl) ?_
  refine va_get (D := kD E) (cl := vwCl) (tys := kT E) (ci := 5) (v := .int t_hasLatest) (C := RX5) (T := TX5) (N := 8) hx hb hts iX5 hown hK hP 0 rfl rfl 7 (by decide) w1 (fun _ h9 => h9) rfl dX5_isInLatest_1 ?_
  refine lv_if_ne (tgt := 9) hx hb dX5_isInLatest_4 (by decide) (fun c_1 => ?_) (fun c_1 => ?_)
  · have h := (if_neg c_1).symm.trans h
    refine lv_aload_n hx hb dX5_isInLatest_9 rfl (lv_at hl 0 rfl) ?_
    refine va_get (D := kD E) (cl := vwCl) (tys := kT E) (ci := 5) (v := .ref a_t_slotOf) (C := RX5) (T := TX5) (N := 8) hx hb hts iX5 hown hK hP 0 rfl rfl 2 (by decide) w2 (fun _ h9 => h9) rfl dX5_isInLatest_10 ?_
    refine lv_iload_n hx hb dX5_isInLatest_13 rfl (lv_at hl 1 rfl) ?_
    refine kciN (l := l) (E := E) (wc := [ar E a_t_slotOf 30 t_slotOf]) (w1 := [ar E a_t_slotOf 30 t_slotOf]) (w' := [oo a_t 5 [.ref a_t_pushers, .ref a_t_hoursLeft, .ref a_t_slotOf, .ref a_t_wantedBy, .ref a_t_queue, .ref a_t_hoursSeen, .int t_queued, .int t_hasLatest], ar E a_t_slotOf 30 t_slotOf]) (ads := [a_t_slotOf]) (r := (mX9_at 30 p1 t_slotOf)) (As := [.ref a_t_slotOf, .int p1]) (rest := []) (kX9_at l E (hn_q0 := (Nat.le_of_ble_eq_true rfl)) rfl) ⟨hx, hb, hml, hown, hts⟩ ⟨va_cnB 2 hts gX5_isInLatest_X9_at_n46 rfl rfl rfl (nwm_25 hE.2.1) w3 (by decide +kernel) ⟨by decide, by decide⟩, w4, trivial⟩ hE hP hD hS hA [1] (by decide) rfl rfl rfl rfl  rfl hl.1 rfl (Nat.le_of_ble_eq_true rfl) dX5_isInLatest_14 ⟨Nat.zero_le _, Nat.zero_le _⟩ (fun H locs hP hD hS => ?_)
    refine lv_iconst (v := (iI (-1))) hx hb dX5_isInLatest_17 (by decide) ?_
    refine lv_icmp_ne (tgt := 25) hx hb dX5_isInLatest_18 (by decide) (fun c_3 => ?_) (fun c_3 => ?_)
    · have h := (if_neg c_3).symm.trans h
      refine lv_iconst (v := (iI 1)) hx hb dX5_isInLatest_25 (by decide) ?_
      exact hret _ _ (iI 1) _ _ _ h rfl rfl hP hS dX5_isInLatest_26
    · have h := (if_pos c_3).symm.trans h
      refine lv_iconst (v := (iI 0)) hx hb dX5_isInLatest_21 (by decide) ?_
      refine lv_goto (tgt := 26) hx hb dX5_isInLatest_22 (by decide) ?_
      exact hret _ _ (iI 0) _ _ _ h rfl rfl hP hS dX5_isInLatest_26
  · have h := (if_pos c_1).symm.trans h
    refine lv_iconst (v := (iI (-1))) hx hb dX5_isInLatest_7 (by decide) ?_
    exact hret _ _ (iI (-1)) _ _ _ h rfl rfl hP hS dX5_isInLatest_8
abbrev rmX5_reckonHoursLeft : Room := { frames := 2, cells := 0, slots := 0, locals := 42 }
set_option maxHeartbeats 4000000 in
set_option maxRecDepth 100000 in
theorem kX5_reckonHoursLeft (l : Launch) (E : KE) {a_t : Nat} {a_t_pushers : Nat} {a_t_hoursLeft : Nat} {a_t_slotOf : Nat} {a_t_wantedBy : Nat} {a_t_queue : Nat} {a_t_hoursSeen : Nat} {a_q1 : Nat} {a_q1_placeOf : Nat} {a_q1_hourOf : Nat} {a_q1_first : Nat} {p2 : Int32} {p3 : Int32} {t_queued : Int32} {t_hasLatest : Int32} {t_hoursLeft : Nat → Int32} {t_pushers : Nat → Int32} {q1_many : Int32} {q1_first : Nat → Int32} {out : (Nat → Int32)} (h : mX5_reckonHoursLeft p2 p3 t_hoursLeft t_pushers q1_first = some out) : KV l E yX5_reckonHoursLeft wsX5_reckonHoursLeft rmX5_reckonHoursLeft [.ref a_t, .ref a_q1, .int p2, .int p3] [oo a_t 5 [.ref a_t_pushers, .ref a_t_hoursLeft, .ref a_t_slotOf, .ref a_t_wantedBy, .ref a_t_queue, .ref a_t_hoursSeen, .int t_queued, .int t_hasLatest], ar E a_t_hoursLeft 480 t_hoursLeft, ar E a_t_pushers 16 t_pushers, oo a_q1 0 [.ref a_q1_placeOf, .ref a_q1_hourOf, .ref a_q1_first, .int q1_many], ar E a_q1_first 16 q1_first] [oo a_t 5 [.ref a_t_pushers, .ref a_t_hoursLeft, .ref a_t_slotOf, .ref a_t_wantedBy, .ref a_t_queue, .ref a_t_hoursSeen, .int t_queued, .int t_hasLatest], ar E a_t_hoursLeft 480 out, ar E a_t_pushers 16 t_pushers, oo a_q1 0 [.ref a_q1_placeOf, .ref a_q1_hourOf, .ref a_q1_first, .int q1_many], ar E a_q1_first 16 q1_first] := by
  refine kmetV (T := (Nat → Int32)) (out := out) (wf := (fun (o : (Nat → Int32)) => [oo a_t 5 [.ref a_t_pushers, .ref a_t_hoursLeft, .ref a_t_slotOf, .ref a_t_wantedBy, .ref a_t_queue, .ref a_t_hoursSeen, .int t_queued, .int t_hasLatest], ar E a_t_hoursLeft 480 o, ar E a_t_pushers 16 t_pushers, oo a_q1 0 [.ref a_q1_placeOf, .ref a_q1_hourOf, .ref a_q1_first, .int q1_many], ar E a_q1_first 16 q1_first])) (cc := cX5_reckonHoursLeft) (maxL := 6) (by decide) rfl (Nat.le_of_ble_eq_true rfl) ?_
  intro p e s m args below meth c A Q ls hx hb hml hts hown hE hP hD hS hA hl hret
  have hown : s.vm.findClass RX5 = some m.cls := hown
  have hK := hE.1
  have hl : lv_has ls 6 [(0, .ref a_t), (1, .ref a_q1), (2, .int p2), (3, .int p3)] := hl
  have hP : va_P (kD E) vwCl [oo a_t 5 [.ref a_t_pushers, .ref a_t_hoursLeft, .ref a_t_slotOf, .ref a_t_wantedBy, .ref a_t_queue, .ref a_t_hoursSeen, .int t_queued, .int t_hasLatest], ar E a_t_hoursLeft 480 t_hoursLeft, ar E a_t_pushers 16 t_pushers, oo a_q1 0 [.ref a_q1_placeOf, .ref a_q1_hourOf, .ref a_q1_first, .int q1_many], ar E a_q1_first 16 q1_first] s.heap := hP
  have hD : va_D A [oo a_t 5 [.ref a_t_pushers, .ref a_t_hoursLeft, .ref a_t_slotOf, .ref a_t_wantedBy, .ref a_t_queue, .ref a_t_hoursSeen, .int t_queued, .int t_hasLatest], ar E a_t_hoursLeft 480 t_hoursLeft, ar E a_t_pushers 16 t_pushers, oo a_q1 0 [.ref a_q1_placeOf, .ref a_q1_hourOf, .ref a_q1_first, .int q1_many], ar E a_q1_first 16 q1_first] := hD
  have w0 := hts (.methodLink RX5 83 Lib.Math.min.name) (by decide +kernel)
  have w1 := hts (.static Lib.Math.min.name) (by decide +kernel)
  have w2 := hts (.initialized "java/lang/Math") (by decide +kernel)
  have w3 := hts (.code Lib.Math.min.name Lib.Math.min.code 2 (some .int)) (by decide +kernel)
  have iX5 : ∀ w ∈ wsX50, w ∈ wsX5_reckonHoursLeft := by decide +kernel
  have w5 := hts (.fieldLink RX5 15 "GaugeWeekend$Shops" "hoursLeft" "[I") (by decide +kernel)
  have w6 := hts (.fieldLink RX5 9 "GaugeWeekend$Shops" "pushers" "[I") (by decide +kernel)
  have w7 := hts (.initialized RX9) (by decide +kernel)
  have w8 := hts (.static yX9_at) (by decide +kernel)
  have w9 := hts (.static yX9_put) (by decide +kernel)
  have L3 : ∀ (n : Nat) (v4 : Int32) (t_hoursLeft : Nat → Int32) (H : Heap) (locs : List Loc) (ls : Array Slot) (h : mX5_reckonHoursLeft_L3 p2 p3 t_pushers q1_first n v4 t_hoursLeft = some out) (hP : va_P (kD E) vwCl [oo a_t 5 [.ref a_t_pushers, .ref a_t_hoursLeft, .ref a_t_slotOf, .ref a_t_wantedBy, .ref a_t_queue, .ref a_t_hoursSeen, .int t_queued, .int t_hasLatest], ar E a_t_hoursLeft 480 t_hoursLeft, ar E a_t_pushers 16 t_pushers, oo a_q1 0 [.ref a_q1_placeOf, .ref a_q1_hourOf, .ref a_q1_first, .int q1_many], ar E a_q1_first 16 q1_first] H) (hD : va_D A [oo a_t 5 [.ref a_t_pushers, .ref a_t_hoursLeft, .ref a_t_slotOf, .ref a_t_wantedBy, .ref a_t_queue, .ref a_t_hoursSeen, .int t_queued, .int t_hasLatest], ar E a_t_hoursLeft 480 t_hoursLeft, ar E a_t_pushers 16 t_pushers, oo a_q1 0 [.ref a_q1_placeOf, .ref a_q1_hourOf, .ref a_q1_first, .int q1_many], ar E a_q1_first 16 q1_first]) (hS : va_S A s.heap H locs) (hl : lv_has ls 6 [(0, .ref a_t), (1, .ref a_q1), (2, .int p2), (3, .int p3), (4, .int v4)]), W p l e rmX5_reckonHoursLeft s m args below meth c H locs 0 0 Q (F0 m 3 ls []) := by
    intro  n
    induction n with
    | zero =>
      intro v4 t_hoursLeft H locs ls h
      rw [mX5_reckonHoursLeft_L3] at h
      cases h
    | succ n ih =>
      intro v4 t_hoursLeft H locs ls h hP hD hS hl
      rw [mX5_reckonHoursLeft_L3] at h
      refine lv_iload hx hb dX5_reckonHoursLeft_3 (lv_at hl 4 rfl) ?_
      refine lv_bipush (v := (iI 16)) hx hb dX5_reckonHoursLeft_5 (by decide) ?_
      refine lv_icmp_ge (tgt := 63) hx hb dX5_reckonHoursLeft_7 (by decide) (fun c_1 => ?_) (fun c_1 => ?_)
      · have h := (if_pos c_1).symm.trans h
        exact hret _ t_hoursLeft _ _ _ (Option.some.inj h) hP hS dX5_reckonHoursLeft_63
      · have h := (if_neg c_1).symm.trans h
        refine lv_iload_n hx hb dX5_reckonHoursLeft_10 rfl (lv_at hl 3 rfl) ?_
        refine lv_aload_n hx hb dX5_reckonHoursLeft_11 rfl (lv_at hl 1 rfl) ?_
        refine lv_iload hx hb dX5_reckonHoursLeft_12 (lv_at hl 4 rfl) ?_
        refine kciV (l := l) (E := E) (wc := [oo a_q1 0 [.ref a_q1_placeOf, .ref a_q1_hourOf, .ref a_q1_first, .int q1_many], ar E a_q1_first 16 q1_first]) (w1 := [oo a_q1 0 [.ref a_q1_placeOf, .ref a_q1_hourOf, .ref a_q1_first, .int q1_many], ar E a_q1_first 16 q1_first]) (w' := [oo a_t 5 [.ref a_t_pushers, .ref a_t_hoursLeft, .ref a_t_slotOf, .ref a_t_wantedBy, .ref a_t_queue, .ref a_t_hoursSeen, .int t_queued, .int t_hasLatest], ar E a_t_hoursLeft 480 t_hoursLeft, ar E a_t_pushers 16 t_pushers, oo a_q1 0 [.ref a_q1_placeOf, .ref a_q1_hourOf, .ref a_q1_first, .int q1_many], ar E a_q1_first 16 q1_first]) (ads := [a_q1, a_q1_first]) (r := (mX0_firstIn v4 q1_first)) (As := [.int v4]) (rest := [.int p3]) (kX0_firstIn l E rfl) ⟨hx, hb, hml, hown, hts⟩ (cwV 1 hts gX5_reckonHoursLeft_X0_firstIn rfl rfl rfl (by decide +kernel) ⟨by decide, by decide⟩) hE hP hD hS hA [3, 4] (by decide) rfl rfl rfl rfl rfl rfl rfl rfl hl.1 rfl (Nat.le_of_ble_eq_true rfl) dX5_reckonHoursLeft_14 ⟨Nat.zero_le _, Nat.zero_le _⟩ (fun H locs hP hD hS => ?_)
        refine lv_isub hx hb dX5_reckonHoursLeft_17 ?_
        refine lv_bipush (v := (iI 30)) hx hb dX5_reckonHoursLeft_18 (by decide) ?_
        refine va_mmin hx hb (hml.trans hl.1.symm) hown w0 w1 w2 w3 (Nat.le_of_ble_eq_true rfl) (Nat.le_of_ble_eq_true rfl) (Nat.zero_le _) (Nat.zero_le _) dX5_reckonHoursLeft_20 ?_
        refine lv_istore (lv' := [(5, .int (if (iI 30) < (p3 - (mX0_firstIn v4 q1_first)) then (iI 30) else (p3 - (mX0_firstIn v4 q1_first)))), (0, .ref a_t), (1, .ref a_q1), (2, .int p2), (3, .int p3), (4, .int v4)]) hx hb dX5_reckonHoursLeft_23 hl (by decide) rfl (fun ls hl => ?_)
        refine lv_aload_n hx hb dX5_reckonHoursLeft_25 rfl (lv_at hl 1 rfl) ?_
        refine va_get (D := kD E) (cl := vwCl) (tys := kT E) (ci := 5) (v := .ref a_t_hoursLeft) (C := RX5) (T := TX5) (N := 8) hx hb hts iX5 hown hK hP 0 rfl rfl 1 (by decide) w5 (fun _ h9 => h9) rfl dX5_reckonHoursLeft_26 ?_
        refine lv_iload_n hx hb dX5_reckonHoursLeft_29 rfl (lv_at hl 3 rfl) ?_
        refine lv_bipush (v := (iI 16)) hx hb dX5_reckonHoursLeft_30 (by decide) ?_
        refine lv_imul hx hb dX5_reckonHoursLeft_32 ?_
        refine lv_iload hx hb dX5_reckonHoursLeft_33 (lv_at hl 5 rfl) ?_
        refine lv_iadd hx hb dX5_reckonHoursLeft_35 ?_
        refine lv_aload_n hx hb dX5_reckonHoursLeft_36 rfl (lv_at hl 1 rfl) ?_
        refine va_get (D := kD E) (cl := vwCl) (tys := kT E) (ci := 5) (v := .ref a_t_pushers) (C := RX5) (T := TX5) (N := 8) hx hb hts iX5 hown hK hP 0 rfl rfl 0 (by decide) w6 (fun _ h9 => h9) rfl dX5_reckonHoursLeft_37 ?_
        refine lv_iload hx hb dX5_reckonHoursLeft_40 (lv_at hl 5 rfl) ?_
        refine kciN (l := l) (E := E) (wc := [ar E a_t_pushers 16 t_pushers]) (w1 := [ar E a_t_pushers 16 t_pushers]) (w' := [oo a_t 5 [.ref a_t_pushers, .ref a_t_hoursLeft, .ref a_t_slotOf, .ref a_t_wantedBy, .ref a_t_queue, .ref a_t_hoursSeen, .int t_queued, .int t_hasLatest], ar E a_t_hoursLeft 480 t_hoursLeft, ar E a_t_pushers 16 t_pushers, oo a_q1 0 [.ref a_q1_placeOf, .ref a_q1_hourOf, .ref a_q1_first, .int q1_many], ar E a_q1_first 16 q1_first]) (ads := [a_t_pushers]) (r := (mX9_at 16 v4 t_pushers)) (As := [.ref a_t_pushers, .int v4]) (rest := [.int ((p2 * (iI 16)) + v4), .ref a_t_hoursLeft]) (kX9_at l E (hn_q0 := (Nat.le_of_ble_eq_true rfl)) rfl) ⟨hx, hb, hml, hown, hts⟩ ⟨va_cnB 2 hts gX5_reckonHoursLeft_X9_at_n46 rfl rfl rfl (nwm_25 hE.2.1) w7 (by decide +kernel) ⟨by decide, by decide⟩, w8, trivial⟩ hE hP hD hS hA [2] (by decide) rfl rfl rfl rfl  rfl hl.1 rfl (Nat.le_of_ble_eq_true rfl) dX5_reckonHoursLeft_42 ⟨Nat.zero_le _, Nat.zero_le _⟩ (fun H locs hP hD hS => ?_)
        refine lv_if_le (tgt := 53) hx hb dX5_reckonHoursLeft_45 (by decide) (fun c_4 => ?_) (fun c_4 => ?_)
        · have h := (if_pos c_4).symm.trans h
          refine lv_iconst (v := (iI 0)) hx hb dX5_reckonHoursLeft_53 (by decide) ?_
          refine kcvN (l := l) (E := E) (wc := [ar E a_t_hoursLeft 480 t_hoursLeft]) (w1 := [ar E a_t_hoursLeft 480 (mX9_put 480 ((p2 * (iI 16)) + v4) (iI 0) t_hoursLeft)]) (w' := [oo a_t 5 [.ref a_t_pushers, .ref a_t_hoursLeft, .ref a_t_slotOf, .ref a_t_wantedBy, .ref a_t_queue, .ref a_t_hoursSeen, .int t_queued, .int t_hasLatest], ar E a_t_hoursLeft 480 (mX9_put 480 ((p2 * (iI 16)) + v4) (iI 0) t_hoursLeft), ar E a_t_pushers 16 t_pushers, oo a_q1 0 [.ref a_q1_placeOf, .ref a_q1_hourOf, .ref a_q1_first, .int q1_many], ar E a_q1_first 16 q1_first]) (ads := [a_t_hoursLeft]) (As := [.ref a_t_hoursLeft, .int ((p2 * (iI 16)) + v4), .int (iI 0)]) (rest := []) (kX9_put l E (hn_q0 := (Nat.le_of_ble_eq_true rfl)) rfl) ⟨hx, hb, hml, hown, hts⟩ ⟨va_cnB 3 hts gX5_reckonHoursLeft_X9_put_n50 rfl rfl rfl (nwm_26 hE.2.1) w7 (by decide +kernel) ⟨by decide, by decide⟩, w9, trivial⟩ hE hP hD hS hA [1] (by decide) rfl rfl rfl rfl  rfl hl.1 rfl (Nat.le_of_ble_eq_true rfl) dX5_reckonHoursLeft_54 ⟨Nat.zero_le _, Nat.zero_le _⟩ (fun H locs hP hD hS => ?_)
          refine lv_iinc (v := (v4 + (iI 1))) (lv' := [(4, .int (v4 + (iI 1))), (5, .int (if (iI 30) < (p3 - (mX0_firstIn v4 q1_first)) then (iI 30) else (p3 - (mX0_firstIn v4 q1_first)))), (0, .ref a_t), (1, .ref a_q1), (2, .int p2), (3, .int p3)]) hx hb dX5_reckonHoursLeft_57 hl (k := 5) rfl (kinc _ (by decide)) (by decide) rfl (fun ls hl => ?_)
          refine lv_goto (tgt := 3) hx hb dX5_reckonHoursLeft_60 (by decide) ?_
          exact ih (v4 + (iI 1)) (mX9_put 480 ((p2 * (iI 16)) + v4) (iI 0) t_hoursLeft) _ _ _ h hP hD hS (lv_sub hl [2, 3, 4, 5, 0] rfl)
        · have h := (if_neg c_4).symm.trans h
          refine lv_iload hx hb dX5_reckonHoursLeft_48 (lv_at hl 0 rfl) ?_
          refine lv_goto (tgt := 54) hx hb dX5_reckonHoursLeft_50 (by decide) ?_
          refine kcvN (l := l) (E := E) (wc := [ar E a_t_hoursLeft 480 t_hoursLeft]) (w1 := [ar E a_t_hoursLeft 480 (mX9_put 480 ((p2 * (iI 16)) + v4) (if (iI 30) < (p3 - (mX0_firstIn v4 q1_first)) then (iI 30) else (p3 - (mX0_firstIn v4 q1_first))) t_hoursLeft)]) (w' := [oo a_t 5 [.ref a_t_pushers, .ref a_t_hoursLeft, .ref a_t_slotOf, .ref a_t_wantedBy, .ref a_t_queue, .ref a_t_hoursSeen, .int t_queued, .int t_hasLatest], ar E a_t_hoursLeft 480 (mX9_put 480 ((p2 * (iI 16)) + v4) (if (iI 30) < (p3 - (mX0_firstIn v4 q1_first)) then (iI 30) else (p3 - (mX0_firstIn v4 q1_first))) t_hoursLeft), ar E a_t_pushers 16 t_pushers, oo a_q1 0 [.ref a_q1_placeOf, .ref a_q1_hourOf, .ref a_q1_first, .int q1_many], ar E a_q1_first 16 q1_first]) (ads := [a_t_hoursLeft]) (As := [.ref a_t_hoursLeft, .int ((p2 * (iI 16)) + v4), .int (if (iI 30) < (p3 - (mX0_firstIn v4 q1_first)) then (iI 30) else (p3 - (mX0_firstIn v4 q1_first)))]) (rest := []) (kX9_put l E (hn_q0 := (Nat.le_of_ble_eq_true rfl)) rfl) ⟨hx, hb, hml, hown, hts⟩ ⟨va_cnB 3 hts gX5_reckonHoursLeft_X9_put_n50 rfl rfl rfl (nwm_26 hE.2.1) w7 (by decide +kernel) ⟨by decide, by decide⟩, w9, trivial⟩ hE hP hD hS hA [1] (by decide) rfl rfl rfl rfl  rfl hl.1 rfl (Nat.le_of_ble_eq_true rfl) dX5_reckonHoursLeft_54 ⟨Nat.zero_le _, Nat.zero_le _⟩ (fun H locs hP hD hS => ?_)
          refine lv_iinc (v := (v4 + (iI 1))) (lv' := [(4, .int (v4 + (iI 1))), (5, .int (if (iI 30) < (p3 - (mX0_firstIn v4 q1_first)) then (iI 30) else (p3 - (mX0_firstIn v4 q1_first)))), (0, .ref a_t), (1, .ref a_q1), (2, .int p2), (3, .int p3)]) hx hb dX5_reckonHoursLeft_57 hl (k := 5) rfl (kinc _ (by decide)) (by decide) rfl (fun ls hl => ?_)
          refine lv_goto (tgt := 3) hx hb dX5_reckonHoursLeft_60 (by decide) ?_
          exact ih (v4 + (iI 1)) (mX9_put 480 ((p2 * (iI 16)) + v4) (if (iI 30) < (p3 - (mX0_firstIn v4 q1_first)) then (iI 30) else (p3 - (mX0_firstIn v4 q1_first))) t_hoursLeft) _ _ _ h hP hD hS (lv_sub hl [2, 3, 4, 5, 0] rfl)
  rw [mX5_reckonHoursLeft] at h
  refine lv_iconst (v := (iI 0)) hx hb dX5_reckonHoursLeft_0 (by decide) ?_
  refine lv_istore (lv' := [(4, .int (iI 0)), (0, .ref a_t), (1, .ref a_q1), (2, .int p2), (3, .int p3)]) hx hb dX5_reckonHoursLeft_1 hl (by decide) rfl (fun ls hl => ?_)
  exact L3 _ (iI 0) t_hoursLeft _ _ _ h hP hD hS (lv_sub hl [1, 2, 3, 4, 0] rfl)
abbrev rmX5_ask : Room := { frames := 1, cells := 0, slots := 0, locals := 22 }
set_option maxHeartbeats 4000000 in
set_option maxRecDepth 100000 in
theorem kX5_ask (l : Launch) (E : KE) {a_t : Nat} {a_t_pushers : Nat} {a_t_hoursLeft : Nat} {a_t_slotOf : Nat} {a_t_wantedBy : Nat} {a_t_queue : Nat} {a_t_hoursSeen : Nat} {p1 : Int32} {p2 : Int32} {t_queued : Int32} {t_hasLatest : Int32} {t_queue : Nat → Int32} {t_wantedBy : Nat → Int32} {out : Int32 × (Nat → Int32) × (Nat → Int32)} (h : mX5_ask p1 p2 t_queued t_queue t_wantedBy = some out) : KV l E yX5_ask wsX5_ask rmX5_ask [.ref a_t, .int p1, .int p2] [oo a_t 5 [.ref a_t_pushers, .ref a_t_hoursLeft, .ref a_t_slotOf, .ref a_t_wantedBy, .ref a_t_queue, .ref a_t_hoursSeen, .int t_queued, .int t_hasLatest], ar E a_t_queue 30 t_queue, ar E a_t_wantedBy 30 t_wantedBy] [oo a_t 5 [.ref a_t_pushers, .ref a_t_hoursLeft, .ref a_t_slotOf, .ref a_t_wantedBy, .ref a_t_queue, .ref a_t_hoursSeen, .int out.1, .int t_hasLatest], ar E a_t_queue 30 out.2.1, ar E a_t_wantedBy 30 out.2.2] := by
  refine kmetV (T := Int32 × (Nat → Int32) × (Nat → Int32)) (out := out) (wf := (fun (o : Int32 × (Nat → Int32) × (Nat → Int32)) => [oo a_t 5 [.ref a_t_pushers, .ref a_t_hoursLeft, .ref a_t_slotOf, .ref a_t_wantedBy, .ref a_t_queue, .ref a_t_hoursSeen, .int o.1, .int t_hasLatest], ar E a_t_queue 30 o.2.1, ar E a_t_wantedBy 30 o.2.2])) (cc := cX5_ask) (maxL := 3) (by decide) rfl (Nat.le_of_ble_eq_true rfl) ?_
  intro p e s m args below meth c A Q ls hx hb hml hts hown hE hP hD hS hA hl hret
  have hown : s.vm.findClass RX5 = some m.cls := hown
  have hK := hE.1
  have hl : lv_has ls 3 [(0, .ref a_t), (1, .int p1), (2, .int p2)] := hl
  have hP : va_P (kD E) vwCl [oo a_t 5 [.ref a_t_pushers, .ref a_t_hoursLeft, .ref a_t_slotOf, .ref a_t_wantedBy, .ref a_t_queue, .ref a_t_hoursSeen, .int t_queued, .int t_hasLatest], ar E a_t_queue 30 t_queue, ar E a_t_wantedBy 30 t_wantedBy] s.heap := hP
  have hD : va_D A [oo a_t 5 [.ref a_t_pushers, .ref a_t_hoursLeft, .ref a_t_slotOf, .ref a_t_wantedBy, .ref a_t_queue, .ref a_t_hoursSeen, .int t_queued, .int t_hasLatest], ar E a_t_queue 30 t_queue, ar E a_t_wantedBy 30 t_wantedBy] := hD
  have iX5 : ∀ w ∈ wsX50, w ∈ wsX5_ask := by decide +kernel
  have w1 := hts (.fieldLink RX5 21 "GaugeWeekend$Shops" "wantedBy" "[I") (by decide +kernel)
  have w2 := hts (.initialized RX9) (by decide +kernel)
  have w3 := hts (.static yX9_put) (by decide +kernel)
  have w4 := hts (.fieldLink RX5 24 "GaugeWeekend$Shops" "queue" "[I") (by decide +kernel)
  have w5 := hts (.fieldLink RX5 30 "GaugeWeekend$Shops" "queued" "I") (by decide +kernel)
  rw [mX5_ask] at h
  refine lv_aload_n hx hb dX5_ask_0 rfl (lv_at hl 0 rfl) ?_
  refine va_get (D := kD E) (cl := vwCl) (tys := kT E) (ci := 5) (v := .ref a_t_wantedBy) (C := RX5) (T := TX5) (N := 8) hx hb hts iX5 hown hK hP 0 rfl rfl 3 (by decide) w1 (fun _ h9 => h9) rfl dX5_ask_1 ?_
  refine lv_iload_n hx hb dX5_ask_4 rfl (lv_at hl 1 rfl) ?_
  refine lv_iload_n hx hb dX5_ask_5 rfl (lv_at hl 2 rfl) ?_
  refine kcvN (l := l) (E := E) (wc := [ar E a_t_wantedBy 30 t_wantedBy]) (w1 := [ar E a_t_wantedBy 30 (mX9_put 30 p1 p2 t_wantedBy)]) (w' := [oo a_t 5 [.ref a_t_pushers, .ref a_t_hoursLeft, .ref a_t_slotOf, .ref a_t_wantedBy, .ref a_t_queue, .ref a_t_hoursSeen, .int t_queued, .int t_hasLatest], ar E a_t_queue 30 t_queue, ar E a_t_wantedBy 30 (mX9_put 30 p1 p2 t_wantedBy)]) (ads := [a_t_wantedBy]) (As := [.ref a_t_wantedBy, .int p1, .int p2]) (rest := []) (kX9_put l E (hn_q0 := (Nat.le_of_ble_eq_true rfl)) rfl) ⟨hx, hb, hml, hown, hts⟩ ⟨va_cnB 3 hts gX5_ask_X9_put_n50 rfl rfl rfl (nwm_26 hE.2.1) w2 (by decide +kernel) ⟨by decide, by decide⟩, w3, trivial⟩ hE hP hD hS hA [2] (by decide) rfl rfl rfl rfl  rfl hl.1 rfl (Nat.le_of_ble_eq_true rfl) dX5_ask_6 ⟨Nat.zero_le _, Nat.zero_le _⟩ (fun H locs hP hD hS => ?_)
  refine lv_aload_n hx hb dX5_ask_9 rfl (lv_at hl 0 rfl) ?_
  refine va_get (D := kD E) (cl := vwCl) (tys := kT E) (ci := 5) (v := .ref a_t_queue) (C := RX5) (T := TX5) (N := 8) hx hb hts iX5 hown hK hP 0 rfl rfl 4 (by decide) w4 (fun _ h9 => h9) rfl dX5_ask_10 ?_
  refine lv_aload_n hx hb dX5_ask_13 rfl (lv_at hl 0 rfl) ?_
  refine va_get (D := kD E) (cl := vwCl) (tys := kT E) (ci := 5) (v := .int t_queued) (C := RX5) (T := TX5) (N := 8) hx hb hts iX5 hown hK hP 0 rfl rfl 6 (by decide) w5 (fun _ h9 => h9) rfl dX5_ask_14 ?_
  refine lv_iload_n hx hb dX5_ask_17 rfl (lv_at hl 1 rfl) ?_
  refine kcvN (l := l) (E := E) (wc := [ar E a_t_queue 30 t_queue]) (w1 := [ar E a_t_queue 30 (mX9_put 30 t_queued p1 t_queue)]) (w' := [oo a_t 5 [.ref a_t_pushers, .ref a_t_hoursLeft, .ref a_t_slotOf, .ref a_t_wantedBy, .ref a_t_queue, .ref a_t_hoursSeen, .int t_queued, .int t_hasLatest], ar E a_t_queue 30 (mX9_put 30 t_queued p1 t_queue), ar E a_t_wantedBy 30 (mX9_put 30 p1 p2 t_wantedBy)]) (ads := [a_t_queue]) (As := [.ref a_t_queue, .int t_queued, .int p1]) (rest := []) (kX9_put l E (hn_q0 := (Nat.le_of_ble_eq_true rfl)) rfl) ⟨hx, hb, hml, hown, hts⟩ ⟨va_cnB 3 hts gX5_ask_X9_put_n50 rfl rfl rfl (nwm_26 hE.2.1) w2 (by decide +kernel) ⟨by decide, by decide⟩, w3, trivial⟩ hE hP hD hS hA [1] (by decide) rfl rfl rfl rfl  rfl hl.1 rfl (Nat.le_of_ble_eq_true rfl) dX5_ask_18 ⟨Nat.zero_le _, Nat.zero_le _⟩ (fun H locs hP hD hS => ?_)
  refine lv_aload_n hx hb dX5_ask_21 rfl (lv_at hl 0 rfl) ?_
  refine lv_dup hx hb dX5_ask_22 rfl ?_
  refine va_get (D := kD E) (cl := vwCl) (tys := kT E) (ci := 5) (v := .int t_queued) (C := RX5) (T := TX5) (N := 8) hx hb hts iX5 hown hK hP 0 rfl rfl 6 (by decide) w5 (fun _ h9 => h9) rfl dX5_ask_23 ?_
  refine lv_iconst (v := (iI 1)) hx hb dX5_ask_26 (by decide) ?_
  refine lv_iadd hx hb dX5_ask_27 ?_
  refine kput (w' := [oo a_t 5 [.ref a_t_pushers, .ref a_t_hoursLeft, .ref a_t_slotOf, .ref a_t_wantedBy, .ref a_t_queue, .ref a_t_hoursSeen, .int (t_queued + (iI 1)), .int t_hasLatest], ar E a_t_queue 30 (mX9_put 30 t_queued p1 t_queue), ar E a_t_wantedBy 30 (mX9_put 30 p1 p2 t_wantedBy)]) (E := E) (ci := 5) (v := .int (t_queued + (iI 1))) (ty := .int) (C := RX5) (T := TX5) (N := 8) hx hb hts iX5 tyX5 tyX5_ok nmX5 hown hK hP hD hS 0 rfl rfl 6 (by decide) w5 (fun _ h9 => h9) rfl (tyX5_ok 6 (by decide)) rfl rfl (Nat.le_of_ble_eq_true rfl) rfl dX5_ask_28 (fun H locs hP hD hS => ?_)
  exact hret _ ((t_queued + (iI 1)), (mX9_put 30 t_queued p1 t_queue), (mX9_put 30 p1 p2 t_wantedBy)) _ _ _ (Option.some.inj h) hP hS dX5_ask_31
abbrev rmX5_manyIn : Room := { frames := 1, cells := 0, slots := 0, locals := 21 }
set_option maxHeartbeats 4000000 in
set_option maxRecDepth 100000 in
theorem kX5_manyIn (l : Launch) (E : KE) {a_t : Nat} {a_t_pushers : Nat} {a_t_hoursLeft : Nat} {a_t_slotOf : Nat} {a_t_wantedBy : Nat} {a_t_queue : Nat} {a_t_hoursSeen : Nat} {p1 : Int32} {t_queued : Int32} {t_hasLatest : Int32} {t_slotOf : Nat → Int32} {out : Int32} (h : mX5_manyIn p1 t_slotOf = some out) : KI l E yX5_manyIn wsX5_manyIn rmX5_manyIn [.ref a_t, .int p1] [oo a_t 5 [.ref a_t_pushers, .ref a_t_hoursLeft, .ref a_t_slotOf, .ref a_t_wantedBy, .ref a_t_queue, .ref a_t_hoursSeen, .int t_queued, .int t_hasLatest], ar E a_t_slotOf 30 t_slotOf] [oo a_t 5 [.ref a_t_pushers, .ref a_t_hoursLeft, .ref a_t_slotOf, .ref a_t_wantedBy, .ref a_t_queue, .ref a_t_hoursSeen, .int t_queued, .int t_hasLatest], ar E a_t_slotOf 30 t_slotOf] out := by
  refine kmetI (T := Int32) (out := out) (wf := (fun (o : Int32) => [oo a_t 5 [.ref a_t_pushers, .ref a_t_hoursLeft, .ref a_t_slotOf, .ref a_t_wantedBy, .ref a_t_queue, .ref a_t_hoursSeen, .int t_queued, .int t_hasLatest], ar E a_t_slotOf 30 t_slotOf])) (rf := (fun (o : Int32) => o)) (cc := cX5_manyIn) (maxL := 4) (ty := .int) (by decide) rfl (Nat.le_of_ble_eq_true rfl) ?_
  intro p e s m args below meth c A Q ls hx hb hml hts hown hE hP hD hS hA hl hret
  have hown : s.vm.findClass RX5 = some m.cls := hown
  have hK := hE.1
  have hl : lv_has ls 4 [(0, .ref a_t), (1, .int p1)] := hl
  have hP : va_P (kD E) vwCl [oo a_t 5 [.ref a_t_pushers, .ref a_t_hoursLeft, .ref a_t_slotOf, .ref a_t_wantedBy, .ref a_t_queue, .ref a_t_hoursSeen, .int t_queued, .int t_hasLatest], ar E a_t_slotOf 30 t_slotOf] s.heap := hP
  have hD : va_D A [oo a_t 5 [.ref a_t_pushers, .ref a_t_hoursLeft, .ref a_t_slotOf, .ref a_t_wantedBy, .ref a_t_queue, .ref a_t_hoursSeen, .int t_queued, .int t_hasLatest], ar E a_t_slotOf 30 t_slotOf] := hD
  have iX5 : ∀ w ∈ wsX50, w ∈ wsX5_manyIn := by decide +kernel
  have w1 := hts (.fieldLink RX5 18 "GaugeWeekend$Shops" "slotOf" "[I") (by decide +kernel)
  have w2 := hts (.initialized RX9) (by decide +kernel)
  have w3 := hts (.static yX9_at) (by decide +kernel)
  have L4 : ∀ (n : Nat) (v2 : Int32) (v3 : Int32) (H : Heap) (locs : List Loc) (ls : Array Slot) (h : mX5_manyIn_L4 p1 t_slotOf n v2 v3 = some out) (hP : va_P (kD E) vwCl [oo a_t 5 [.ref a_t_pushers, .ref a_t_hoursLeft, .ref a_t_slotOf, .ref a_t_wantedBy, .ref a_t_queue, .ref a_t_hoursSeen, .int t_queued, .int t_hasLatest], ar E a_t_slotOf 30 t_slotOf] H) (hD : va_D A [oo a_t 5 [.ref a_t_pushers, .ref a_t_hoursLeft, .ref a_t_slotOf, .ref a_t_wantedBy, .ref a_t_queue, .ref a_t_hoursSeen, .int t_queued, .int t_hasLatest], ar E a_t_slotOf 30 t_slotOf]) (hS : va_S A s.heap H locs) (hl : lv_has ls 4 [(0, .ref a_t), (1, .int p1), (2, .int v2), (3, .int v3)]), W p l e rmX5_manyIn s m args below meth c H locs 0 0 Q (F0 m 4 ls []) := by
    intro  n
    induction n with
    | zero =>
      intro v2 v3 H locs ls h
      rw [mX5_manyIn_L4] at h
      cases h
    | succ n ih =>
      intro v2 v3 H locs ls h hP hD hS hl
      rw [mX5_manyIn_L4] at h
      refine lv_iload_n hx hb dX5_manyIn_4 rfl (lv_at hl 3 rfl) ?_
      refine lv_bipush (v := (iI 30)) hx hb dX5_manyIn_5 (by decide) ?_
      refine lv_icmp_ge (tgt := 31) hx hb dX5_manyIn_7 (by decide) (fun c_1 => ?_) (fun c_1 => ?_)
      · have h := (if_pos c_1).symm.trans h
        refine lv_iload_n hx hb dX5_manyIn_31 rfl (lv_at hl 2 rfl) ?_
        exact hret _ _ v2 _ _ _ (Option.some.inj h) rfl rfl hP hS dX5_manyIn_32
      · have h := (if_neg c_1).symm.trans h
        refine lv_aload_n hx hb dX5_manyIn_10 rfl (lv_at hl 0 rfl) ?_
        refine va_get (D := kD E) (cl := vwCl) (tys := kT E) (ci := 5) (v := .ref a_t_slotOf) (C := RX5) (T := TX5) (N := 8) hx hb hts iX5 hown hK hP 0 rfl rfl 2 (by decide) w1 (fun _ h9 => h9) rfl dX5_manyIn_11 ?_
        refine lv_iload_n hx hb dX5_manyIn_14 rfl (lv_at hl 3 rfl) ?_
        refine kciN (l := l) (E := E) (wc := [ar E a_t_slotOf 30 t_slotOf]) (w1 := [ar E a_t_slotOf 30 t_slotOf]) (w' := [oo a_t 5 [.ref a_t_pushers, .ref a_t_hoursLeft, .ref a_t_slotOf, .ref a_t_wantedBy, .ref a_t_queue, .ref a_t_hoursSeen, .int t_queued, .int t_hasLatest], ar E a_t_slotOf 30 t_slotOf]) (ads := [a_t_slotOf]) (r := (mX9_at 30 v3 t_slotOf)) (As := [.ref a_t_slotOf, .int v3]) (rest := []) (kX9_at l E (hn_q0 := (Nat.le_of_ble_eq_true rfl)) rfl) ⟨hx, hb, hml, hown, hts⟩ ⟨va_cnB 2 hts gX5_manyIn_X9_at_n46 rfl rfl rfl (nwm_25 hE.2.1) w2 (by decide +kernel) ⟨by decide, by decide⟩, w3, trivial⟩ hE hP hD hS hA [1] (by decide) rfl rfl rfl rfl  rfl hl.1 rfl (Nat.le_of_ble_eq_true rfl) dX5_manyIn_15 ⟨Nat.zero_le _, Nat.zero_le _⟩ (fun H locs hP hD hS => ?_)
        refine lv_iload_n hx hb dX5_manyIn_18 rfl (lv_at hl 1 rfl) ?_
        refine lv_icmp_ne (tgt := 25) hx hb dX5_manyIn_19 (by decide) (fun c_3 => ?_) (fun c_3 => ?_)
        · have h := (if_neg c_3).symm.trans h
          refine lv_iinc (v := (v3 + (iI 1))) (lv' := [(3, .int (v3 + (iI 1))), (0, .ref a_t), (1, .int p1), (2, .int v2)]) hx hb dX5_manyIn_25 hl (k := 3) rfl (kinc _ (by decide)) (by decide) rfl (fun ls hl => ?_)
          refine lv_goto (tgt := 4) hx hb dX5_manyIn_28 (by decide) ?_
          exact ih v2 (v3 + (iI 1)) _ _ _ h hP hD hS (lv_sub hl [1, 2, 3, 0] rfl)
        · have h := (if_pos c_3).symm.trans h
          refine lv_iinc (v := (v2 + (iI 1))) (lv' := [(2, .int (v2 + (iI 1))), (0, .ref a_t), (1, .int p1), (3, .int v3)]) hx hb dX5_manyIn_22 hl (k := 2) rfl (kinc _ (by decide)) (by decide) rfl (fun ls hl => ?_)
          refine lv_iinc (v := (v3 + (iI 1))) (lv' := [(3, .int (v3 + (iI 1))), (2, .int (v2 + (iI 1))), (0, .ref a_t), (1, .int p1)]) hx hb dX5_manyIn_25 hl (k := 3) rfl (kinc _ (by decide)) (by decide) rfl (fun ls hl => ?_)
          refine lv_goto (tgt := 4) hx hb dX5_manyIn_28 (by decide) ?_
          exact ih (v2 + (iI 1)) (v3 + (iI 1)) _ _ _ h hP hD hS (lv_sub hl [2, 3, 1, 0] rfl)
  rw [mX5_manyIn] at h
  refine lv_iconst (v := (iI 0)) hx hb dX5_manyIn_0 (by decide) ?_
  refine lv_istore_n (lv' := [(2, .int (iI 0)), (0, .ref a_t), (1, .int p1)]) hx hb dX5_manyIn_1 rfl hl (by decide) rfl (fun ls hl => ?_)
  refine lv_iconst (v := (iI 0)) hx hb dX5_manyIn_2 (by decide) ?_
  refine lv_istore_n (lv' := [(3, .int (iI 0)), (2, .int (iI 0)), (0, .ref a_t), (1, .int p1)]) hx hb dX5_manyIn_3 rfl hl (by decide) rfl (fun ls hl => ?_)
  exact L4 _ (iI 0) (iI 0) _ _ _ h hP hD hS (lv_sub hl [2, 3, 1, 0] rfl)
abbrev rmX5_askHolders : Room := { frames := 2, cells := 0, slots := 0, locals := 44 }
set_option maxHeartbeats 4000000 in
set_option maxRecDepth 100000 in
theorem kX5_askHolders (l : Launch) (E : KE) {a_t : Nat} {a_t_pushers : Nat} {a_t_hoursLeft : Nat} {a_t_slotOf : Nat} {a_t_wantedBy : Nat} {a_t_queue : Nat} {a_t_hoursSeen : Nat} {p1 : Int32} {p2 : Int32} {t_queued : Int32} {t_hasLatest : Int32} {t_queue : Nat → Int32} {t_slotOf : Nat → Int32} {t_wantedBy : Nat → Int32} {out : Int32 × (Nat → Int32) × (Nat → Int32)} (h : mX5_askHolders p1 p2 t_queued t_queue t_slotOf t_wantedBy = some out) : KV l E yX5_askHolders wsX5_askHolders rmX5_askHolders [.ref a_t, .int p1, .int p2] [oo a_t 5 [.ref a_t_pushers, .ref a_t_hoursLeft, .ref a_t_slotOf, .ref a_t_wantedBy, .ref a_t_queue, .ref a_t_hoursSeen, .int t_queued, .int t_hasLatest], ar E a_t_queue 30 t_queue, ar E a_t_slotOf 30 t_slotOf, ar E a_t_wantedBy 30 t_wantedBy] [oo a_t 5 [.ref a_t_pushers, .ref a_t_hoursLeft, .ref a_t_slotOf, .ref a_t_wantedBy, .ref a_t_queue, .ref a_t_hoursSeen, .int out.1, .int t_hasLatest], ar E a_t_queue 30 out.2.1, ar E a_t_slotOf 30 t_slotOf, ar E a_t_wantedBy 30 out.2.2] := by
  refine kmetV (T := Int32 × (Nat → Int32) × (Nat → Int32)) (out := out) (wf := (fun (o : Int32 × (Nat → Int32) × (Nat → Int32)) => [oo a_t 5 [.ref a_t_pushers, .ref a_t_hoursLeft, .ref a_t_slotOf, .ref a_t_wantedBy, .ref a_t_queue, .ref a_t_hoursSeen, .int o.1, .int t_hasLatest], ar E a_t_queue 30 o.2.1, ar E a_t_slotOf 30 t_slotOf, ar E a_t_wantedBy 30 o.2.2])) (cc := cX5_askHolders) (maxL := 4) (by decide) rfl (Nat.le_of_ble_eq_true rfl) ?_
  intro p e s m args below meth c A Q ls hx hb hml hts hown hE hP hD hS hA hl hret
  have hown : s.vm.findClass RX5 = some m.cls := hown
  have hK := hE.1
  have hl : lv_has ls 4 [(0, .ref a_t), (1, .int p1), (2, .int p2)] := hl
  have hP : va_P (kD E) vwCl [oo a_t 5 [.ref a_t_pushers, .ref a_t_hoursLeft, .ref a_t_slotOf, .ref a_t_wantedBy, .ref a_t_queue, .ref a_t_hoursSeen, .int t_queued, .int t_hasLatest], ar E a_t_queue 30 t_queue, ar E a_t_slotOf 30 t_slotOf, ar E a_t_wantedBy 30 t_wantedBy] s.heap := hP
  have hD : va_D A [oo a_t 5 [.ref a_t_pushers, .ref a_t_hoursLeft, .ref a_t_slotOf, .ref a_t_wantedBy, .ref a_t_queue, .ref a_t_hoursSeen, .int t_queued, .int t_hasLatest], ar E a_t_queue 30 t_queue, ar E a_t_slotOf 30 t_slotOf, ar E a_t_wantedBy 30 t_wantedBy] := hD
  have iX5 : ∀ w ∈ wsX50, w ∈ wsX5_askHolders := by decide +kernel
  have w1 := hts (.fieldLink RX5 18 "GaugeWeekend$Shops" "slotOf" "[I") (by decide +kernel)
  have w2 := hts (.initialized RX9) (by decide +kernel)
  have w3 := hts (.static yX9_at) (by decide +kernel)
  have L2 : ∀ (n : Nat) (v3 : Int32) (t_queued : Int32) (t_queue : Nat → Int32) (t_wantedBy : Nat → Int32) (H : Heap) (locs : List Loc) (ls : Array Slot) (h : mX5_askHolders_L2 p1 p2 t_slotOf n v3 t_queued t_queue t_wantedBy = some out) (hP : va_P (kD E) vwCl [oo a_t 5 [.ref a_t_pushers, .ref a_t_hoursLeft, .ref a_t_slotOf, .ref a_t_wantedBy, .ref a_t_queue, .ref a_t_hoursSeen, .int t_queued, .int t_hasLatest], ar E a_t_queue 30 t_queue, ar E a_t_slotOf 30 t_slotOf, ar E a_t_wantedBy 30 t_wantedBy] H) (hD : va_D A [oo a_t 5 [.ref a_t_pushers, .ref a_t_hoursLeft, .ref a_t_slotOf, .ref a_t_wantedBy, .ref a_t_queue, .ref a_t_hoursSeen, .int t_queued, .int t_hasLatest], ar E a_t_queue 30 t_queue, ar E a_t_slotOf 30 t_slotOf, ar E a_t_wantedBy 30 t_wantedBy]) (hS : va_S A s.heap H locs) (hl : lv_has ls 4 [(0, .ref a_t), (1, .int p1), (2, .int p2), (3, .int v3)]), W p l e rmX5_askHolders s m args below meth c H locs 0 0 Q (F0 m 2 ls []) := by
    intro  n
    induction n with
    | zero =>
      intro v3 t_queued t_queue t_wantedBy H locs ls h
      rw [mX5_askHolders_L2] at h
      cases h
    | succ n ih =>
      intro v3 t_queued t_queue t_wantedBy H locs ls h hP hD hS hl
      rw [mX5_askHolders_L2] at h
      refine lv_iload_n hx hb dX5_askHolders_2 rfl (lv_at hl 3 rfl) ?_
      refine lv_bipush (v := (iI 30)) hx hb dX5_askHolders_3 (by decide) ?_
      refine lv_icmp_ge (tgt := 32) hx hb dX5_askHolders_5 (by decide) (fun c_1 => ?_) (fun c_1 => ?_)
      · have h := (if_pos c_1).symm.trans h
        exact hret _ (t_queued, t_queue, t_wantedBy) _ _ _ (Option.some.inj h) hP hS dX5_askHolders_32
      · have h := (if_neg c_1).symm.trans h
        refine lv_aload_n hx hb dX5_askHolders_8 rfl (lv_at hl 0 rfl) ?_
        refine va_get (D := kD E) (cl := vwCl) (tys := kT E) (ci := 5) (v := .ref a_t_slotOf) (C := RX5) (T := TX5) (N := 8) hx hb hts iX5 hown hK hP 0 rfl rfl 2 (by decide) w1 (fun _ h9 => h9) rfl dX5_askHolders_9 ?_
        refine lv_iload_n hx hb dX5_askHolders_12 rfl (lv_at hl 3 rfl) ?_
        refine kciN (l := l) (E := E) (wc := [ar E a_t_slotOf 30 t_slotOf]) (w1 := [ar E a_t_slotOf 30 t_slotOf]) (w' := [oo a_t 5 [.ref a_t_pushers, .ref a_t_hoursLeft, .ref a_t_slotOf, .ref a_t_wantedBy, .ref a_t_queue, .ref a_t_hoursSeen, .int t_queued, .int t_hasLatest], ar E a_t_queue 30 t_queue, ar E a_t_slotOf 30 t_slotOf, ar E a_t_wantedBy 30 t_wantedBy]) (ads := [a_t_slotOf]) (r := (mX9_at 30 v3 t_slotOf)) (As := [.ref a_t_slotOf, .int v3]) (rest := []) (kX9_at l E (hn_q0 := (Nat.le_of_ble_eq_true rfl)) rfl) ⟨hx, hb, hml, hown, hts⟩ ⟨va_cnB 2 hts gX5_askHolders_X9_at_n46 rfl rfl rfl (nwm_25 hE.2.1) w2 (by decide +kernel) ⟨by decide, by decide⟩, w3, trivial⟩ hE hP hD hS hA [2] (by decide) rfl rfl rfl rfl  rfl hl.1 rfl (Nat.le_of_ble_eq_true rfl) dX5_askHolders_13 ⟨Nat.zero_le _, Nat.zero_le _⟩ (fun H locs hP hD hS => ?_)
        refine lv_iload_n hx hb dX5_askHolders_16 rfl (lv_at hl 1 rfl) ?_
        refine lv_icmp_ne (tgt := 26) hx hb dX5_askHolders_17 (by decide) (fun c_3 => ?_) (fun c_3 => ?_)
        · have h := (if_neg c_3).symm.trans h
          refine lv_iinc (v := (v3 + (iI 1))) (lv' := [(3, .int (v3 + (iI 1))), (0, .ref a_t), (1, .int p1), (2, .int p2)]) hx hb dX5_askHolders_26 hl (k := 3) rfl (kinc _ (by decide)) (by decide) rfl (fun ls hl => ?_)
          refine lv_goto (tgt := 2) hx hb dX5_askHolders_29 (by decide) ?_
          exact ih (v3 + (iI 1)) t_queued t_queue t_wantedBy _ _ _ h hP hD hS (lv_sub hl [1, 2, 3, 0] rfl)
        · have h := (if_pos c_3).symm.trans h
          refine lv_aload_n hx hb dX5_askHolders_20 rfl (lv_at hl 0 rfl) ?_
          refine lv_iload_n hx hb dX5_askHolders_21 rfl (lv_at hl 3 rfl) ?_
          refine lv_iload_n hx hb dX5_askHolders_22 rfl (lv_at hl 2 rfl) ?_
          obtain ⟨o4, hc4, h⟩ := kbind h
          refine kcvV (l := l) (E := E) (wc := [oo a_t 5 [.ref a_t_pushers, .ref a_t_hoursLeft, .ref a_t_slotOf, .ref a_t_wantedBy, .ref a_t_queue, .ref a_t_hoursSeen, .int t_queued, .int t_hasLatest], ar E a_t_queue 30 t_queue, ar E a_t_wantedBy 30 t_wantedBy]) (w1 := [oo a_t 5 [.ref a_t_pushers, .ref a_t_hoursLeft, .ref a_t_slotOf, .ref a_t_wantedBy, .ref a_t_queue, .ref a_t_hoursSeen, .int o4.1, .int t_hasLatest], ar E a_t_queue 30 o4.2.1, ar E a_t_wantedBy 30 o4.2.2]) (w' := [oo a_t 5 [.ref a_t_pushers, .ref a_t_hoursLeft, .ref a_t_slotOf, .ref a_t_wantedBy, .ref a_t_queue, .ref a_t_hoursSeen, .int o4.1, .int t_hasLatest], ar E a_t_queue 30 o4.2.1, ar E a_t_slotOf 30 t_slotOf, ar E a_t_wantedBy 30 o4.2.2]) (ads := [a_t, a_t_queue, a_t_wantedBy]) (As := [.int v3, .int p2]) (rest := []) (kX5_ask l E hc4) ⟨hx, hb, hml, hown, hts⟩ (cwV 2 hts gX5_askHolders_X5_ask rfl rfl rfl (by decide +kernel) ⟨by decide, by decide⟩) hE hP hD hS hA [0, 1, 3] (by decide) rfl rfl rfl rfl rfl rfl rfl rfl hl.1 rfl (Nat.le_of_ble_eq_true rfl) dX5_askHolders_23 ⟨Nat.zero_le _, Nat.zero_le _⟩ (fun H locs hP hD hS => ?_)
          refine lv_iinc (v := (v3 + (iI 1))) (lv' := [(3, .int (v3 + (iI 1))), (0, .ref a_t), (1, .int p1), (2, .int p2)]) hx hb dX5_askHolders_26 hl (k := 3) rfl (kinc _ (by decide)) (by decide) rfl (fun ls hl => ?_)
          refine lv_goto (tgt := 2) hx hb dX5_askHolders_29 (by decide) ?_
          exact ih (v3 + (iI 1)) o4.1 o4.2.1 o4.2.2 _ _ _ h hP hD hS (lv_sub hl [1, 2, 3, 0] rfl)
  rw [mX5_askHolders] at h
  refine lv_iconst (v := (iI 0)) hx hb dX5_askHolders_0 (by decide) ?_
  refine lv_istore_n (lv' := [(3, .int (iI 0)), (0, .ref a_t), (1, .int p1), (2, .int p2)]) hx hb dX5_askHolders_1 rfl hl (by decide) rfl (fun ls hl => ?_)
  exact L2 _ (iI 0) t_queued t_queue t_wantedBy _ _ _ h hP hD hS (lv_sub hl [1, 2, 3, 0] rfl)
abbrev rmX5_freeSlot : Room := { frames := 3, cells := 0, slots := 0, locals := 67 }
set_option maxHeartbeats 4000000 in
set_option maxRecDepth 100000 in
theorem kX5_freeSlot (l : Launch) (E : KE) {a_t : Nat} {a_t_pushers : Nat} {a_t_hoursLeft : Nat} {a_t_slotOf : Nat} {a_t_wantedBy : Nat} {a_t_queue : Nat} {a_t_hoursSeen : Nat} {p1 : Int32} {t_queued : Int32} {t_hasLatest : Int32} {t_hoursLeft : Nat → Int32} {t_hoursSeen : Nat → Int32} {t_pushers : Nat → Int32} {t_queue : Nat → Int32} {t_slotOf : Nat → Int32} {t_wantedBy : Nat → Int32} {out : Int32 × Int32 × (Nat → Int32) × (Nat → Int32) × (Nat → Int32)} (h : mX5_freeSlot p1 t_queued t_hoursLeft t_hoursSeen t_pushers t_queue t_slotOf t_wantedBy = some out) : KI l E yX5_freeSlot wsX5_freeSlot rmX5_freeSlot [.ref a_t, .int p1] [oo a_t 5 [.ref a_t_pushers, .ref a_t_hoursLeft, .ref a_t_slotOf, .ref a_t_wantedBy, .ref a_t_queue, .ref a_t_hoursSeen, .int t_queued, .int t_hasLatest], ar E a_t_hoursLeft 480 t_hoursLeft, ar E a_t_hoursSeen 16 t_hoursSeen, ar E a_t_pushers 16 t_pushers, ar E a_t_queue 30 t_queue, ar E a_t_slotOf 30 t_slotOf, ar E a_t_wantedBy 30 t_wantedBy] [oo a_t 5 [.ref a_t_pushers, .ref a_t_hoursLeft, .ref a_t_slotOf, .ref a_t_wantedBy, .ref a_t_queue, .ref a_t_hoursSeen, .int out.2.1, .int t_hasLatest], ar E a_t_hoursLeft 480 t_hoursLeft, ar E a_t_hoursSeen 16 out.2.2.1, ar E a_t_pushers 16 t_pushers, ar E a_t_queue 30 out.2.2.2.1, ar E a_t_slotOf 30 t_slotOf, ar E a_t_wantedBy 30 out.2.2.2.2] out.1 := by
  refine kmetI (T := Int32 × Int32 × (Nat → Int32) × (Nat → Int32) × (Nat → Int32)) (out := out) (wf := (fun (o : Int32 × Int32 × (Nat → Int32) × (Nat → Int32) × (Nat → Int32)) => [oo a_t 5 [.ref a_t_pushers, .ref a_t_hoursLeft, .ref a_t_slotOf, .ref a_t_wantedBy, .ref a_t_queue, .ref a_t_hoursSeen, .int o.2.1, .int t_hasLatest], ar E a_t_hoursLeft 480 t_hoursLeft, ar E a_t_hoursSeen 16 o.2.2.1, ar E a_t_pushers 16 t_pushers, ar E a_t_queue 30 o.2.2.2.1, ar E a_t_slotOf 30 t_slotOf, ar E a_t_wantedBy 30 o.2.2.2.2])) (rf := (fun (o : Int32 × Int32 × (Nat → Int32) × (Nat → Int32) × (Nat → Int32)) => o.1)) (cc := cX5_freeSlot) (maxL := 6) (ty := .int) (by decide) rfl (Nat.le_of_ble_eq_true rfl) ?_
  intro p e s m args below meth c A Q ls hx hb hml hts hown hE hP hD hS hA hl hret
  have hown : s.vm.findClass RX5 = some m.cls := hown
  have hK := hE.1
  have hl : lv_has ls 6 [(0, .ref a_t), (1, .int p1)] := hl
  have hP : va_P (kD E) vwCl [oo a_t 5 [.ref a_t_pushers, .ref a_t_hoursLeft, .ref a_t_slotOf, .ref a_t_wantedBy, .ref a_t_queue, .ref a_t_hoursSeen, .int t_queued, .int t_hasLatest], ar E a_t_hoursLeft 480 t_hoursLeft, ar E a_t_hoursSeen 16 t_hoursSeen, ar E a_t_pushers 16 t_pushers, ar E a_t_queue 30 t_queue, ar E a_t_slotOf 30 t_slotOf, ar E a_t_wantedBy 30 t_wantedBy] s.heap := hP
  have hD : va_D A [oo a_t 5 [.ref a_t_pushers, .ref a_t_hoursLeft, .ref a_t_slotOf, .ref a_t_wantedBy, .ref a_t_queue, .ref a_t_hoursSeen, .int t_queued, .int t_hasLatest], ar E a_t_hoursLeft 480 t_hoursLeft, ar E a_t_hoursSeen 16 t_hoursSeen, ar E a_t_pushers 16 t_pushers, ar E a_t_queue 30 t_queue, ar E a_t_slotOf 30 t_slotOf, ar E a_t_wantedBy 30 t_wantedBy] := hD
  have iX5 : ∀ w ∈ wsX50, w ∈ wsX5_freeSlot := by decide +kernel
  have w1 := hts (.fieldLink RX5 15 "GaugeWeekend$Shops" "hoursLeft" "[I") (by decide +kernel)
  have w2 := hts (.initialized RX9) (by decide +kernel)
  have w3 := hts (.static yX9_at) (by decide +kernel)
  have w4 := hts (.fieldLink RX5 27 "GaugeWeekend$Shops" "hoursSeen" "[I") (by decide +kernel)
  have w5 := hts (.fieldLink RX5 9 "GaugeWeekend$Shops" "pushers" "[I") (by decide +kernel)
  have w6 := hts (.static yX9_put) (by decide +kernel)
  have L32 : ∀ (v2 : Int32) (v3 : Int32) (k92 : Int32 → (Nat → Int32) → (Nat → Int32) → (Nat → Int32) → Option (Int32 × Int32 × (Nat → Int32) × (Nat → Int32) × (Nat → Int32))) (hk92 : ∀ (t_queued : Int32) (t_hoursSeen : Nat → Int32) (t_queue : Nat → Int32) (t_wantedBy : Nat → Int32) (H : Heap) (locs : List Loc) (ls : Array Slot) (h : k92 t_queued t_hoursSeen t_queue t_wantedBy = some out) (hP : va_P (kD E) vwCl [oo a_t 5 [.ref a_t_pushers, .ref a_t_hoursLeft, .ref a_t_slotOf, .ref a_t_wantedBy, .ref a_t_queue, .ref a_t_hoursSeen, .int t_queued, .int t_hasLatest], ar E a_t_hoursLeft 480 t_hoursLeft, ar E a_t_hoursSeen 16 t_hoursSeen, ar E a_t_pushers 16 t_pushers, ar E a_t_queue 30 t_queue, ar E a_t_slotOf 30 t_slotOf, ar E a_t_wantedBy 30 t_wantedBy] H) (hD : va_D A [oo a_t 5 [.ref a_t_pushers, .ref a_t_hoursLeft, .ref a_t_slotOf, .ref a_t_wantedBy, .ref a_t_queue, .ref a_t_hoursSeen, .int t_queued, .int t_hasLatest], ar E a_t_hoursLeft 480 t_hoursLeft, ar E a_t_hoursSeen 16 t_hoursSeen, ar E a_t_pushers 16 t_pushers, ar E a_t_queue 30 t_queue, ar E a_t_slotOf 30 t_slotOf, ar E a_t_wantedBy 30 t_wantedBy]) (hS : va_S A s.heap H locs) (hl : lv_has ls 6 [(0, .ref a_t), (1, .int p1), (2, .int v2)]), W p l e rmX5_freeSlot s m args below meth c H locs 0 0 Q (F0 m 92 ls [])) (n : Nat) (v4 : Int32) (t_queued : Int32) (t_hoursSeen : Nat → Int32) (t_queue : Nat → Int32) (t_wantedBy : Nat → Int32) (H : Heap) (locs : List Loc) (ls : Array Slot) (h : mX5_freeSlot_L32 p1 t_pushers t_slotOf v2 v3 k92 n v4 t_queued t_hoursSeen t_queue t_wantedBy = some out) (hP : va_P (kD E) vwCl [oo a_t 5 [.ref a_t_pushers, .ref a_t_hoursLeft, .ref a_t_slotOf, .ref a_t_wantedBy, .ref a_t_queue, .ref a_t_hoursSeen, .int t_queued, .int t_hasLatest], ar E a_t_hoursLeft 480 t_hoursLeft, ar E a_t_hoursSeen 16 t_hoursSeen, ar E a_t_pushers 16 t_pushers, ar E a_t_queue 30 t_queue, ar E a_t_slotOf 30 t_slotOf, ar E a_t_wantedBy 30 t_wantedBy] H) (hD : va_D A [oo a_t 5 [.ref a_t_pushers, .ref a_t_hoursLeft, .ref a_t_slotOf, .ref a_t_wantedBy, .ref a_t_queue, .ref a_t_hoursSeen, .int t_queued, .int t_hasLatest], ar E a_t_hoursLeft 480 t_hoursLeft, ar E a_t_hoursSeen 16 t_hoursSeen, ar E a_t_pushers 16 t_pushers, ar E a_t_queue 30 t_queue, ar E a_t_slotOf 30 t_slotOf, ar E a_t_wantedBy 30 t_wantedBy]) (hS : va_S A s.heap H locs) (hl : lv_has ls 6 [(0, .ref a_t), (1, .int p1), (2, .int v2), (3, .int v3), (4, .int v4)]), W p l e rmX5_freeSlot s m args below meth c H locs 0 0 Q (F0 m 32 ls []) := by
    intro v2 v3 k92 hk92 n
    induction n with
    | zero =>
      intro v4 t_queued t_hoursSeen t_queue t_wantedBy H locs ls h
      rw [mX5_freeSlot_L32] at h
      cases h
    | succ n ih =>
      intro v4 t_queued t_hoursSeen t_queue t_wantedBy H locs ls h hP hD hS hl
      rw [mX5_freeSlot_L32] at h
      refine lv_iload hx hb dX5_freeSlot_32 (lv_at hl 4 rfl) ?_
      refine lv_iload_n hx hb dX5_freeSlot_34 rfl (lv_at hl 3 rfl) ?_
      refine lv_icmp_ge (tgt := 92) hx hb dX5_freeSlot_35 (by decide) (fun c_4 => ?_) (fun c_4 => ?_)
      · have h := (if_pos c_4).symm.trans h
        exact hk92 t_queued t_hoursSeen t_queue t_wantedBy _ _ _ h hP hD hS (lv_sub hl [0, 1, 2] rfl)
      · have h := (if_neg c_4).symm.trans h
        refine lv_iload_n hx hb dX5_freeSlot_38 rfl (lv_at hl 2 rfl) ?_
        refine lv_bipush (v := (iI 30)) hx hb dX5_freeSlot_39 (by decide) ?_
        refine lv_imul hx hb dX5_freeSlot_41 ?_
        refine lv_iload hx hb dX5_freeSlot_42 (lv_at hl 4 rfl) ?_
        refine lv_iadd hx hb dX5_freeSlot_44 ?_
        refine lv_istore (lv' := [(5, .int ((v2 * (iI 30)) + v4)), (0, .ref a_t), (1, .int p1), (2, .int v2), (3, .int v3), (4, .int v4)]) hx hb dX5_freeSlot_45 hl (by decide) rfl (fun ls hl => ?_)
        refine lv_aload_n hx hb dX5_freeSlot_47 rfl (lv_at hl 1 rfl) ?_
        refine lv_iload hx hb dX5_freeSlot_48 (lv_at hl 0 rfl) ?_
        obtain ⟨o5, hc5, h⟩ := kbind h
        refine kciV (l := l) (E := E) (wc := [oo a_t 5 [.ref a_t_pushers, .ref a_t_hoursLeft, .ref a_t_slotOf, .ref a_t_wantedBy, .ref a_t_queue, .ref a_t_hoursSeen, .int t_queued, .int t_hasLatest], ar E a_t_slotOf 30 t_slotOf]) (w1 := [oo a_t 5 [.ref a_t_pushers, .ref a_t_hoursLeft, .ref a_t_slotOf, .ref a_t_wantedBy, .ref a_t_queue, .ref a_t_hoursSeen, .int t_queued, .int t_hasLatest], ar E a_t_slotOf 30 t_slotOf]) (w' := [oo a_t 5 [.ref a_t_pushers, .ref a_t_hoursLeft, .ref a_t_slotOf, .ref a_t_wantedBy, .ref a_t_queue, .ref a_t_hoursSeen, .int t_queued, .int t_hasLatest], ar E a_t_hoursLeft 480 t_hoursLeft, ar E a_t_hoursSeen 16 t_hoursSeen, ar E a_t_pushers 16 t_pushers, ar E a_t_queue 30 t_queue, ar E a_t_slotOf 30 t_slotOf, ar E a_t_wantedBy 30 t_wantedBy]) (ads := [a_t, a_t_slotOf]) (r := o5) (As := [.int ((v2 * (iI 30)) + v4)]) (rest := []) (kX5_manyIn l E hc5) ⟨hx, hb, hml, hown, hts⟩ (cwV 1 hts gX5_freeSlot_X5_manyIn rfl rfl rfl (by decide +kernel) ⟨by decide, by decide⟩) hE hP hD hS hA [0, 5] (by decide) rfl rfl rfl rfl rfl rfl rfl rfl hl.1 rfl (Nat.le_of_ble_eq_true rfl) dX5_freeSlot_50 ⟨Nat.zero_le _, Nat.zero_le _⟩ (fun H locs hP hD hS => ?_)
        refine lv_aload_n hx hb dX5_freeSlot_53 rfl (lv_at hl 1 rfl) ?_
        refine va_get (D := kD E) (cl := vwCl) (tys := kT E) (ci := 5) (v := .ref a_t_pushers) (C := RX5) (T := TX5) (N := 8) hx hb hts iX5 hown hK hP 0 rfl rfl 0 (by decide) w5 (fun _ h9 => h9) rfl dX5_freeSlot_54 ?_
        refine lv_iload_n hx hb dX5_freeSlot_57 rfl (lv_at hl 3 rfl) ?_
        refine kciN (l := l) (E := E) (wc := [ar E a_t_pushers 16 t_pushers]) (w1 := [ar E a_t_pushers 16 t_pushers]) (w' := [oo a_t 5 [.ref a_t_pushers, .ref a_t_hoursLeft, .ref a_t_slotOf, .ref a_t_wantedBy, .ref a_t_queue, .ref a_t_hoursSeen, .int t_queued, .int t_hasLatest], ar E a_t_hoursLeft 480 t_hoursLeft, ar E a_t_hoursSeen 16 t_hoursSeen, ar E a_t_pushers 16 t_pushers, ar E a_t_queue 30 t_queue, ar E a_t_slotOf 30 t_slotOf, ar E a_t_wantedBy 30 t_wantedBy]) (ads := [a_t_pushers]) (r := (mX9_at 16 v2 t_pushers)) (As := [.ref a_t_pushers, .int v2]) (rest := [.int o5]) (kX9_at l E (hn_q0 := (Nat.le_of_ble_eq_true rfl)) rfl) ⟨hx, hb, hml, hown, hts⟩ ⟨va_cnB 2 hts gX5_freeSlot_X9_at_n46 rfl rfl rfl (nwm_25 hE.2.1) w2 (by decide +kernel) ⟨by decide, by decide⟩, w3, trivial⟩ hE hP hD hS hA [3] (by decide) rfl rfl rfl rfl  rfl hl.1 rfl (Nat.le_of_ble_eq_true rfl) dX5_freeSlot_58 ⟨Nat.zero_le _, Nat.zero_le _⟩ (fun H locs hP hD hS => ?_)
        refine lv_icmp_ge (tgt := 67) hx hb dX5_freeSlot_61 (by decide) (fun c_7 => ?_) (fun c_7 => ?_)
        · have h := (if_pos c_7).symm.trans h
          refine lv_aload_n hx hb dX5_freeSlot_67 rfl (lv_at hl 1 rfl) ?_
          refine lv_iload hx hb dX5_freeSlot_68 (lv_at hl 0 rfl) ?_
          refine lv_iload_n hx hb dX5_freeSlot_70 rfl (lv_at hl 2 rfl) ?_
          obtain ⟨o8, hc8, h⟩ := kbind h
          refine kcvV (l := l) (E := E) (wc := [oo a_t 5 [.ref a_t_pushers, .ref a_t_hoursLeft, .ref a_t_slotOf, .ref a_t_wantedBy, .ref a_t_queue, .ref a_t_hoursSeen, .int t_queued, .int t_hasLatest], ar E a_t_queue 30 t_queue, ar E a_t_slotOf 30 t_slotOf, ar E a_t_wantedBy 30 t_wantedBy]) (w1 := [oo a_t 5 [.ref a_t_pushers, .ref a_t_hoursLeft, .ref a_t_slotOf, .ref a_t_wantedBy, .ref a_t_queue, .ref a_t_hoursSeen, .int o8.1, .int t_hasLatest], ar E a_t_queue 30 o8.2.1, ar E a_t_slotOf 30 t_slotOf, ar E a_t_wantedBy 30 o8.2.2]) (w' := [oo a_t 5 [.ref a_t_pushers, .ref a_t_hoursLeft, .ref a_t_slotOf, .ref a_t_wantedBy, .ref a_t_queue, .ref a_t_hoursSeen, .int o8.1, .int t_hasLatest], ar E a_t_hoursLeft 480 t_hoursLeft, ar E a_t_hoursSeen 16 t_hoursSeen, ar E a_t_pushers 16 t_pushers, ar E a_t_queue 30 o8.2.1, ar E a_t_slotOf 30 t_slotOf, ar E a_t_wantedBy 30 o8.2.2]) (ads := [a_t, a_t_queue, a_t_slotOf, a_t_wantedBy]) (As := [.int ((v2 * (iI 30)) + v4), .int p1]) (rest := []) (kX5_askHolders l E hc8) ⟨hx, hb, hml, hown, hts⟩ (cwV 2 hts gX5_freeSlot_X5_askHolders rfl rfl rfl (by decide +kernel) ⟨by decide, by decide⟩) hE hP hD hS hA [0, 4, 5, 6] (by decide) rfl rfl rfl rfl rfl rfl rfl rfl hl.1 rfl (Nat.le_of_ble_eq_true rfl) dX5_freeSlot_71 ⟨Nat.zero_le _, Nat.zero_le _⟩ (fun H locs hP hD hS => ?_)
          refine lv_aload_n hx hb dX5_freeSlot_74 rfl (lv_at hl 1 rfl) ?_
          refine va_get (D := kD E) (cl := vwCl) (tys := kT E) (ci := 5) (v := .ref a_t_hoursSeen) (C := RX5) (T := TX5) (N := 8) hx hb hts iX5 hown hK hP 0 rfl rfl 5 (by decide) w4 (fun _ h9 => h9) rfl dX5_freeSlot_75 ?_
          refine lv_iload_n hx hb dX5_freeSlot_78 rfl (lv_at hl 3 rfl) ?_
          refine lv_iload hx hb dX5_freeSlot_79 (lv_at hl 5 rfl) ?_
          refine lv_iconst (v := (iI 1)) hx hb dX5_freeSlot_81 (by decide) ?_
          refine lv_iadd hx hb dX5_freeSlot_82 ?_
          refine kcvN (l := l) (E := E) (wc := [ar E a_t_hoursSeen 16 t_hoursSeen]) (w1 := [ar E a_t_hoursSeen 16 (mX9_put 16 v2 (v4 + (iI 1)) t_hoursSeen)]) (w' := [oo a_t 5 [.ref a_t_pushers, .ref a_t_hoursLeft, .ref a_t_slotOf, .ref a_t_wantedBy, .ref a_t_queue, .ref a_t_hoursSeen, .int o8.1, .int t_hasLatest], ar E a_t_hoursLeft 480 t_hoursLeft, ar E a_t_hoursSeen 16 (mX9_put 16 v2 (v4 + (iI 1)) t_hoursSeen), ar E a_t_pushers 16 t_pushers, ar E a_t_queue 30 o8.2.1, ar E a_t_slotOf 30 t_slotOf, ar E a_t_wantedBy 30 o8.2.2]) (ads := [a_t_hoursSeen]) (As := [.ref a_t_hoursSeen, .int v2, .int (v4 + (iI 1))]) (rest := []) (kX9_put l E (hn_q0 := (Nat.le_of_ble_eq_true rfl)) rfl) ⟨hx, hb, hml, hown, hts⟩ ⟨va_cnB 3 hts gX5_freeSlot_X9_put_n50 rfl rfl rfl (nwm_26 hE.2.1) w2 (by decide +kernel) ⟨by decide, by decide⟩, w6, trivial⟩ hE hP hD hS hA [2] (by decide) rfl rfl rfl rfl  rfl hl.1 rfl (Nat.le_of_ble_eq_true rfl) dX5_freeSlot_83 ⟨Nat.zero_le _, Nat.zero_le _⟩ (fun H locs hP hD hS => ?_)
          refine lv_iinc (v := (v4 + (iI 1))) (lv' := [(4, .int (v4 + (iI 1))), (5, .int ((v2 * (iI 30)) + v4)), (0, .ref a_t), (1, .int p1), (2, .int v2), (3, .int v3)]) hx hb dX5_freeSlot_86 hl (k := 5) rfl (kinc _ (by decide)) (by decide) rfl (fun ls hl => ?_)
          refine lv_goto (tgt := 32) hx hb dX5_freeSlot_89 (by decide) ?_
          exact ih (v4 + (iI 1)) o8.1 (mX9_put 16 v2 (v4 + (iI 1)) t_hoursSeen) o8.2.1 o8.2.2 _ _ _ h hP hD hS (lv_sub hl [2, 3, 4, 5, 0] rfl)
        · have h := (if_neg c_7).symm.trans h
          refine lv_iload hx hb dX5_freeSlot_64 (lv_at hl 0 rfl) ?_
          exact hret _ _ (((v2 * (iI 30)) + v4), t_queued, t_hoursSeen, t_queue, t_wantedBy) _ _ _ (Option.some.inj h) rfl rfl hP hS dX5_freeSlot_66
  have L2 : ∀ (n : Nat) (v2 : Int32) (t_queued : Int32) (t_hoursSeen : Nat → Int32) (t_queue : Nat → Int32) (t_wantedBy : Nat → Int32) (H : Heap) (locs : List Loc) (ls : Array Slot) (h : mX5_freeSlot_L2 p1 t_hoursLeft t_pushers t_slotOf n v2 t_queued t_hoursSeen t_queue t_wantedBy = some out) (hP : va_P (kD E) vwCl [oo a_t 5 [.ref a_t_pushers, .ref a_t_hoursLeft, .ref a_t_slotOf, .ref a_t_wantedBy, .ref a_t_queue, .ref a_t_hoursSeen, .int t_queued, .int t_hasLatest], ar E a_t_hoursLeft 480 t_hoursLeft, ar E a_t_hoursSeen 16 t_hoursSeen, ar E a_t_pushers 16 t_pushers, ar E a_t_queue 30 t_queue, ar E a_t_slotOf 30 t_slotOf, ar E a_t_wantedBy 30 t_wantedBy] H) (hD : va_D A [oo a_t 5 [.ref a_t_pushers, .ref a_t_hoursLeft, .ref a_t_slotOf, .ref a_t_wantedBy, .ref a_t_queue, .ref a_t_hoursSeen, .int t_queued, .int t_hasLatest], ar E a_t_hoursLeft 480 t_hoursLeft, ar E a_t_hoursSeen 16 t_hoursSeen, ar E a_t_pushers 16 t_pushers, ar E a_t_queue 30 t_queue, ar E a_t_slotOf 30 t_slotOf, ar E a_t_wantedBy 30 t_wantedBy]) (hS : va_S A s.heap H locs) (hl : lv_has ls 6 [(0, .ref a_t), (1, .int p1), (2, .int v2)]), W p l e rmX5_freeSlot s m args below meth c H locs 0 0 Q (F0 m 2 ls []) := by
    intro  n
    induction n with
    | zero =>
      intro v2 t_queued t_hoursSeen t_queue t_wantedBy H locs ls h
      rw [mX5_freeSlot_L2] at h
      cases h
    | succ n ih =>
      intro v2 t_queued t_hoursSeen t_queue t_wantedBy H locs ls h hP hD hS hl
      rw [mX5_freeSlot_L2] at h
      refine lv_iload_n hx hb dX5_freeSlot_2 rfl (lv_at hl 2 rfl) ?_
      refine lv_bipush (v := (iI 16)) hx hb dX5_freeSlot_3 (by decide) ?_
      refine lv_icmp_ge (tgt := 98) hx hb dX5_freeSlot_5 (by decide) (fun c_1 => ?_) (fun c_1 => ?_)
      · have h := (if_pos c_1).symm.trans h
        refine lv_iconst (v := (iI (-1))) hx hb dX5_freeSlot_98 (by decide) ?_
        exact hret _ _ ((iI (-1)), t_queued, t_hoursSeen, t_queue, t_wantedBy) _ _ _ (Option.some.inj h) rfl rfl hP hS dX5_freeSlot_99
      · have h := (if_neg c_1).symm.trans h
        refine lv_aload_n hx hb dX5_freeSlot_8 rfl (lv_at hl 0 rfl) ?_
        refine va_get (D := kD E) (cl := vwCl) (tys := kT E) (ci := 5) (v := .ref a_t_hoursLeft) (C := RX5) (T := TX5) (N := 8) hx hb hts iX5 hown hK hP 0 rfl rfl 1 (by decide) w1 (fun _ h9 => h9) rfl dX5_freeSlot_9 ?_
        refine lv_iload_n hx hb dX5_freeSlot_12 rfl (lv_at hl 1 rfl) ?_
        refine lv_bipush (v := (iI 16)) hx hb dX5_freeSlot_13 (by decide) ?_
        refine lv_imul hx hb dX5_freeSlot_15 ?_
        refine lv_iload_n hx hb dX5_freeSlot_16 rfl (lv_at hl 2 rfl) ?_
        refine lv_iadd hx hb dX5_freeSlot_17 ?_
        refine kciN (l := l) (E := E) (wc := [ar E a_t_hoursLeft 480 t_hoursLeft]) (w1 := [ar E a_t_hoursLeft 480 t_hoursLeft]) (w' := [oo a_t 5 [.ref a_t_pushers, .ref a_t_hoursLeft, .ref a_t_slotOf, .ref a_t_wantedBy, .ref a_t_queue, .ref a_t_hoursSeen, .int t_queued, .int t_hasLatest], ar E a_t_hoursLeft 480 t_hoursLeft, ar E a_t_hoursSeen 16 t_hoursSeen, ar E a_t_pushers 16 t_pushers, ar E a_t_queue 30 t_queue, ar E a_t_slotOf 30 t_slotOf, ar E a_t_wantedBy 30 t_wantedBy]) (ads := [a_t_hoursLeft]) (r := (mX9_at 480 ((p1 * (iI 16)) + v2) t_hoursLeft)) (As := [.ref a_t_hoursLeft, .int ((p1 * (iI 16)) + v2)]) (rest := []) (kX9_at l E (hn_q0 := (Nat.le_of_ble_eq_true rfl)) rfl) ⟨hx, hb, hml, hown, hts⟩ ⟨va_cnB 2 hts gX5_freeSlot_X9_at_n46 rfl rfl rfl (nwm_25 hE.2.1) w2 (by decide +kernel) ⟨by decide, by decide⟩, w3, trivial⟩ hE hP hD hS hA [1] (by decide) rfl rfl rfl rfl  rfl hl.1 rfl (Nat.le_of_ble_eq_true rfl) dX5_freeSlot_18 ⟨Nat.zero_le _, Nat.zero_le _⟩ (fun H locs hP hD hS => ?_)
        refine lv_istore_n (lv' := [(3, .int (mX9_at 480 ((p1 * (iI 16)) + v2) t_hoursLeft)), (0, .ref a_t), (1, .int p1), (2, .int v2)]) hx hb dX5_freeSlot_21 rfl hl (by decide) rfl (fun ls hl => ?_)
        refine lv_aload_n hx hb dX5_freeSlot_22 rfl (lv_at hl 1 rfl) ?_
        refine va_get (D := kD E) (cl := vwCl) (tys := kT E) (ci := 5) (v := .ref a_t_hoursSeen) (C := RX5) (T := TX5) (N := 8) hx hb hts iX5 hown hK hP 0 rfl rfl 5 (by decide) w4 (fun _ h9 => h9) rfl dX5_freeSlot_23 ?_
        refine lv_iload_n hx hb dX5_freeSlot_26 rfl (lv_at hl 3 rfl) ?_
        refine kciN (l := l) (E := E) (wc := [ar E a_t_hoursSeen 16 t_hoursSeen]) (w1 := [ar E a_t_hoursSeen 16 t_hoursSeen]) (w' := [oo a_t 5 [.ref a_t_pushers, .ref a_t_hoursLeft, .ref a_t_slotOf, .ref a_t_wantedBy, .ref a_t_queue, .ref a_t_hoursSeen, .int t_queued, .int t_hasLatest], ar E a_t_hoursLeft 480 t_hoursLeft, ar E a_t_hoursSeen 16 t_hoursSeen, ar E a_t_pushers 16 t_pushers, ar E a_t_queue 30 t_queue, ar E a_t_slotOf 30 t_slotOf, ar E a_t_wantedBy 30 t_wantedBy]) (ads := [a_t_hoursSeen]) (r := (mX9_at 16 v2 t_hoursSeen)) (As := [.ref a_t_hoursSeen, .int v2]) (rest := []) (kX9_at l E (hn_q0 := (Nat.le_of_ble_eq_true rfl)) rfl) ⟨hx, hb, hml, hown, hts⟩ ⟨va_cnB 2 hts gX5_freeSlot_X9_at_n46 rfl rfl rfl (nwm_25 hE.2.1) w2 (by decide +kernel) ⟨by decide, by decide⟩, w3, trivial⟩ hE hP hD hS hA [2] (by decide) rfl rfl rfl rfl  rfl hl.1 rfl (Nat.le_of_ble_eq_true rfl) dX5_freeSlot_27 ⟨Nat.zero_le _, Nat.zero_le _⟩ (fun H locs hP hD hS => ?_)
        refine lv_istore (lv' := [(4, .int (mX9_at 16 v2 t_hoursSeen)), (3, .int (mX9_at 480 ((p1 * (iI 16)) + v2) t_hoursLeft)), (0, .ref a_t), (1, .int p1), (2, .int v2)]) hx hb dX5_freeSlot_30 hl (by decide) rfl (fun ls hl => ?_)
        refine L32 v2 (mX9_at 480 ((p1 * (iI 16)) + v2) t_hoursLeft) _ ?_ _ (mX9_at 16 v2 t_hoursSeen) t_queued t_hoursSeen t_queue t_wantedBy _ _ _ h hP hD hS (lv_sub hl [2, 3, 4, 1, 0] rfl)
        · intro t_queued_10 t_hoursSeen_10 t_queue_10 t_wantedBy_10 H locs ls h hP hD hS hl
          refine lv_iinc (v := (v2 + (iI 1))) (lv' := [(2, .int (v2 + (iI 1))), (0, .ref a_t), (1, .int p1)]) hx hb dX5_freeSlot_92 hl (k := 2) rfl (kinc _ (by decide)) (by decide) rfl (fun ls hl => ?_)
          refine lv_goto (tgt := 2) hx hb dX5_freeSlot_95 (by decide) ?_
          exact ih (v2 + (iI 1)) t_queued_10 t_hoursSeen_10 t_queue_10 t_wantedBy_10 _ _ _ h hP hD hS (lv_sub hl [1, 2, 0] rfl)
  rw [mX5_freeSlot] at h
  refine lv_iconst (v := (iI 0)) hx hb dX5_freeSlot_0 (by decide) ?_
  refine lv_istore_n (lv' := [(2, .int (iI 0)), (0, .ref a_t), (1, .int p1)]) hx hb dX5_freeSlot_1 rfl hl (by decide) rfl (fun ls hl => ?_)
  exact L2 _ (iI 0) t_queued t_hoursSeen t_queue t_wantedBy _ _ _ h hP hD hS (lv_sub hl [1, 2, 0] rfl)
abbrev rmX5_moveOn : Room := { frames := 1, cells := 0, slots := 0, locals := 22 }
set_option maxHeartbeats 4000000 in
set_option maxRecDepth 100000 in
theorem kX5_moveOn (l : Launch) (E : KE) {a_t : Nat} {a_t_pushers : Nat} {a_t_hoursLeft : Nat} {a_t_slotOf : Nat} {a_t_wantedBy : Nat} {a_t_queue : Nat} {a_t_hoursSeen : Nat} {p1 : Int32} {p2 : Int32} {t_queued : Int32} {t_hasLatest : Int32} {t_slotOf : Nat → Int32} {t_wantedBy : Nat → Int32} {out : (Nat → Int32)} (h : mX5_moveOn p1 p2 t_slotOf t_wantedBy = some out) : KV l E yX5_moveOn wsX5_moveOn rmX5_moveOn [.ref a_t, .int p1, .int p2] [oo a_t 5 [.ref a_t_pushers, .ref a_t_hoursLeft, .ref a_t_slotOf, .ref a_t_wantedBy, .ref a_t_queue, .ref a_t_hoursSeen, .int t_queued, .int t_hasLatest], ar E a_t_slotOf 30 t_slotOf, ar E a_t_wantedBy 30 t_wantedBy] [oo a_t 5 [.ref a_t_pushers, .ref a_t_hoursLeft, .ref a_t_slotOf, .ref a_t_wantedBy, .ref a_t_queue, .ref a_t_hoursSeen, .int t_queued, .int t_hasLatest], ar E a_t_slotOf 30 out, ar E a_t_wantedBy 30 t_wantedBy] := by
  refine kmetV (T := (Nat → Int32)) (out := out) (wf := (fun (o : (Nat → Int32)) => [oo a_t 5 [.ref a_t_pushers, .ref a_t_hoursLeft, .ref a_t_slotOf, .ref a_t_wantedBy, .ref a_t_queue, .ref a_t_hoursSeen, .int t_queued, .int t_hasLatest], ar E a_t_slotOf 30 o, ar E a_t_wantedBy 30 t_wantedBy])) (cc := cX5_moveOn) (maxL := 7) (by decide) rfl (Nat.le_of_ble_eq_true rfl) ?_
  intro p e s m args below meth c A Q ls hx hb hml hts hown hE hP hD hS hA hl hret
  have hown : s.vm.findClass RX5 = some m.cls := hown
  have hK := hE.1
  have hl : lv_has ls 7 [(0, .ref a_t), (1, .int p1), (2, .int p2)] := hl
  have hP : va_P (kD E) vwCl [oo a_t 5 [.ref a_t_pushers, .ref a_t_hoursLeft, .ref a_t_slotOf, .ref a_t_wantedBy, .ref a_t_queue, .ref a_t_hoursSeen, .int t_queued, .int t_hasLatest], ar E a_t_slotOf 30 t_slotOf, ar E a_t_wantedBy 30 t_wantedBy] s.heap := hP
  have hD : va_D A [oo a_t 5 [.ref a_t_pushers, .ref a_t_hoursLeft, .ref a_t_slotOf, .ref a_t_wantedBy, .ref a_t_queue, .ref a_t_hoursSeen, .int t_queued, .int t_hasLatest], ar E a_t_slotOf 30 t_slotOf, ar E a_t_wantedBy 30 t_wantedBy] := hD
  have iX5 : ∀ w ∈ wsX50, w ∈ wsX5_moveOn := by decide +kernel
  have w1 := hts (.fieldLink RX5 18 "GaugeWeekend$Shops" "slotOf" "[I") (by decide +kernel)
  have w2 := hts (.initialized RX9) (by decide +kernel)
  have w3 := hts (.static yX9_at) (by decide +kernel)
  have w4 := hts (.static yX9_put) (by decide +kernel)
  have w5 := hts (.fieldLink RX5 21 "GaugeWeekend$Shops" "wantedBy" "[I") (by decide +kernel)
  have L8 : ∀ (n : Nat) (v3 : Int32) (v4 : Int32) (v5 : Int32) (t_slotOf : Nat → Int32) (H : Heap) (locs : List Loc) (ls : Array Slot) (h : mX5_moveOn_L8 t_wantedBy n v3 v4 v5 t_slotOf = some out) (hP : va_P (kD E) vwCl [oo a_t 5 [.ref a_t_pushers, .ref a_t_hoursLeft, .ref a_t_slotOf, .ref a_t_wantedBy, .ref a_t_queue, .ref a_t_hoursSeen, .int t_queued, .int t_hasLatest], ar E a_t_slotOf 30 t_slotOf, ar E a_t_wantedBy 30 t_wantedBy] H) (hD : va_D A [oo a_t 5 [.ref a_t_pushers, .ref a_t_hoursLeft, .ref a_t_slotOf, .ref a_t_wantedBy, .ref a_t_queue, .ref a_t_hoursSeen, .int t_queued, .int t_hasLatest], ar E a_t_slotOf 30 t_slotOf, ar E a_t_wantedBy 30 t_wantedBy]) (hS : va_S A s.heap H locs) (hl : lv_has ls 7 [(0, .ref a_t), (3, .int v3), (4, .int v4), (5, .int v5)]), W p l e rmX5_moveOn s m args below meth c H locs 0 0 Q (F0 m 8 ls []) := by
    intro  n
    induction n with
    | zero =>
      intro v3 v4 v5 t_slotOf H locs ls h
      rw [mX5_moveOn_L8] at h
      cases h
    | succ n ih =>
      intro v3 v4 v5 t_slotOf H locs ls h hP hD hS hl
      rw [mX5_moveOn_L8] at h
      refine lv_iload hx hb dX5_moveOn_8 (lv_at hl 3 rfl) ?_
      refine lv_bipush (v := (iI 30)) hx hb dX5_moveOn_10 (by decide) ?_
      refine lv_icmp_ge (tgt := 59) hx hb dX5_moveOn_12 (by decide) (fun c_1 => ?_) (fun c_1 => ?_)
      · have h := (if_pos c_1).symm.trans h
        exact hret _ t_slotOf _ _ _ (Option.some.inj h) hP hS dX5_moveOn_59
      · have h := (if_neg c_1).symm.trans h
        refine lv_iload_n hx hb dX5_moveOn_15 rfl (lv_at hl 1 rfl) ?_
        refine lv_iconst (v := (iI (-1))) hx hb dX5_moveOn_16 (by decide) ?_
        refine lv_icmp_eq (tgt := 59) hx hb dX5_moveOn_17 (by decide) (fun c_2 => ?_) (fun c_2 => ?_)
        · have h := (if_pos c_2).symm.trans h
          exact hret _ t_slotOf _ _ _ (Option.some.inj h) hP hS dX5_moveOn_59
        · have h := (if_neg c_2).symm.trans h
          refine lv_aload_n hx hb dX5_moveOn_20 rfl (lv_at hl 0 rfl) ?_
          refine va_get (D := kD E) (cl := vwCl) (tys := kT E) (ci := 5) (v := .ref a_t_slotOf) (C := RX5) (T := TX5) (N := 8) hx hb hts iX5 hown hK hP 0 rfl rfl 2 (by decide) w1 (fun _ h9 => h9) rfl dX5_moveOn_21 ?_
          refine lv_iload_n hx hb dX5_moveOn_24 rfl (lv_at hl 1 rfl) ?_
          refine kciN (l := l) (E := E) (wc := [ar E a_t_slotOf 30 t_slotOf]) (w1 := [ar E a_t_slotOf 30 t_slotOf]) (w' := [oo a_t 5 [.ref a_t_pushers, .ref a_t_hoursLeft, .ref a_t_slotOf, .ref a_t_wantedBy, .ref a_t_queue, .ref a_t_hoursSeen, .int t_queued, .int t_hasLatest], ar E a_t_slotOf 30 t_slotOf, ar E a_t_wantedBy 30 t_wantedBy]) (ads := [a_t_slotOf]) (r := (mX9_at 30 v3 t_slotOf)) (As := [.ref a_t_slotOf, .int v3]) (rest := []) (kX9_at l E (hn_q0 := (Nat.le_of_ble_eq_true rfl)) rfl) ⟨hx, hb, hml, hown, hts⟩ ⟨va_cnB 2 hts gX5_moveOn_X9_at_n46 rfl rfl rfl (nwm_25 hE.2.1) w2 (by decide +kernel) ⟨by decide, by decide⟩, w3, trivial⟩ hE hP hD hS hA [1] (by decide) rfl rfl rfl rfl  rfl hl.1 rfl (Nat.le_of_ble_eq_true rfl) dX5_moveOn_25 ⟨Nat.zero_le _, Nat.zero_le _⟩ (fun H locs hP hD hS => ?_)
          refine lv_istore (lv' := [(6, .int (mX9_at 30 v3 t_slotOf)), (0, .ref a_t), (3, .int v3), (4, .int v4), (5, .int v5)]) hx hb dX5_moveOn_28 hl (by decide) rfl (fun ls hl => ?_)
          refine lv_aload_n hx hb dX5_moveOn_30 rfl (lv_at hl 1 rfl) ?_
          refine va_get (D := kD E) (cl := vwCl) (tys := kT E) (ci := 5) (v := .ref a_t_slotOf) (C := RX5) (T := TX5) (N := 8) hx hb hts iX5 hown hK hP 0 rfl rfl 2 (by decide) w1 (fun _ h9 => h9) rfl dX5_moveOn_31 ?_
          refine lv_iload_n hx hb dX5_moveOn_34 rfl (lv_at hl 2 rfl) ?_
          refine lv_iload hx hb dX5_moveOn_35 (lv_at hl 3 rfl) ?_
          refine kcvN (l := l) (E := E) (wc := [ar E a_t_slotOf 30 t_slotOf]) (w1 := [ar E a_t_slotOf 30 (mX9_put 30 v3 v4 t_slotOf)]) (w' := [oo a_t 5 [.ref a_t_pushers, .ref a_t_hoursLeft, .ref a_t_slotOf, .ref a_t_wantedBy, .ref a_t_queue, .ref a_t_hoursSeen, .int t_queued, .int t_hasLatest], ar E a_t_slotOf 30 (mX9_put 30 v3 v4 t_slotOf), ar E a_t_wantedBy 30 t_wantedBy]) (ads := [a_t_slotOf]) (As := [.ref a_t_slotOf, .int v3, .int v4]) (rest := []) (kX9_put l E (hn_q0 := (Nat.le_of_ble_eq_true rfl)) rfl) ⟨hx, hb, hml, hown, hts⟩ ⟨va_cnB 3 hts gX5_moveOn_X9_put_n50 rfl rfl rfl (nwm_26 hE.2.1) w2 (by decide +kernel) ⟨by decide, by decide⟩, w4, trivial⟩ hE hP hD hS hA [1] (by decide) rfl rfl rfl rfl  rfl hl.1 rfl (Nat.le_of_ble_eq_true rfl) dX5_moveOn_37 ⟨Nat.zero_le _, Nat.zero_le _⟩ (fun H locs hP hD hS => ?_)
          refine lv_iload hx hb dX5_moveOn_40 (lv_at hl 0 rfl) ?_
          refine lv_istore (lv' := [(4, .int (mX9_at 30 v3 t_slotOf)), (6, .int (mX9_at 30 v3 t_slotOf)), (0, .ref a_t), (3, .int v3), (5, .int v5)]) hx hb dX5_moveOn_42 hl (by decide) rfl (fun ls hl => ?_)
          refine lv_aload_n hx hb dX5_moveOn_44 rfl (lv_at hl 2 rfl) ?_
          refine va_get (D := kD E) (cl := vwCl) (tys := kT E) (ci := 5) (v := .ref a_t_wantedBy) (C := RX5) (T := TX5) (N := 8) hx hb hts iX5 hown hK hP 0 rfl rfl 3 (by decide) w5 (fun _ h9 => h9) rfl dX5_moveOn_45 ?_
          refine lv_iload_n hx hb dX5_moveOn_48 rfl (lv_at hl 3 rfl) ?_
          refine kciN (l := l) (E := E) (wc := [ar E a_t_wantedBy 30 t_wantedBy]) (w1 := [ar E a_t_wantedBy 30 t_wantedBy]) (w' := [oo a_t 5 [.ref a_t_pushers, .ref a_t_hoursLeft, .ref a_t_slotOf, .ref a_t_wantedBy, .ref a_t_queue, .ref a_t_hoursSeen, .int t_queued, .int t_hasLatest], ar E a_t_slotOf 30 (mX9_put 30 v3 v4 t_slotOf), ar E a_t_wantedBy 30 t_wantedBy]) (ads := [a_t_wantedBy]) (r := (mX9_at 30 v3 t_wantedBy)) (As := [.ref a_t_wantedBy, .int v3]) (rest := []) (kX9_at l E (hn_q0 := (Nat.le_of_ble_eq_true rfl)) rfl) ⟨hx, hb, hml, hown, hts⟩ ⟨va_cnB 2 hts gX5_moveOn_X9_at_n46 rfl rfl rfl (nwm_25 hE.2.1) w2 (by decide +kernel) ⟨by decide, by decide⟩, w3, trivial⟩ hE hP hD hS hA [2] (by decide) rfl rfl rfl rfl  rfl hl.1 rfl (Nat.le_of_ble_eq_true rfl) dX5_moveOn_49 ⟨Nat.zero_le _, Nat.zero_le _⟩ (fun H locs hP hD hS => ?_)
          refine lv_istore_n (lv' := [(3, .int (mX9_at 30 v3 t_wantedBy)), (4, .int (mX9_at 30 v3 t_slotOf)), (6, .int (mX9_at 30 v3 t_slotOf)), (0, .ref a_t), (5, .int v5)]) hx hb dX5_moveOn_52 rfl hl (by decide) rfl (fun ls hl => ?_)
          refine lv_iinc (v := (v5 + (iI 1))) (lv' := [(5, .int (v5 + (iI 1))), (3, .int (mX9_at 30 v3 t_wantedBy)), (4, .int (mX9_at 30 v3 t_slotOf)), (6, .int (mX9_at 30 v3 t_slotOf)), (0, .ref a_t)]) hx hb dX5_moveOn_53 hl (k := 4) rfl (kinc _ (by decide)) (by decide) rfl (fun ls hl => ?_)
          refine lv_goto (tgt := 8) hx hb dX5_moveOn_56 (by decide) ?_
          exact ih (mX9_at 30 v3 t_wantedBy) (mX9_at 30 v3 t_slotOf) (v5 + (iI 1)) (mX9_put 30 v3 v4 t_slotOf) _ _ _ h hP hD hS (lv_sub hl [4, 1, 2, 0] rfl)
  rw [mX5_moveOn] at h
  refine lv_iload_n hx hb dX5_moveOn_0 rfl (lv_at hl 1 rfl) ?_
  refine lv_istore_n (lv' := [(3, .int p1), (0, .ref a_t), (1, .int p1), (2, .int p2)]) hx hb dX5_moveOn_1 rfl hl (by decide) rfl (fun ls hl => ?_)
  refine lv_iload_n hx hb dX5_moveOn_2 rfl (lv_at hl 3 rfl) ?_
  refine lv_istore (lv' := [(4, .int p2), (3, .int p1), (0, .ref a_t), (1, .int p1), (2, .int p2)]) hx hb dX5_moveOn_3 hl (by decide) rfl (fun ls hl => ?_)
  refine lv_iconst (v := (iI 0)) hx hb dX5_moveOn_5 (by decide) ?_
  refine lv_istore (lv' := [(5, .int (iI 0)), (4, .int p2), (3, .int p1), (0, .ref a_t), (1, .int p1), (2, .int p2)]) hx hb dX5_moveOn_6 hl (by decide) rfl (fun ls hl => ?_)
  exact L8 _ p1 p2 (iI 0) t_slotOf _ _ _ h hP hD hS (lv_sub hl [3, 2, 1, 0] rfl)
abbrev rmX5_comesIntoSet : Room := { frames := 4, cells := 0, slots := 0, locals := 92 }
set_option maxHeartbeats 4000000 in
set_option maxRecDepth 100000 in
theorem kX5_comesIntoSet (l : Launch) (E : KE) {a_t : Nat} {a_t_pushers : Nat} {a_t_hoursLeft : Nat} {a_t_slotOf : Nat} {a_t_wantedBy : Nat} {a_t_queue : Nat} {a_t_hoursSeen : Nat} {p1 : Int32} {t_queued : Int32} {t_hasLatest : Int32} {t_hoursLeft : Nat → Int32} {t_hoursSeen : Nat → Int32} {t_pushers : Nat → Int32} {t_queue : Nat → Int32} {t_slotOf : Nat → Int32} {t_wantedBy : Nat → Int32} {out : Int32 × Int32 × (Nat → Int32) × (Nat → Int32) × (Nat → Int32) × (Nat → Int32)} (h : mX5_comesIntoSet p1 t_hoursLeft t_hoursSeen t_pushers t_queue t_slotOf t_wantedBy = some out) : KI l E yX5_comesIntoSet wsX5_comesIntoSet rmX5_comesIntoSet [.ref a_t, .int p1] [oo a_t 5 [.ref a_t_pushers, .ref a_t_hoursLeft, .ref a_t_slotOf, .ref a_t_wantedBy, .ref a_t_queue, .ref a_t_hoursSeen, .int t_queued, .int t_hasLatest], ar E a_t_hoursLeft 480 t_hoursLeft, ar E a_t_hoursSeen 16 t_hoursSeen, ar E a_t_pushers 16 t_pushers, ar E a_t_queue 30 t_queue, ar E a_t_slotOf 30 t_slotOf, ar E a_t_wantedBy 30 t_wantedBy] [oo a_t 5 [.ref a_t_pushers, .ref a_t_hoursLeft, .ref a_t_slotOf, .ref a_t_wantedBy, .ref a_t_queue, .ref a_t_hoursSeen, .int out.2.1, .int t_hasLatest], ar E a_t_hoursLeft 480 t_hoursLeft, ar E a_t_hoursSeen 16 out.2.2.1, ar E a_t_pushers 16 t_pushers, ar E a_t_queue 30 out.2.2.2.1, ar E a_t_slotOf 30 out.2.2.2.2.1, ar E a_t_wantedBy 30 out.2.2.2.2.2] out.1 := by
  refine kmetI (T := Int32 × Int32 × (Nat → Int32) × (Nat → Int32) × (Nat → Int32) × (Nat → Int32)) (out := out) (wf := (fun (o : Int32 × Int32 × (Nat → Int32) × (Nat → Int32) × (Nat → Int32) × (Nat → Int32)) => [oo a_t 5 [.ref a_t_pushers, .ref a_t_hoursLeft, .ref a_t_slotOf, .ref a_t_wantedBy, .ref a_t_queue, .ref a_t_hoursSeen, .int o.2.1, .int t_hasLatest], ar E a_t_hoursLeft 480 t_hoursLeft, ar E a_t_hoursSeen 16 o.2.2.1, ar E a_t_pushers 16 t_pushers, ar E a_t_queue 30 o.2.2.2.1, ar E a_t_slotOf 30 o.2.2.2.2.1, ar E a_t_wantedBy 30 o.2.2.2.2.2])) (rf := (fun (o : Int32 × Int32 × (Nat → Int32) × (Nat → Int32) × (Nat → Int32) × (Nat → Int32)) => o.1)) (cc := cX5_comesIntoSet) (maxL := 4) (ty := .boolean) (by decide) rfl (Nat.le_of_ble_eq_true rfl) ?_
  intro p e s m args below meth c A Q ls hx hb hml hts hown hE hP hD hS hA hl hret
  have hown : s.vm.findClass RX5 = some m.cls := hown
  have hK := hE.1
  have hl : lv_has ls 4 [(0, .ref a_t), (1, .int p1)] := hl
  have hP : va_P (kD E) vwCl [oo a_t 5 [.ref a_t_pushers, .ref a_t_hoursLeft, .ref a_t_slotOf, .ref a_t_wantedBy, .ref a_t_queue, .ref a_t_hoursSeen, .int t_queued, .int t_hasLatest], ar E a_t_hoursLeft 480 t_hoursLeft, ar E a_t_hoursSeen 16 t_hoursSeen, ar E a_t_pushers 16 t_pushers, ar E a_t_queue 30 t_queue, ar E a_t_slotOf 30 t_slotOf, ar E a_t_wantedBy 30 t_wantedBy] s.heap := hP
  have hD : va_D A [oo a_t 5 [.ref a_t_pushers, .ref a_t_hoursLeft, .ref a_t_slotOf, .ref a_t_wantedBy, .ref a_t_queue, .ref a_t_hoursSeen, .int t_queued, .int t_hasLatest], ar E a_t_hoursLeft 480 t_hoursLeft, ar E a_t_hoursSeen 16 t_hoursSeen, ar E a_t_pushers 16 t_pushers, ar E a_t_queue 30 t_queue, ar E a_t_slotOf 30 t_slotOf, ar E a_t_wantedBy 30 t_wantedBy] := hD
  have iX5 : ∀ w ∈ wsX50, w ∈ wsX5_comesIntoSet := by decide +kernel
  have w1 := hts (.fieldLink RX5 27 "GaugeWeekend$Shops" "hoursSeen" "[I") (by decide +kernel)
  have w2 := hts (.fieldLink RX5 30 "GaugeWeekend$Shops" "queued" "I") (by decide +kernel)
  have w3 := hts (.fieldLink RX5 24 "GaugeWeekend$Shops" "queue" "[I") (by decide +kernel)
  have w4 := hts (.initialized RX9) (by decide +kernel)
  have w5 := hts (.static yX9_at) (by decide +kernel)
  have L21 : ∀ (t_slotOf : Nat → Int32) (k53 : Int32 → Int32 → Int32 → (Nat → Int32) → (Nat → Int32) → (Nat → Int32) → Option (Int32 × Int32 × (Nat → Int32) × (Nat → Int32) × (Nat → Int32) × (Nat → Int32))) (hk53 : ∀ (v2 : Int32) (v3 : Int32) (t_queued : Int32) (t_hoursSeen : Nat → Int32) (t_queue : Nat → Int32) (t_wantedBy : Nat → Int32) (H : Heap) (locs : List Loc) (ls : Array Slot) (h : k53 v2 v3 t_queued t_hoursSeen t_queue t_wantedBy = some out) (hP : va_P (kD E) vwCl [oo a_t 5 [.ref a_t_pushers, .ref a_t_hoursLeft, .ref a_t_slotOf, .ref a_t_wantedBy, .ref a_t_queue, .ref a_t_hoursSeen, .int t_queued, .int t_hasLatest], ar E a_t_hoursLeft 480 t_hoursLeft, ar E a_t_hoursSeen 16 t_hoursSeen, ar E a_t_pushers 16 t_pushers, ar E a_t_queue 30 t_queue, ar E a_t_slotOf 30 t_slotOf, ar E a_t_wantedBy 30 t_wantedBy] H) (hD : va_D A [oo a_t 5 [.ref a_t_pushers, .ref a_t_hoursLeft, .ref a_t_slotOf, .ref a_t_wantedBy, .ref a_t_queue, .ref a_t_hoursSeen, .int t_queued, .int t_hasLatest], ar E a_t_hoursLeft 480 t_hoursLeft, ar E a_t_hoursSeen 16 t_hoursSeen, ar E a_t_pushers 16 t_pushers, ar E a_t_queue 30 t_queue, ar E a_t_slotOf 30 t_slotOf, ar E a_t_wantedBy 30 t_wantedBy]) (hS : va_S A s.heap H locs) (hl : lv_has ls 4 [(0, .ref a_t), (2, .int v2), (3, .int v3)]), W p l e rmX5_comesIntoSet s m args below meth c H locs 0 0 Q (F0 m 53 ls [])) (n : Nat) (v2 : Int32) (t_queued : Int32) (t_hoursSeen : Nat → Int32) (t_queue : Nat → Int32) (t_wantedBy : Nat → Int32) (H : Heap) (locs : List Loc) (ls : Array Slot) (h : mX5_comesIntoSet_L21 t_hoursLeft t_pushers t_slotOf k53 n v2 t_queued t_hoursSeen t_queue t_wantedBy = some out) (hP : va_P (kD E) vwCl [oo a_t 5 [.ref a_t_pushers, .ref a_t_hoursLeft, .ref a_t_slotOf, .ref a_t_wantedBy, .ref a_t_queue, .ref a_t_hoursSeen, .int t_queued, .int t_hasLatest], ar E a_t_hoursLeft 480 t_hoursLeft, ar E a_t_hoursSeen 16 t_hoursSeen, ar E a_t_pushers 16 t_pushers, ar E a_t_queue 30 t_queue, ar E a_t_slotOf 30 t_slotOf, ar E a_t_wantedBy 30 t_wantedBy] H) (hD : va_D A [oo a_t 5 [.ref a_t_pushers, .ref a_t_hoursLeft, .ref a_t_slotOf, .ref a_t_wantedBy, .ref a_t_queue, .ref a_t_hoursSeen, .int t_queued, .int t_hasLatest], ar E a_t_hoursLeft 480 t_hoursLeft, ar E a_t_hoursSeen 16 t_hoursSeen, ar E a_t_pushers 16 t_pushers, ar E a_t_queue 30 t_queue, ar E a_t_slotOf 30 t_slotOf, ar E a_t_wantedBy 30 t_wantedBy]) (hS : va_S A s.heap H locs) (hl : lv_has ls 4 [(0, .ref a_t), (2, .int v2)]), W p l e rmX5_comesIntoSet s m args below meth c H locs 0 0 Q (F0 m 21 ls []) := by
    intro t_slotOf k53 hk53 n
    induction n with
    | zero =>
      intro v2 t_queued t_hoursSeen t_queue t_wantedBy H locs ls h
      rw [mX5_comesIntoSet_L21] at h
      cases h
    | succ n ih =>
      intro v2 t_queued t_hoursSeen t_queue t_wantedBy H locs ls h hP hD hS hl
      rw [mX5_comesIntoSet_L21] at h
      refine lv_iload_n hx hb dX5_comesIntoSet_21 rfl (lv_at hl 1 rfl) ?_
      refine lv_aload_n hx hb dX5_comesIntoSet_22 rfl (lv_at hl 0 rfl) ?_
      refine va_get (D := kD E) (cl := vwCl) (tys := kT E) (ci := 5) (v := .int t_queued) (C := RX5) (T := TX5) (N := 8) hx hb hts iX5 hown hK hP 0 rfl rfl 6 (by decide) w2 (fun _ h9 => h9) rfl dX5_comesIntoSet_23 ?_
      refine lv_icmp_ge (tgt := 74) hx hb dX5_comesIntoSet_26 (by decide) (fun c_3 => ?_) (fun c_3 => ?_)
      · have h := (if_pos c_3).symm.trans h
        refine lv_iconst (v := (iI 0)) hx hb dX5_comesIntoSet_74 (by decide) ?_
        exact hret _ _ ((iI 0), t_queued, t_hoursSeen, t_queue, t_slotOf, t_wantedBy) _ _ _ (Option.some.inj h) rfl rfl hP hS dX5_comesIntoSet_75
      · have h := (if_neg c_3).symm.trans h
        refine lv_iload_n hx hb dX5_comesIntoSet_29 rfl (lv_at hl 1 rfl) ?_
        refine lv_bipush (v := (iI 30)) hx hb dX5_comesIntoSet_30 (by decide) ?_
        refine lv_icmp_ge (tgt := 74) hx hb dX5_comesIntoSet_32 (by decide) (fun c_4 => ?_) (fun c_4 => ?_)
        · have h := (if_pos c_4).symm.trans h
          refine lv_iconst (v := (iI 0)) hx hb dX5_comesIntoSet_74 (by decide) ?_
          exact hret _ _ ((iI 0), t_queued, t_hoursSeen, t_queue, t_slotOf, t_wantedBy) _ _ _ (Option.some.inj h) rfl rfl hP hS dX5_comesIntoSet_75
        · have h := (if_neg c_4).symm.trans h
          refine lv_aload_n hx hb dX5_comesIntoSet_35 rfl (lv_at hl 0 rfl) ?_
          refine lv_aload_n hx hb dX5_comesIntoSet_36 rfl (lv_at hl 0 rfl) ?_
          refine va_get (D := kD E) (cl := vwCl) (tys := kT E) (ci := 5) (v := .ref a_t_queue) (C := RX5) (T := TX5) (N := 8) hx hb hts iX5 hown hK hP 0 rfl rfl 4 (by decide) w3 (fun _ h9 => h9) rfl dX5_comesIntoSet_37 ?_
          refine lv_iload_n hx hb dX5_comesIntoSet_40 rfl (lv_at hl 1 rfl) ?_
          refine kciN (l := l) (E := E) (wc := [ar E a_t_queue 30 t_queue]) (w1 := [ar E a_t_queue 30 t_queue]) (w' := [oo a_t 5 [.ref a_t_pushers, .ref a_t_hoursLeft, .ref a_t_slotOf, .ref a_t_wantedBy, .ref a_t_queue, .ref a_t_hoursSeen, .int t_queued, .int t_hasLatest], ar E a_t_hoursLeft 480 t_hoursLeft, ar E a_t_hoursSeen 16 t_hoursSeen, ar E a_t_pushers 16 t_pushers, ar E a_t_queue 30 t_queue, ar E a_t_slotOf 30 t_slotOf, ar E a_t_wantedBy 30 t_wantedBy]) (ads := [a_t_queue]) (r := (mX9_at 30 v2 t_queue)) (As := [.ref a_t_queue, .int v2]) (rest := [.ref a_t]) (kX9_at l E (hn_q0 := (Nat.le_of_ble_eq_true rfl)) rfl) ⟨hx, hb, hml, hown, hts⟩ ⟨va_cnB 2 hts gX5_comesIntoSet_X9_at_n46 rfl rfl rfl (nwm_25 hE.2.1) w4 (by decide +kernel) ⟨by decide, by decide⟩, w5, trivial⟩ hE hP hD hS hA [4] (by decide) rfl rfl rfl rfl  rfl hl.1 rfl (Nat.le_of_ble_eq_true rfl) dX5_comesIntoSet_41 ⟨Nat.zero_le _, Nat.zero_le _⟩ (fun H locs hP hD hS => ?_)
          obtain ⟨o6, hc6, h⟩ := kbind h
          refine kciV (l := l) (E := E) (wc := [oo a_t 5 [.ref a_t_pushers, .ref a_t_hoursLeft, .ref a_t_slotOf, .ref a_t_wantedBy, .ref a_t_queue, .ref a_t_hoursSeen, .int t_queued, .int t_hasLatest], ar E a_t_hoursLeft 480 t_hoursLeft, ar E a_t_hoursSeen 16 t_hoursSeen, ar E a_t_pushers 16 t_pushers, ar E a_t_queue 30 t_queue, ar E a_t_slotOf 30 t_slotOf, ar E a_t_wantedBy 30 t_wantedBy]) (w1 := [oo a_t 5 [.ref a_t_pushers, .ref a_t_hoursLeft, .ref a_t_slotOf, .ref a_t_wantedBy, .ref a_t_queue, .ref a_t_hoursSeen, .int o6.2.1, .int t_hasLatest], ar E a_t_hoursLeft 480 t_hoursLeft, ar E a_t_hoursSeen 16 o6.2.2.1, ar E a_t_pushers 16 t_pushers, ar E a_t_queue 30 o6.2.2.2.1, ar E a_t_slotOf 30 t_slotOf, ar E a_t_wantedBy 30 o6.2.2.2.2]) (w' := [oo a_t 5 [.ref a_t_pushers, .ref a_t_hoursLeft, .ref a_t_slotOf, .ref a_t_wantedBy, .ref a_t_queue, .ref a_t_hoursSeen, .int o6.2.1, .int t_hasLatest], ar E a_t_hoursLeft 480 t_hoursLeft, ar E a_t_hoursSeen 16 o6.2.2.1, ar E a_t_pushers 16 t_pushers, ar E a_t_queue 30 o6.2.2.2.1, ar E a_t_slotOf 30 t_slotOf, ar E a_t_wantedBy 30 o6.2.2.2.2]) (ads := [a_t, a_t_hoursLeft, a_t_hoursSeen, a_t_pushers, a_t_queue, a_t_slotOf, a_t_wantedBy]) (r := o6.1) (As := [.int (mX9_at 30 v2 t_queue)]) (rest := []) (kX5_freeSlot l E hc6) ⟨hx, hb, hml, hown, hts⟩ (cwV 1 hts gX5_comesIntoSet_X5_freeSlot rfl rfl rfl (by decide +kernel) ⟨by decide, by decide⟩) hE hP hD hS hA [0, 1, 2, 3, 4, 5, 6] (by decide) rfl rfl rfl rfl rfl rfl rfl rfl hl.1 rfl (Nat.le_of_ble_eq_true rfl) dX5_comesIntoSet_44 ⟨Nat.zero_le _, Nat.zero_le _⟩ (fun H locs hP hD hS => ?_)
          refine lv_istore_n (lv' := [(3, .int o6.1), (0, .ref a_t), (2, .int v2)]) hx hb dX5_comesIntoSet_47 rfl hl (by decide) rfl (fun ls hl => ?_)
          refine lv_iload_n hx hb dX5_comesIntoSet_48 rfl (lv_at hl 0 rfl) ?_
          refine lv_iconst (v := (iI (-1))) hx hb dX5_comesIntoSet_49 (by decide) ?_
          refine lv_icmp_eq (tgt := 68) hx hb dX5_comesIntoSet_50 (by decide) (fun c_7 => ?_) (fun c_7 => ?_)
          · have h := (if_pos c_7).symm.trans h
            refine lv_iinc (v := (v2 + (iI 1))) (lv' := [(2, .int (v2 + (iI 1))), (3, .int o6.1), (0, .ref a_t)]) hx hb dX5_comesIntoSet_68 hl (k := 2) rfl (kinc _ (by decide)) (by decide) rfl (fun ls hl => ?_)
            refine lv_goto (tgt := 21) hx hb dX5_comesIntoSet_71 (by decide) ?_
            exact ih (v2 + (iI 1)) o6.2.1 o6.2.2.1 o6.2.2.2.1 o6.2.2.2.2 _ _ _ h hP hD hS (lv_sub hl [2, 0] rfl)
          · have h := (if_neg c_7).symm.trans h
            exact hk53 v2 o6.1 o6.2.1 o6.2.2.1 o6.2.2.2.1 o6.2.2.2.2 _ _ _ h hP hD hS (lv_sub hl [1, 2, 0] rfl)
  rw [mX5_comesIntoSet] at h
  refine lv_aload_n hx hb dX5_comesIntoSet_0 rfl (lv_at hl 0 rfl) ?_
  refine va_get (D := kD E) (cl := vwCl) (tys := kT E) (ci := 5) (v := .ref a_t_hoursSeen) (C := RX5) (T := TX5) (N := 8) hx hb hts iX5 hown hK hP 0 rfl rfl 5 (by decide) w1 (fun _ h9 => h9) rfl dX5_comesIntoSet_1 ?_
  refine lv_iconst (v := (iI 0)) hx hb dX5_comesIntoSet_4 (by decide) ?_
  obtain ⟨o1, hc1, h⟩ := kbind h
  refine kcvS (l := l) (E := E) (wc := [ar E a_t_hoursSeen 16 t_hoursSeen]) (w1 := [ar E a_t_hoursSeen 16 o1]) (w' := [oo a_t 5 [.ref a_t_pushers, .ref a_t_hoursLeft, .ref a_t_slotOf, .ref a_t_wantedBy, .ref a_t_queue, .ref a_t_hoursSeen, .int t_queued, .int t_hasLatest], ar E a_t_hoursLeft 480 t_hoursLeft, ar E a_t_hoursSeen 16 o1, ar E a_t_pushers 16 t_pushers, ar E a_t_queue 30 t_queue, ar E a_t_slotOf 30 t_slotOf, ar E a_t_wantedBy 30 t_wantedBy]) (ads := [a_t_hoursSeen]) (As := [.ref a_t_hoursSeen, .int (iI 0)]) (rest := []) (kJ7_fill_53178 l E (hn_q0 := (Nat.le_of_ble_eq_true rfl)) hc1) ⟨hx, hb, hml, hown, hts⟩ (va_cwS 2 hts gX5_comesIntoSet_J7_fill_53178 rfl rfl rfl (by decide +kernel) ⟨by decide, by decide⟩) hE hP hD hS hA [2] (by decide) rfl rfl rfl rfl  rfl hl.1 rfl (Nat.le_of_ble_eq_true rfl) dX5_comesIntoSet_5 ⟨Nat.zero_le _, Nat.zero_le _⟩ (fun H locs hP hD hS => ?_)
  refine lv_aload_n hx hb dX5_comesIntoSet_8 rfl (lv_at hl 0 rfl) ?_
  refine lv_iconst (v := (iI 0)) hx hb dX5_comesIntoSet_9 (by decide) ?_
  refine kput (w' := [oo a_t 5 [.ref a_t_pushers, .ref a_t_hoursLeft, .ref a_t_slotOf, .ref a_t_wantedBy, .ref a_t_queue, .ref a_t_hoursSeen, .int (iI 0), .int t_hasLatest], ar E a_t_hoursLeft 480 t_hoursLeft, ar E a_t_hoursSeen 16 o1, ar E a_t_pushers 16 t_pushers, ar E a_t_queue 30 t_queue, ar E a_t_slotOf 30 t_slotOf, ar E a_t_wantedBy 30 t_wantedBy]) (E := E) (ci := 5) (v := .int (iI 0)) (ty := .int) (C := RX5) (T := TX5) (N := 8) hx hb hts iX5 tyX5 tyX5_ok nmX5 hown hK hP hD hS 0 rfl rfl 6 (by decide) w2 (fun _ h9 => h9) rfl (tyX5_ok 6 (by decide)) rfl rfl (Nat.le_of_ble_eq_true rfl) rfl dX5_comesIntoSet_10 (fun H locs hP hD hS => ?_)
  refine lv_aload_n hx hb dX5_comesIntoSet_13 rfl (lv_at hl 0 rfl) ?_
  refine lv_iload_n hx hb dX5_comesIntoSet_14 rfl (lv_at hl 1 rfl) ?_
  refine lv_iconst (v := (iI (-1))) hx hb dX5_comesIntoSet_15 (by decide) ?_
  obtain ⟨o2, hc2, h⟩ := kbind h
  refine kcvV (l := l) (E := E) (wc := [oo a_t 5 [.ref a_t_pushers, .ref a_t_hoursLeft, .ref a_t_slotOf, .ref a_t_wantedBy, .ref a_t_queue, .ref a_t_hoursSeen, .int (iI 0), .int t_hasLatest], ar E a_t_queue 30 t_queue, ar E a_t_wantedBy 30 t_wantedBy]) (w1 := [oo a_t 5 [.ref a_t_pushers, .ref a_t_hoursLeft, .ref a_t_slotOf, .ref a_t_wantedBy, .ref a_t_queue, .ref a_t_hoursSeen, .int o2.1, .int t_hasLatest], ar E a_t_queue 30 o2.2.1, ar E a_t_wantedBy 30 o2.2.2]) (w' := [oo a_t 5 [.ref a_t_pushers, .ref a_t_hoursLeft, .ref a_t_slotOf, .ref a_t_wantedBy, .ref a_t_queue, .ref a_t_hoursSeen, .int o2.1, .int t_hasLatest], ar E a_t_hoursLeft 480 t_hoursLeft, ar E a_t_hoursSeen 16 o1, ar E a_t_pushers 16 t_pushers, ar E a_t_queue 30 o2.2.1, ar E a_t_slotOf 30 t_slotOf, ar E a_t_wantedBy 30 o2.2.2]) (ads := [a_t, a_t_queue, a_t_wantedBy]) (As := [.int p1, .int (iI (-1))]) (rest := []) (kX5_ask l E hc2) ⟨hx, hb, hml, hown, hts⟩ (cwV 2 hts gX5_comesIntoSet_X5_ask rfl rfl rfl (by decide +kernel) ⟨by decide, by decide⟩) hE hP hD hS hA [0, 4, 6] (by decide) rfl rfl rfl rfl rfl rfl rfl rfl hl.1 rfl (Nat.le_of_ble_eq_true rfl) dX5_comesIntoSet_16 ⟨Nat.zero_le _, Nat.zero_le _⟩ (fun H locs hP hD hS => ?_)
  refine lv_iconst (v := (iI 0)) hx hb dX5_comesIntoSet_19 (by decide) ?_
  refine lv_istore_n (lv' := [(2, .int (iI 0)), (0, .ref a_t), (1, .int p1)]) hx hb dX5_comesIntoSet_20 rfl hl (by decide) rfl (fun ls hl => ?_)
  refine L21 t_slotOf _ ?_ _ (iI 0) o2.1 o1 o2.2.1 o2.2.2 _ _ _ h hP hD hS (lv_sub hl [1, 0] rfl)
  · intro v2_8 v3_8 t_queued_8 t_hoursSeen_8 t_queue_8 t_wantedBy_8 H locs ls h hP hD hS hl
    refine lv_aload_n hx hb dX5_comesIntoSet_53 rfl (lv_at hl 0 rfl) ?_
    refine lv_aload_n hx hb dX5_comesIntoSet_54 rfl (lv_at hl 0 rfl) ?_
    refine va_get (D := kD E) (cl := vwCl) (tys := kT E) (ci := 5) (v := .ref a_t_queue) (C := RX5) (T := TX5) (N := 8) hx hb hts iX5 hown hK hP 0 rfl rfl 4 (by decide) w3 (fun _ h9 => h9) rfl dX5_comesIntoSet_55 ?_
    refine lv_iload_n hx hb dX5_comesIntoSet_58 rfl (lv_at hl 1 rfl) ?_
    refine kciN (l := l) (E := E) (wc := [ar E a_t_queue 30 t_queue_8]) (w1 := [ar E a_t_queue 30 t_queue_8]) (w' := [oo a_t 5 [.ref a_t_pushers, .ref a_t_hoursLeft, .ref a_t_slotOf, .ref a_t_wantedBy, .ref a_t_queue, .ref a_t_hoursSeen, .int t_queued_8, .int t_hasLatest], ar E a_t_hoursLeft 480 t_hoursLeft, ar E a_t_hoursSeen 16 t_hoursSeen_8, ar E a_t_pushers 16 t_pushers, ar E a_t_queue 30 t_queue_8, ar E a_t_slotOf 30 t_slotOf, ar E a_t_wantedBy 30 t_wantedBy_8]) (ads := [a_t_queue]) (r := (mX9_at 30 v2_8 t_queue_8)) (As := [.ref a_t_queue, .int v2_8]) (rest := [.ref a_t]) (kX9_at l E (hn_q0 := (Nat.le_of_ble_eq_true rfl)) rfl) ⟨hx, hb, hml, hown, hts⟩ ⟨va_cnB 2 hts gX5_comesIntoSet_X9_at_n46 rfl rfl rfl (nwm_25 hE.2.1) w4 (by decide +kernel) ⟨by decide, by decide⟩, w5, trivial⟩ hE hP hD hS hA [4] (by decide) rfl rfl rfl rfl  rfl hl.1 rfl (Nat.le_of_ble_eq_true rfl) dX5_comesIntoSet_59 ⟨Nat.zero_le _, Nat.zero_le _⟩ (fun H locs hP hD hS => ?_)
    refine lv_iload_n hx hb dX5_comesIntoSet_62 rfl (lv_at hl 2 rfl) ?_
    obtain ⟨o10, hc10, h⟩ := kbind h
    refine kcvV (l := l) (E := E) (wc := [oo a_t 5 [.ref a_t_pushers, .ref a_t_hoursLeft, .ref a_t_slotOf, .ref a_t_wantedBy, .ref a_t_queue, .ref a_t_hoursSeen, .int t_queued_8, .int t_hasLatest], ar E a_t_slotOf 30 t_slotOf, ar E a_t_wantedBy 30 t_wantedBy_8]) (w1 := [oo a_t 5 [.ref a_t_pushers, .ref a_t_hoursLeft, .ref a_t_slotOf, .ref a_t_wantedBy, .ref a_t_queue, .ref a_t_hoursSeen, .int t_queued_8, .int t_hasLatest], ar E a_t_slotOf 30 o10, ar E a_t_wantedBy 30 t_wantedBy_8]) (w' := [oo a_t 5 [.ref a_t_pushers, .ref a_t_hoursLeft, .ref a_t_slotOf, .ref a_t_wantedBy, .ref a_t_queue, .ref a_t_hoursSeen, .int t_queued_8, .int t_hasLatest], ar E a_t_hoursLeft 480 t_hoursLeft, ar E a_t_hoursSeen 16 t_hoursSeen_8, ar E a_t_pushers 16 t_pushers, ar E a_t_queue 30 t_queue_8, ar E a_t_slotOf 30 o10, ar E a_t_wantedBy 30 t_wantedBy_8]) (ads := [a_t, a_t_slotOf, a_t_wantedBy]) (As := [.int (mX9_at 30 v2_8 t_queue_8), .int v3_8]) (rest := []) (kX5_moveOn l E hc10) ⟨hx, hb, hml, hown, hts⟩ (cwV 2 hts gX5_comesIntoSet_X5_moveOn rfl rfl rfl (by decide +kernel) ⟨by decide, by decide⟩) hE hP hD hS hA [0, 5, 6] (by decide) rfl rfl rfl rfl rfl rfl rfl rfl hl.1 rfl (Nat.le_of_ble_eq_true rfl) dX5_comesIntoSet_63 ⟨Nat.zero_le _, Nat.zero_le _⟩ (fun H locs hP hD hS => ?_)
    refine lv_iconst (v := (iI 1)) hx hb dX5_comesIntoSet_66 (by decide) ?_
    exact hret _ _ ((iI 1), t_queued_8, t_hoursSeen_8, t_queue_8, o10, t_wantedBy_8) _ _ _ (Option.some.inj h) rfl rfl hP hS dX5_comesIntoSet_67
abbrev rmX5_push : Room := { frames := 5, cells := 0, slots := 0, locals := 115 }
set_option maxHeartbeats 4000000 in
set_option maxRecDepth 100000 in
theorem kX5_push (l : Launch) (E : KE) {a_t : Nat} {a_t_pushers : Nat} {a_t_hoursLeft : Nat} {a_t_slotOf : Nat} {a_t_wantedBy : Nat} {a_t_queue : Nat} {a_t_hoursSeen : Nat} {a_q1 : Nat} {a_q1_lines : Nat} {a_q1_plan : Nat} {a_q1_draft : Nat} {a_q1_lines_oneEnd : Nat} {a_q1_lines_otherEnd : Nat} {a_q1_lines_miles : Nat} {a_q1_lines_hours : Nat} {a_q1_lines_spikesSet : Nat} {a_q1_plan_lineOf : Nat} {a_q1_plan_after : Nat} {a_q1_plan_hours : Nat} {a_q1_plan_gangs : Nat} {a_q1_plan_begins : Nat} {a_q1_plan_done : Nat} {a_q2 : Nat} {a_q2_placeOf : Nat} {a_q2_hourOf : Nat} {a_q2_first : Nat} {p3 : Int32} {t_queued : Int32} {t_hasLatest : Int32} {t_hoursLeft : Nat → Int32} {t_hoursSeen : Nat → Int32} {t_pushers : Nat → Int32} {t_queue : Nat → Int32} {t_slotOf : Nat → Int32} {t_wantedBy : Nat → Int32} {q1_lines_many : Int32} {q1_lines_rateOfSet : Int32} {q1_lines_rateOfOthers : Int32} {q1_lines_hours : Nat → Int32} {q1_lines_oneEnd : Nat → Int32} {q1_lines_otherEnd : Nat → Int32} {q1_plan_many : Int32} {q1_plan_begins : Nat → Int32} {q1_plan_done : Nat → Int32} {q2_many : Int32} {q2_first : Nat → Int32} {q2_hourOf : Nat → Int32} {q2_placeOf : Nat → Int32} {out : Int32 × Int32 × Int32 × (Nat → Int32) × (Nat → Int32) × (Nat → Int32) × (Nat → Int32) × (Nat → Int32) × (Nat → Int32)} (h : mX5_push p3 t_queued t_hasLatest t_hoursLeft t_hoursSeen t_pushers t_queue t_slotOf t_wantedBy q1_lines_many q1_lines_hours q1_lines_oneEnd q1_lines_otherEnd q1_plan_begins q1_plan_done q2_many q2_first q2_hourOf q2_placeOf = some out) : KI l E yX5_push wsX5_push rmX5_push [.ref a_t, .ref a_q1, .ref a_q2, .int p3] [oo a_t 5 [.ref a_t_pushers, .ref a_t_hoursLeft, .ref a_t_slotOf, .ref a_t_wantedBy, .ref a_t_queue, .ref a_t_hoursSeen, .int t_queued, .int t_hasLatest], ar E a_t_hoursLeft 480 t_hoursLeft, ar E a_t_hoursSeen 16 t_hoursSeen, ar E a_t_pushers 16 t_pushers, ar E a_t_queue 30 t_queue, ar E a_t_slotOf 30 t_slotOf, ar E a_t_wantedBy 30 t_wantedBy, oo a_q1 3 [.ref a_q1_lines, .ref a_q1_plan, .ref a_q1_draft], oo a_q1_lines 1 [.ref a_q1_lines_oneEnd, .ref a_q1_lines_otherEnd, .ref a_q1_lines_miles, .ref a_q1_lines_hours, .ref a_q1_lines_spikesSet, .int q1_lines_many, .int q1_lines_rateOfSet, .int q1_lines_rateOfOthers], ar E a_q1_lines_hours 30 q1_lines_hours, ar E a_q1_lines_oneEnd 30 q1_lines_oneEnd, ar E a_q1_lines_otherEnd 30 q1_lines_otherEnd, oo a_q1_plan 2 [.ref a_q1_plan_lineOf, .ref a_q1_plan_after, .ref a_q1_plan_hours, .ref a_q1_plan_gangs, .ref a_q1_plan_begins, .ref a_q1_plan_done, .int q1_plan_many], ar E a_q1_plan_begins 30 q1_plan_begins, ar E a_q1_plan_done 30 q1_plan_done, oo a_q2 0 [.ref a_q2_placeOf, .ref a_q2_hourOf, .ref a_q2_first, .int q2_many], ar E a_q2_first 16 q2_first, ar E a_q2_hourOf 30 q2_hourOf, ar E a_q2_placeOf 30 q2_placeOf] [oo a_t 5 [.ref a_t_pushers, .ref a_t_hoursLeft, .ref a_t_slotOf, .ref a_t_wantedBy, .ref a_t_queue, .ref a_t_hoursSeen, .int out.2.1, .int out.2.2.1], ar E a_t_hoursLeft 480 out.2.2.2.1, ar E a_t_hoursSeen 16 out.2.2.2.2.1, ar E a_t_pushers 16 t_pushers, ar E a_t_queue 30 out.2.2.2.2.2.1, ar E a_t_slotOf 30 out.2.2.2.2.2.2.1, ar E a_t_wantedBy 30 out.2.2.2.2.2.2.2.1, oo a_q1 3 [.ref a_q1_lines, .ref a_q1_plan, .ref a_q1_draft], oo a_q1_lines 1 [.ref a_q1_lines_oneEnd, .ref a_q1_lines_otherEnd, .ref a_q1_lines_miles, .ref a_q1_lines_hours, .ref a_q1_lines_spikesSet, .int q1_lines_many, .int q1_lines_rateOfSet, .int q1_lines_rateOfOthers], ar E a_q1_lines_hours 30 q1_lines_hours, ar E a_q1_lines_oneEnd 30 q1_lines_oneEnd, ar E a_q1_lines_otherEnd 30 q1_lines_otherEnd, oo a_q1_plan 2 [.ref a_q1_plan_lineOf, .ref a_q1_plan_after, .ref a_q1_plan_hours, .ref a_q1_plan_gangs, .ref a_q1_plan_begins, .ref a_q1_plan_done, .int q1_plan_many], ar E a_q1_plan_begins 30 q1_plan_begins, ar E a_q1_plan_done 30 q1_plan_done, oo a_q2 0 [.ref a_q2_placeOf, .ref a_q2_hourOf, .ref a_q2_first, .int q2_many], ar E a_q2_first 16 out.2.2.2.2.2.2.2.2, ar E a_q2_hourOf 30 q2_hourOf, ar E a_q2_placeOf 30 q2_placeOf] out.1 := by
  refine kmetI (T := Int32 × Int32 × Int32 × (Nat → Int32) × (Nat → Int32) × (Nat → Int32) × (Nat → Int32) × (Nat → Int32) × (Nat → Int32)) (out := out) (wf := (fun (o : Int32 × Int32 × Int32 × (Nat → Int32) × (Nat → Int32) × (Nat → Int32) × (Nat → Int32) × (Nat → Int32) × (Nat → Int32)) => [oo a_t 5 [.ref a_t_pushers, .ref a_t_hoursLeft, .ref a_t_slotOf, .ref a_t_wantedBy, .ref a_t_queue, .ref a_t_hoursSeen, .int o.2.1, .int o.2.2.1], ar E a_t_hoursLeft 480 o.2.2.2.1, ar E a_t_hoursSeen 16 o.2.2.2.2.1, ar E a_t_pushers 16 t_pushers, ar E a_t_queue 30 o.2.2.2.2.2.1, ar E a_t_slotOf 30 o.2.2.2.2.2.2.1, ar E a_t_wantedBy 30 o.2.2.2.2.2.2.2.1, oo a_q1 3 [.ref a_q1_lines, .ref a_q1_plan, .ref a_q1_draft], oo a_q1_lines 1 [.ref a_q1_lines_oneEnd, .ref a_q1_lines_otherEnd, .ref a_q1_lines_miles, .ref a_q1_lines_hours, .ref a_q1_lines_spikesSet, .int q1_lines_many, .int q1_lines_rateOfSet, .int q1_lines_rateOfOthers], ar E a_q1_lines_hours 30 q1_lines_hours, ar E a_q1_lines_oneEnd 30 q1_lines_oneEnd, ar E a_q1_lines_otherEnd 30 q1_lines_otherEnd, oo a_q1_plan 2 [.ref a_q1_plan_lineOf, .ref a_q1_plan_after, .ref a_q1_plan_hours, .ref a_q1_plan_gangs, .ref a_q1_plan_begins, .ref a_q1_plan_done, .int q1_plan_many], ar E a_q1_plan_begins 30 q1_plan_begins, ar E a_q1_plan_done 30 q1_plan_done, oo a_q2 0 [.ref a_q2_placeOf, .ref a_q2_hourOf, .ref a_q2_first, .int q2_many], ar E a_q2_first 16 o.2.2.2.2.2.2.2.2, ar E a_q2_hourOf 30 q2_hourOf, ar E a_q2_placeOf 30 q2_placeOf])) (rf := (fun (o : Int32 × Int32 × Int32 × (Nat → Int32) × (Nat → Int32) × (Nat → Int32) × (Nat → Int32) × (Nat → Int32) × (Nat → Int32)) => o.1)) (cc := cX5_push) (maxL := 6) (ty := .int) (by decide) rfl (Nat.le_of_ble_eq_true rfl) ?_
  intro p e s m args below meth c A Q ls hx hb hml hts hown hE hP hD hS hA hl hret
  have hown : s.vm.findClass RX5 = some m.cls := hown
  have hK := hE.1
  have hl : lv_has ls 6 [(0, .ref a_t), (1, .ref a_q1), (2, .ref a_q2), (3, .int p3)] := hl
  have hP : va_P (kD E) vwCl [oo a_t 5 [.ref a_t_pushers, .ref a_t_hoursLeft, .ref a_t_slotOf, .ref a_t_wantedBy, .ref a_t_queue, .ref a_t_hoursSeen, .int t_queued, .int t_hasLatest], ar E a_t_hoursLeft 480 t_hoursLeft, ar E a_t_hoursSeen 16 t_hoursSeen, ar E a_t_pushers 16 t_pushers, ar E a_t_queue 30 t_queue, ar E a_t_slotOf 30 t_slotOf, ar E a_t_wantedBy 30 t_wantedBy, oo a_q1 3 [.ref a_q1_lines, .ref a_q1_plan, .ref a_q1_draft], oo a_q1_lines 1 [.ref a_q1_lines_oneEnd, .ref a_q1_lines_otherEnd, .ref a_q1_lines_miles, .ref a_q1_lines_hours, .ref a_q1_lines_spikesSet, .int q1_lines_many, .int q1_lines_rateOfSet, .int q1_lines_rateOfOthers], ar E a_q1_lines_hours 30 q1_lines_hours, ar E a_q1_lines_oneEnd 30 q1_lines_oneEnd, ar E a_q1_lines_otherEnd 30 q1_lines_otherEnd, oo a_q1_plan 2 [.ref a_q1_plan_lineOf, .ref a_q1_plan_after, .ref a_q1_plan_hours, .ref a_q1_plan_gangs, .ref a_q1_plan_begins, .ref a_q1_plan_done, .int q1_plan_many], ar E a_q1_plan_begins 30 q1_plan_begins, ar E a_q1_plan_done 30 q1_plan_done, oo a_q2 0 [.ref a_q2_placeOf, .ref a_q2_hourOf, .ref a_q2_first, .int q2_many], ar E a_q2_first 16 q2_first, ar E a_q2_hourOf 30 q2_hourOf, ar E a_q2_placeOf 30 q2_placeOf] s.heap := hP
  have hD : va_D A [oo a_t 5 [.ref a_t_pushers, .ref a_t_hoursLeft, .ref a_t_slotOf, .ref a_t_wantedBy, .ref a_t_queue, .ref a_t_hoursSeen, .int t_queued, .int t_hasLatest], ar E a_t_hoursLeft 480 t_hoursLeft, ar E a_t_hoursSeen 16 t_hoursSeen, ar E a_t_pushers 16 t_pushers, ar E a_t_queue 30 t_queue, ar E a_t_slotOf 30 t_slotOf, ar E a_t_wantedBy 30 t_wantedBy, oo a_q1 3 [.ref a_q1_lines, .ref a_q1_plan, .ref a_q1_draft], oo a_q1_lines 1 [.ref a_q1_lines_oneEnd, .ref a_q1_lines_otherEnd, .ref a_q1_lines_miles, .ref a_q1_lines_hours, .ref a_q1_lines_spikesSet, .int q1_lines_many, .int q1_lines_rateOfSet, .int q1_lines_rateOfOthers], ar E a_q1_lines_hours 30 q1_lines_hours, ar E a_q1_lines_oneEnd 30 q1_lines_oneEnd, ar E a_q1_lines_otherEnd 30 q1_lines_otherEnd, oo a_q1_plan 2 [.ref a_q1_plan_lineOf, .ref a_q1_plan_after, .ref a_q1_plan_hours, .ref a_q1_plan_gangs, .ref a_q1_plan_begins, .ref a_q1_plan_done, .int q1_plan_many], ar E a_q1_plan_begins 30 q1_plan_begins, ar E a_q1_plan_done 30 q1_plan_done, oo a_q2 0 [.ref a_q2_placeOf, .ref a_q2_hourOf, .ref a_q2_first, .int q2_many], ar E a_q2_first 16 q2_first, ar E a_q2_hourOf 30 q2_hourOf, ar E a_q2_placeOf 30 q2_placeOf] := hD
  have w0 := hts (.initialized RX9) (by decide +kernel)
  have w1 := hts (.static yX9_isHour) (by decide +kernel)
  have iX5 : ∀ w ∈ wsX50, w ∈ wsX5_push := by decide +kernel
  have w3 := hts (.fieldLink RX5 34 "GaugeWeekend$Shops" "hasLatest" "Z") (by decide +kernel)
  have w4 := hts (.fieldLink RX5 18 "GaugeWeekend$Shops" "slotOf" "[I") (by decide +kernel)
  have iX0 : ∀ w ∈ wsX00, w ∈ wsX5_push := by decide +kernel
  have L28 : ∀ (t_hasLatest : Int32) (n : Nat) (v4 : Int32) (v5 : Int32) (t_queued : Int32) (t_hoursLeft : Nat → Int32) (t_hoursSeen : Nat → Int32) (t_queue : Nat → Int32) (t_slotOf : Nat → Int32) (t_wantedBy : Nat → Int32) (q2_first : Nat → Int32) (H : Heap) (locs : List Loc) (ls : Array Slot) (h : mX5_push_L28 p3 t_hasLatest t_pushers q1_lines_many q1_lines_hours q1_lines_oneEnd q1_lines_otherEnd q1_plan_begins q1_plan_done q2_many q2_hourOf q2_placeOf n v4 v5 t_queued t_hoursLeft t_hoursSeen t_queue t_slotOf t_wantedBy q2_first = some out) (hP : va_P (kD E) vwCl [oo a_t 5 [.ref a_t_pushers, .ref a_t_hoursLeft, .ref a_t_slotOf, .ref a_t_wantedBy, .ref a_t_queue, .ref a_t_hoursSeen, .int t_queued, .int t_hasLatest], ar E a_t_hoursLeft 480 t_hoursLeft, ar E a_t_hoursSeen 16 t_hoursSeen, ar E a_t_pushers 16 t_pushers, ar E a_t_queue 30 t_queue, ar E a_t_slotOf 30 t_slotOf, ar E a_t_wantedBy 30 t_wantedBy, oo a_q1 3 [.ref a_q1_lines, .ref a_q1_plan, .ref a_q1_draft], oo a_q1_lines 1 [.ref a_q1_lines_oneEnd, .ref a_q1_lines_otherEnd, .ref a_q1_lines_miles, .ref a_q1_lines_hours, .ref a_q1_lines_spikesSet, .int q1_lines_many, .int q1_lines_rateOfSet, .int q1_lines_rateOfOthers], ar E a_q1_lines_hours 30 q1_lines_hours, ar E a_q1_lines_oneEnd 30 q1_lines_oneEnd, ar E a_q1_lines_otherEnd 30 q1_lines_otherEnd, oo a_q1_plan 2 [.ref a_q1_plan_lineOf, .ref a_q1_plan_after, .ref a_q1_plan_hours, .ref a_q1_plan_gangs, .ref a_q1_plan_begins, .ref a_q1_plan_done, .int q1_plan_many], ar E a_q1_plan_begins 30 q1_plan_begins, ar E a_q1_plan_done 30 q1_plan_done, oo a_q2 0 [.ref a_q2_placeOf, .ref a_q2_hourOf, .ref a_q2_first, .int q2_many], ar E a_q2_first 16 q2_first, ar E a_q2_hourOf 30 q2_hourOf, ar E a_q2_placeOf 30 q2_placeOf] H) (hD : va_D A [oo a_t 5 [.ref a_t_pushers, .ref a_t_hoursLeft, .ref a_t_slotOf, .ref a_t_wantedBy, .ref a_t_queue, .ref a_t_hoursSeen, .int t_queued, .int t_hasLatest], ar E a_t_hoursLeft 480 t_hoursLeft, ar E a_t_hoursSeen 16 t_hoursSeen, ar E a_t_pushers 16 t_pushers, ar E a_t_queue 30 t_queue, ar E a_t_slotOf 30 t_slotOf, ar E a_t_wantedBy 30 t_wantedBy, oo a_q1 3 [.ref a_q1_lines, .ref a_q1_plan, .ref a_q1_draft], oo a_q1_lines 1 [.ref a_q1_lines_oneEnd, .ref a_q1_lines_otherEnd, .ref a_q1_lines_miles, .ref a_q1_lines_hours, .ref a_q1_lines_spikesSet, .int q1_lines_many, .int q1_lines_rateOfSet, .int q1_lines_rateOfOthers], ar E a_q1_lines_hours 30 q1_lines_hours, ar E a_q1_lines_oneEnd 30 q1_lines_oneEnd, ar E a_q1_lines_otherEnd 30 q1_lines_otherEnd, oo a_q1_plan 2 [.ref a_q1_plan_lineOf, .ref a_q1_plan_after, .ref a_q1_plan_hours, .ref a_q1_plan_gangs, .ref a_q1_plan_begins, .ref a_q1_plan_done, .int q1_plan_many], ar E a_q1_plan_begins 30 q1_plan_begins, ar E a_q1_plan_done 30 q1_plan_done, oo a_q2 0 [.ref a_q2_placeOf, .ref a_q2_hourOf, .ref a_q2_first, .int q2_many], ar E a_q2_first 16 q2_first, ar E a_q2_hourOf 30 q2_hourOf, ar E a_q2_placeOf 30 q2_placeOf]) (hS : va_S A s.heap H locs) (hl : lv_has ls 6 [(0, .ref a_t), (1, .ref a_q1), (2, .ref a_q2), (3, .int p3), (4, .int v4), (5, .int v5)]), W p l e rmX5_push s m args below meth c H locs 0 0 Q (F0 m 28 ls []) := by
    intro t_hasLatest n
    induction n with
    | zero =>
      intro v4 v5 t_queued t_hoursLeft t_hoursSeen t_queue t_slotOf t_wantedBy q2_first H locs ls h
      rw [mX5_push_L28] at h
      cases h
    | succ n ih =>
      intro v4 v5 t_queued t_hoursLeft t_hoursSeen t_queue t_slotOf t_wantedBy q2_first H locs ls h hP hD hS hl
      rw [mX5_push_L28] at h
      refine lv_iload hx hb dX5_push_28 (lv_at hl 5 rfl) ?_
      refine lv_aload_n hx hb dX5_push_30 rfl (lv_at hl 2 rfl) ?_
      refine va_getN (D := kD E) (cl := vwCl) (tys := kT E) (ci := 0) (v := .int q2_many) (C := RX0) (T := TX0) (N := 4) hx hb hts iX0 hown hK hP 15 rfl rfl 3 (by decide) (nwf_14 hE.2.1) (fun _ h9 => h9) rfl dX5_push_31 ?_
      refine lv_icmp_ge (tgt := 70) hx hb dX5_push_34 (by decide) (fun c_4 => ?_) (fun c_4 => ?_)
      · have h := (if_pos c_4).symm.trans h
        refine lv_iload hx hb dX5_push_70 (lv_at hl 4 rfl) ?_
        exact hret _ _ (v4, t_queued, t_hasLatest, t_hoursLeft, t_hoursSeen, t_queue, t_slotOf, t_wantedBy, q2_first) _ _ _ (Option.some.inj h) rfl rfl hP hS dX5_push_72
      · have h := (if_neg c_4).symm.trans h
        refine lv_aload_n hx hb dX5_push_37 rfl (lv_at hl 2 rfl) ?_
        refine lv_aload_n hx hb dX5_push_38 rfl (lv_at hl 1 rfl) ?_
        refine lv_iload hx hb dX5_push_39 (lv_at hl 5 rfl) ?_
        obtain ⟨o5, hc5, h⟩ := kbind h
        refine kcvV (l := l) (E := E) (wc := [oo a_q2 0 [.ref a_q2_placeOf, .ref a_q2_hourOf, .ref a_q2_first, .int q2_many], ar E a_q2_first 16 q2_first, ar E a_q2_hourOf 30 q2_hourOf, ar E a_q2_placeOf 30 q2_placeOf, oo a_q1 3 [.ref a_q1_lines, .ref a_q1_plan, .ref a_q1_draft], oo a_q1_lines 1 [.ref a_q1_lines_oneEnd, .ref a_q1_lines_otherEnd, .ref a_q1_lines_miles, .ref a_q1_lines_hours, .ref a_q1_lines_spikesSet, .int q1_lines_many, .int q1_lines_rateOfSet, .int q1_lines_rateOfOthers], ar E a_q1_lines_hours 30 q1_lines_hours, ar E a_q1_lines_oneEnd 30 q1_lines_oneEnd, ar E a_q1_lines_otherEnd 30 q1_lines_otherEnd, oo a_q1_plan 2 [.ref a_q1_plan_lineOf, .ref a_q1_plan_after, .ref a_q1_plan_hours, .ref a_q1_plan_gangs, .ref a_q1_plan_begins, .ref a_q1_plan_done, .int q1_plan_many], ar E a_q1_plan_begins 30 q1_plan_begins, ar E a_q1_plan_done 30 q1_plan_done]) (w1 := [oo a_q2 0 [.ref a_q2_placeOf, .ref a_q2_hourOf, .ref a_q2_first, .int q2_many], ar E a_q2_first 16 o5, ar E a_q2_hourOf 30 q2_hourOf, ar E a_q2_placeOf 30 q2_placeOf, oo a_q1 3 [.ref a_q1_lines, .ref a_q1_plan, .ref a_q1_draft], oo a_q1_lines 1 [.ref a_q1_lines_oneEnd, .ref a_q1_lines_otherEnd, .ref a_q1_lines_miles, .ref a_q1_lines_hours, .ref a_q1_lines_spikesSet, .int q1_lines_many, .int q1_lines_rateOfSet, .int q1_lines_rateOfOthers], ar E a_q1_lines_hours 30 q1_lines_hours, ar E a_q1_lines_oneEnd 30 q1_lines_oneEnd, ar E a_q1_lines_otherEnd 30 q1_lines_otherEnd, oo a_q1_plan 2 [.ref a_q1_plan_lineOf, .ref a_q1_plan_after, .ref a_q1_plan_hours, .ref a_q1_plan_gangs, .ref a_q1_plan_begins, .ref a_q1_plan_done, .int q1_plan_many], ar E a_q1_plan_begins 30 q1_plan_begins, ar E a_q1_plan_done 30 q1_plan_done]) (w' := [oo a_t 5 [.ref a_t_pushers, .ref a_t_hoursLeft, .ref a_t_slotOf, .ref a_t_wantedBy, .ref a_t_queue, .ref a_t_hoursSeen, .int t_queued, .int t_hasLatest], ar E a_t_hoursLeft 480 t_hoursLeft, ar E a_t_hoursSeen 16 t_hoursSeen, ar E a_t_pushers 16 t_pushers, ar E a_t_queue 30 t_queue, ar E a_t_slotOf 30 t_slotOf, ar E a_t_wantedBy 30 t_wantedBy, oo a_q1 3 [.ref a_q1_lines, .ref a_q1_plan, .ref a_q1_draft], oo a_q1_lines 1 [.ref a_q1_lines_oneEnd, .ref a_q1_lines_otherEnd, .ref a_q1_lines_miles, .ref a_q1_lines_hours, .ref a_q1_lines_spikesSet, .int q1_lines_many, .int q1_lines_rateOfSet, .int q1_lines_rateOfOthers], ar E a_q1_lines_hours 30 q1_lines_hours, ar E a_q1_lines_oneEnd 30 q1_lines_oneEnd, ar E a_q1_lines_otherEnd 30 q1_lines_otherEnd, oo a_q1_plan 2 [.ref a_q1_plan_lineOf, .ref a_q1_plan_after, .ref a_q1_plan_hours, .ref a_q1_plan_gangs, .ref a_q1_plan_begins, .ref a_q1_plan_done, .int q1_plan_many], ar E a_q1_plan_begins 30 q1_plan_begins, ar E a_q1_plan_done 30 q1_plan_done, oo a_q2 0 [.ref a_q2_placeOf, .ref a_q2_hourOf, .ref a_q2_first, .int q2_many], ar E a_q2_first 16 o5, ar E a_q2_hourOf 30 q2_hourOf, ar E a_q2_placeOf 30 q2_placeOf]) (ads := [a_q2, a_q2_first, a_q2_hourOf, a_q2_placeOf, a_q1, a_q1_lines, a_q1_lines_hours, a_q1_lines_oneEnd, a_q1_lines_otherEnd, a_q1_plan, a_q1_plan_begins, a_q1_plan_done]) (As := [.ref a_q1, .int v5]) (rest := []) (kX0_travel l E hc5) ⟨hx, hb, hml, hown, hts⟩ (cwV 2 hts gX5_push_X0_travel rfl rfl rfl (by decide +kernel) ⟨by decide, by decide⟩) hE hP hD hS hA [15, 16, 17, 18, 7, 8, 9, 10, 11, 12, 13, 14] (by decide) rfl rfl rfl rfl rfl rfl rfl rfl hl.1 rfl (Nat.le_of_ble_eq_true rfl) dX5_push_41 ⟨Nat.zero_le _, Nat.zero_le _⟩ (fun H locs hP hD hS => ?_)
        refine lv_aload_n hx hb dX5_push_44 rfl (lv_at hl 0 rfl) ?_
        refine lv_aload_n hx hb dX5_push_45 rfl (lv_at hl 2 rfl) ?_
        refine lv_iload hx hb dX5_push_46 (lv_at hl 5 rfl) ?_
        refine lv_iload_n hx hb dX5_push_48 rfl (lv_at hl 3 rfl) ?_
        obtain ⟨o6, hc6, h⟩ := kbind h
        refine kcvV (l := l) (E := E) (wc := [oo a_t 5 [.ref a_t_pushers, .ref a_t_hoursLeft, .ref a_t_slotOf, .ref a_t_wantedBy, .ref a_t_queue, .ref a_t_hoursSeen, .int t_queued, .int t_hasLatest], ar E a_t_hoursLeft 480 t_hoursLeft, ar E a_t_pushers 16 t_pushers, oo a_q2 0 [.ref a_q2_placeOf, .ref a_q2_hourOf, .ref a_q2_first, .int q2_many], ar E a_q2_first 16 o5]) (w1 := [oo a_t 5 [.ref a_t_pushers, .ref a_t_hoursLeft, .ref a_t_slotOf, .ref a_t_wantedBy, .ref a_t_queue, .ref a_t_hoursSeen, .int t_queued, .int t_hasLatest], ar E a_t_hoursLeft 480 o6, ar E a_t_pushers 16 t_pushers, oo a_q2 0 [.ref a_q2_placeOf, .ref a_q2_hourOf, .ref a_q2_first, .int q2_many], ar E a_q2_first 16 o5]) (w' := [oo a_t 5 [.ref a_t_pushers, .ref a_t_hoursLeft, .ref a_t_slotOf, .ref a_t_wantedBy, .ref a_t_queue, .ref a_t_hoursSeen, .int t_queued, .int t_hasLatest], ar E a_t_hoursLeft 480 o6, ar E a_t_hoursSeen 16 t_hoursSeen, ar E a_t_pushers 16 t_pushers, ar E a_t_queue 30 t_queue, ar E a_t_slotOf 30 t_slotOf, ar E a_t_wantedBy 30 t_wantedBy, oo a_q1 3 [.ref a_q1_lines, .ref a_q1_plan, .ref a_q1_draft], oo a_q1_lines 1 [.ref a_q1_lines_oneEnd, .ref a_q1_lines_otherEnd, .ref a_q1_lines_miles, .ref a_q1_lines_hours, .ref a_q1_lines_spikesSet, .int q1_lines_many, .int q1_lines_rateOfSet, .int q1_lines_rateOfOthers], ar E a_q1_lines_hours 30 q1_lines_hours, ar E a_q1_lines_oneEnd 30 q1_lines_oneEnd, ar E a_q1_lines_otherEnd 30 q1_lines_otherEnd, oo a_q1_plan 2 [.ref a_q1_plan_lineOf, .ref a_q1_plan_after, .ref a_q1_plan_hours, .ref a_q1_plan_gangs, .ref a_q1_plan_begins, .ref a_q1_plan_done, .int q1_plan_many], ar E a_q1_plan_begins 30 q1_plan_begins, ar E a_q1_plan_done 30 q1_plan_done, oo a_q2 0 [.ref a_q2_placeOf, .ref a_q2_hourOf, .ref a_q2_first, .int q2_many], ar E a_q2_first 16 o5, ar E a_q2_hourOf 30 q2_hourOf, ar E a_q2_placeOf 30 q2_placeOf]) (ads := [a_t, a_t_hoursLeft, a_t_pushers, a_q2, a_q2_first]) (As := [.ref a_q2, .int v5, .int p3]) (rest := []) (kX5_reckonHoursLeft l E hc6) ⟨hx, hb, hml, hown, hts⟩ (cwV 3 hts gX5_push_X5_reckonHoursLeft rfl rfl rfl (by decide +kernel) ⟨by decide, by decide⟩) hE hP hD hS hA [0, 1, 3, 15, 16] (by decide) rfl rfl rfl rfl rfl rfl rfl rfl hl.1 rfl (Nat.le_of_ble_eq_true rfl) dX5_push_49 ⟨Nat.zero_le _, Nat.zero_le _⟩ (fun H locs hP hD hS => ?_)
        refine lv_aload_n hx hb dX5_push_52 rfl (lv_at hl 0 rfl) ?_
        refine lv_iload hx hb dX5_push_53 (lv_at hl 5 rfl) ?_
        obtain ⟨o7, hc7, h⟩ := kbind h
        refine kciV (l := l) (E := E) (wc := [oo a_t 5 [.ref a_t_pushers, .ref a_t_hoursLeft, .ref a_t_slotOf, .ref a_t_wantedBy, .ref a_t_queue, .ref a_t_hoursSeen, .int t_queued, .int t_hasLatest], ar E a_t_hoursLeft 480 o6, ar E a_t_hoursSeen 16 t_hoursSeen, ar E a_t_pushers 16 t_pushers, ar E a_t_queue 30 t_queue, ar E a_t_slotOf 30 t_slotOf, ar E a_t_wantedBy 30 t_wantedBy]) (w1 := [oo a_t 5 [.ref a_t_pushers, .ref a_t_hoursLeft, .ref a_t_slotOf, .ref a_t_wantedBy, .ref a_t_queue, .ref a_t_hoursSeen, .int o7.2.1, .int t_hasLatest], ar E a_t_hoursLeft 480 o6, ar E a_t_hoursSeen 16 o7.2.2.1, ar E a_t_pushers 16 t_pushers, ar E a_t_queue 30 o7.2.2.2.1, ar E a_t_slotOf 30 o7.2.2.2.2.1, ar E a_t_wantedBy 30 o7.2.2.2.2.2]) (w' := [oo a_t 5 [.ref a_t_pushers, .ref a_t_hoursLeft, .ref a_t_slotOf, .ref a_t_wantedBy, .ref a_t_queue, .ref a_t_hoursSeen, .int o7.2.1, .int t_hasLatest], ar E a_t_hoursLeft 480 o6, ar E a_t_hoursSeen 16 o7.2.2.1, ar E a_t_pushers 16 t_pushers, ar E a_t_queue 30 o7.2.2.2.1, ar E a_t_slotOf 30 o7.2.2.2.2.1, ar E a_t_wantedBy 30 o7.2.2.2.2.2, oo a_q1 3 [.ref a_q1_lines, .ref a_q1_plan, .ref a_q1_draft], oo a_q1_lines 1 [.ref a_q1_lines_oneEnd, .ref a_q1_lines_otherEnd, .ref a_q1_lines_miles, .ref a_q1_lines_hours, .ref a_q1_lines_spikesSet, .int q1_lines_many, .int q1_lines_rateOfSet, .int q1_lines_rateOfOthers], ar E a_q1_lines_hours 30 q1_lines_hours, ar E a_q1_lines_oneEnd 30 q1_lines_oneEnd, ar E a_q1_lines_otherEnd 30 q1_lines_otherEnd, oo a_q1_plan 2 [.ref a_q1_plan_lineOf, .ref a_q1_plan_after, .ref a_q1_plan_hours, .ref a_q1_plan_gangs, .ref a_q1_plan_begins, .ref a_q1_plan_done, .int q1_plan_many], ar E a_q1_plan_begins 30 q1_plan_begins, ar E a_q1_plan_done 30 q1_plan_done, oo a_q2 0 [.ref a_q2_placeOf, .ref a_q2_hourOf, .ref a_q2_first, .int q2_many], ar E a_q2_first 16 o5, ar E a_q2_hourOf 30 q2_hourOf, ar E a_q2_placeOf 30 q2_placeOf]) (ads := [a_t, a_t_hoursLeft, a_t_hoursSeen, a_t_pushers, a_t_queue, a_t_slotOf, a_t_wantedBy]) (r := o7.1) (As := [.int v5]) (rest := []) (kX5_comesIntoSet l E hc7) ⟨hx, hb, hml, hown, hts⟩ (cwV 1 hts gX5_push_X5_comesIntoSet rfl rfl rfl (by decide +kernel) ⟨by decide, by decide⟩) hE hP hD hS hA [0, 1, 2, 3, 4, 5, 6] (by decide) rfl rfl rfl rfl rfl rfl rfl rfl hl.1 rfl (Nat.le_of_ble_eq_true rfl) dX5_push_55 ⟨Nat.zero_le _, Nat.zero_le _⟩ (fun H locs hP hD hS => ?_)
        refine lv_if_eq (tgt := 64) hx hb dX5_push_58 (by decide) (fun c_8 => ?_) (fun c_8 => ?_)
        · have h := (if_pos c_8).symm.trans h
          refine lv_iinc (v := (v5 + (iI 1))) (lv' := [(5, .int (v5 + (iI 1))), (0, .ref a_t), (1, .ref a_q1), (2, .ref a_q2), (3, .int p3), (4, .int v4)]) hx hb dX5_push_64 hl (k := 5) rfl (kinc _ (by decide)) (by decide) rfl (fun ls hl => ?_)
          refine lv_goto (tgt := 28) hx hb dX5_push_67 (by decide) ?_
          exact ih v4 (v5 + (iI 1)) o7.2.1 o6 o7.2.2.1 o7.2.2.2.1 o7.2.2.2.2.1 o7.2.2.2.2.2 o5 _ _ _ h hP hD hS (lv_sub hl [1, 2, 3, 4, 5, 0] rfl)
        · have h := (if_neg c_8).symm.trans h
          refine lv_iinc (v := (v4 + (iI 1))) (lv' := [(4, .int (v4 + (iI 1))), (0, .ref a_t), (1, .ref a_q1), (2, .ref a_q2), (3, .int p3), (5, .int v5)]) hx hb dX5_push_61 hl (k := 4) rfl (kinc _ (by decide)) (by decide) rfl (fun ls hl => ?_)
          refine lv_iinc (v := (v5 + (iI 1))) (lv' := [(5, .int (v5 + (iI 1))), (4, .int (v4 + (iI 1))), (0, .ref a_t), (1, .ref a_q1), (2, .ref a_q2), (3, .int p3)]) hx hb dX5_push_64 hl (k := 5) rfl (kinc _ (by decide)) (by decide) rfl (fun ls hl => ?_)
          refine lv_goto (tgt := 28) hx hb dX5_push_67 (by decide) ?_
          exact ih (v4 + (iI 1)) (v5 + (iI 1)) o7.2.1 o6 o7.2.2.1 o7.2.2.2.1 o7.2.2.2.2.1 o7.2.2.2.2.2 o5 _ _ _ h hP hD hS (lv_sub hl [2, 3, 4, 5, 1, 0] rfl)
  rw [mX5_push] at h
  refine lv_iload_n hx hb dX5_push_0 rfl (lv_at hl 3 rfl) ?_
  refine kciN (l := l) (E := E) (wc := []) (w1 := []) (w' := [oo a_t 5 [.ref a_t_pushers, .ref a_t_hoursLeft, .ref a_t_slotOf, .ref a_t_wantedBy, .ref a_t_queue, .ref a_t_hoursSeen, .int t_queued, .int t_hasLatest], ar E a_t_hoursLeft 480 t_hoursLeft, ar E a_t_hoursSeen 16 t_hoursSeen, ar E a_t_pushers 16 t_pushers, ar E a_t_queue 30 t_queue, ar E a_t_slotOf 30 t_slotOf, ar E a_t_wantedBy 30 t_wantedBy, oo a_q1 3 [.ref a_q1_lines, .ref a_q1_plan, .ref a_q1_draft], oo a_q1_lines 1 [.ref a_q1_lines_oneEnd, .ref a_q1_lines_otherEnd, .ref a_q1_lines_miles, .ref a_q1_lines_hours, .ref a_q1_lines_spikesSet, .int q1_lines_many, .int q1_lines_rateOfSet, .int q1_lines_rateOfOthers], ar E a_q1_lines_hours 30 q1_lines_hours, ar E a_q1_lines_oneEnd 30 q1_lines_oneEnd, ar E a_q1_lines_otherEnd 30 q1_lines_otherEnd, oo a_q1_plan 2 [.ref a_q1_plan_lineOf, .ref a_q1_plan_after, .ref a_q1_plan_hours, .ref a_q1_plan_gangs, .ref a_q1_plan_begins, .ref a_q1_plan_done, .int q1_plan_many], ar E a_q1_plan_begins 30 q1_plan_begins, ar E a_q1_plan_done 30 q1_plan_done, oo a_q2 0 [.ref a_q2_placeOf, .ref a_q2_hourOf, .ref a_q2_first, .int q2_many], ar E a_q2_first 16 q2_first, ar E a_q2_hourOf 30 q2_hourOf, ar E a_q2_placeOf 30 q2_placeOf]) (ads := []) (r := (mX9_isHour p3)) (As := [.int p3]) (rest := []) (kX9_isHour l E rfl) ⟨hx, hb, hml, hown, hts⟩ ⟨va_cnB 1 hts gX5_push_X9_isHour_n54 rfl rfl rfl (nwm_31 hE.2.1) w0 (by decide +kernel) ⟨by decide, by decide⟩, w1, trivial⟩ hE hP hD hS hA [] (by decide) rfl rfl rfl rfl  rfl hl.1 rfl (Nat.le_of_ble_eq_true rfl) dX5_push_1 ⟨Nat.zero_le _, Nat.zero_le _⟩ (fun H locs hP hD hS => ?_)
  refine lv_if_ne (tgt := 9) hx hb dX5_push_4 (by decide) (fun c_2 => ?_) (fun c_2 => ?_)
  · have h := (if_neg c_2).symm.trans h
    refine lv_aload_n hx hb dX5_push_9 rfl (lv_at hl 0 rfl) ?_
    refine lv_iconst (v := (iI 1)) hx hb dX5_push_10 (by decide) ?_
    refine kput (w' := [oo a_t 5 [.ref a_t_pushers, .ref a_t_hoursLeft, .ref a_t_slotOf, .ref a_t_wantedBy, .ref a_t_queue, .ref a_t_hoursSeen, .int t_queued, .int (iI 1)], ar E a_t_hoursLeft 480 t_hoursLeft, ar E a_t_hoursSeen 16 t_hoursSeen, ar E a_t_pushers 16 t_pushers, ar E a_t_queue 30 t_queue, ar E a_t_slotOf 30 t_slotOf, ar E a_t_wantedBy 30 t_wantedBy, oo a_q1 3 [.ref a_q1_lines, .ref a_q1_plan, .ref a_q1_draft], oo a_q1_lines 1 [.ref a_q1_lines_oneEnd, .ref a_q1_lines_otherEnd, .ref a_q1_lines_miles, .ref a_q1_lines_hours, .ref a_q1_lines_spikesSet, .int q1_lines_many, .int q1_lines_rateOfSet, .int q1_lines_rateOfOthers], ar E a_q1_lines_hours 30 q1_lines_hours, ar E a_q1_lines_oneEnd 30 q1_lines_oneEnd, ar E a_q1_lines_otherEnd 30 q1_lines_otherEnd, oo a_q1_plan 2 [.ref a_q1_plan_lineOf, .ref a_q1_plan_after, .ref a_q1_plan_hours, .ref a_q1_plan_gangs, .ref a_q1_plan_begins, .ref a_q1_plan_done, .int q1_plan_many], ar E a_q1_plan_begins 30 q1_plan_begins, ar E a_q1_plan_done 30 q1_plan_done, oo a_q2 0 [.ref a_q2_placeOf, .ref a_q2_hourOf, .ref a_q2_first, .int q2_many], ar E a_q2_first 16 q2_first, ar E a_q2_hourOf 30 q2_hourOf, ar E a_q2_placeOf 30 q2_placeOf]) (E := E) (ci := 5) (v := .int (iI 1)) (ty := .boolean) (C := RX5) (T := TX5) (N := 8) hx hb hts iX5 tyX5 tyX5_ok nmX5 hown hK hP hD hS 0 rfl rfl 7 (by decide) w3 (fun _ h9 => h9) rfl (tyX5_ok 7 (by decide)) rfl rfl (Nat.le_of_ble_eq_true rfl) rfl dX5_push_11 (fun H locs hP hD hS => ?_)
    refine lv_aload_n hx hb dX5_push_14 rfl (lv_at hl 0 rfl) ?_
    refine va_get (D := kD E) (cl := vwCl) (tys := kT E) (ci := 5) (v := .ref a_t_slotOf) (C := RX5) (T := TX5) (N := 8) hx hb hts iX5 hown hK hP 0 rfl rfl 2 (by decide) w4 (fun _ h9 => h9) rfl dX5_push_15 ?_
    refine lv_iconst (v := (iI (-1))) hx hb dX5_push_18 (by decide) ?_
    obtain ⟨o3, hc3, h⟩ := kbind h
    refine kcvS (l := l) (E := E) (wc := [ar E a_t_slotOf 30 t_slotOf]) (w1 := [ar E a_t_slotOf 30 o3]) (w' := [oo a_t 5 [.ref a_t_pushers, .ref a_t_hoursLeft, .ref a_t_slotOf, .ref a_t_wantedBy, .ref a_t_queue, .ref a_t_hoursSeen, .int t_queued, .int (iI 1)], ar E a_t_hoursLeft 480 t_hoursLeft, ar E a_t_hoursSeen 16 t_hoursSeen, ar E a_t_pushers 16 t_pushers, ar E a_t_queue 30 t_queue, ar E a_t_slotOf 30 o3, ar E a_t_wantedBy 30 t_wantedBy, oo a_q1 3 [.ref a_q1_lines, .ref a_q1_plan, .ref a_q1_draft], oo a_q1_lines 1 [.ref a_q1_lines_oneEnd, .ref a_q1_lines_otherEnd, .ref a_q1_lines_miles, .ref a_q1_lines_hours, .ref a_q1_lines_spikesSet, .int q1_lines_many, .int q1_lines_rateOfSet, .int q1_lines_rateOfOthers], ar E a_q1_lines_hours 30 q1_lines_hours, ar E a_q1_lines_oneEnd 30 q1_lines_oneEnd, ar E a_q1_lines_otherEnd 30 q1_lines_otherEnd, oo a_q1_plan 2 [.ref a_q1_plan_lineOf, .ref a_q1_plan_after, .ref a_q1_plan_hours, .ref a_q1_plan_gangs, .ref a_q1_plan_begins, .ref a_q1_plan_done, .int q1_plan_many], ar E a_q1_plan_begins 30 q1_plan_begins, ar E a_q1_plan_done 30 q1_plan_done, oo a_q2 0 [.ref a_q2_placeOf, .ref a_q2_hourOf, .ref a_q2_first, .int q2_many], ar E a_q2_first 16 q2_first, ar E a_q2_hourOf 30 q2_hourOf, ar E a_q2_placeOf 30 q2_placeOf]) (ads := [a_t_slotOf]) (As := [.ref a_t_slotOf, .int (iI (-1))]) (rest := []) (kJ7_fill_53178 l E (hn_q0 := (Nat.le_of_ble_eq_true rfl)) hc3) ⟨hx, hb, hml, hown, hts⟩ (va_cwS 2 hts gX5_push_J7_fill_53178 rfl rfl rfl (by decide +kernel) ⟨by decide, by decide⟩) hE hP hD hS hA [5] (by decide) rfl rfl rfl rfl  rfl hl.1 rfl (Nat.le_of_ble_eq_true rfl) dX5_push_19 ⟨Nat.zero_le _, Nat.zero_le _⟩ (fun H locs hP hD hS => ?_)
    refine lv_iconst (v := (iI 0)) hx hb dX5_push_22 (by decide) ?_
    refine lv_istore (lv' := [(4, .int (iI 0)), (0, .ref a_t), (1, .ref a_q1), (2, .ref a_q2), (3, .int p3)]) hx hb dX5_push_23 hl (by decide) rfl (fun ls hl => ?_)
    refine lv_iconst (v := (iI 0)) hx hb dX5_push_25 (by decide) ?_
    refine lv_istore (lv' := [(5, .int (iI 0)), (4, .int (iI 0)), (0, .ref a_t), (1, .ref a_q1), (2, .ref a_q2), (3, .int p3)]) hx hb dX5_push_26 hl (by decide) rfl (fun ls hl => ?_)
    exact L28 (iI 1) _ (iI 0) (iI 0) t_queued t_hoursLeft t_hoursSeen t_queue o3 t_wantedBy q2_first _ _ _ h hP hD hS (lv_sub hl [2, 3, 4, 5, 1, 0] rfl)
  · have h := (if_pos c_2).symm.trans h
    refine lv_iconst (v := (iI (-1))) hx hb dX5_push_7 (by decide) ?_
    exact hret _ _ ((iI (-1)), t_queued, t_hasLatest, t_hoursLeft, t_hoursSeen, t_queue, t_slotOf, t_wantedBy, q2_first) _ _ _ (Option.some.inj h) rfl rfl hP hS dX5_push_8
abbrev rmX6_hasRoomFor : Room := { frames := 0, cells := 0, slots := 0, locals := 0 }
set_option maxHeartbeats 4000000 in
set_option maxRecDepth 100000 in
theorem kX6_hasRoomFor (l : Launch) (E : KE) {a_t : Nat} {a_t_bytes : Nat} {p1 : Int32} {t_length : Int32} {t_tokenStart : Int32} {t_tokenEnd : Int32} {out : Int32} (h : mX6_hasRoomFor p1 t_length = out) : KI l E yX6_hasRoomFor wsX6_hasRoomFor rmX6_hasRoomFor [.ref a_t, .int p1] [oo a_t 6 [.ref a_t_bytes, .int t_length, .int t_tokenStart, .int t_tokenEnd]] [oo a_t 6 [.ref a_t_bytes, .int t_length, .int t_tokenStart, .int t_tokenEnd]] out := by
  refine kmetI (T := Int32) (out := out) (wf := (fun (o : Int32) => [oo a_t 6 [.ref a_t_bytes, .int t_length, .int t_tokenStart, .int t_tokenEnd]])) (rf := (fun (o : Int32) => o)) (cc := cX6_hasRoomFor) (maxL := 2) (ty := .boolean) (by decide) rfl (Nat.le_of_ble_eq_true rfl) ?_
  intro p e s m args below meth c A Q ls hx hb hml hts hown hE hP hD hS hA hl hret
  have hown : s.vm.findClass RX6 = some m.cls := hown
  have hK := hE.1
  have hl : lv_has ls 2 [(0, .ref a_t), (1, .int p1)] := hl
  have hP : va_P (kD E) vwCl [oo a_t 6 [.ref a_t_bytes, .int t_length, .int t_tokenStart, .int t_tokenEnd]] s.heap := hP
  have hD : va_D A [oo a_t 6 [.ref a_t_bytes, .int t_length, .int t_tokenStart, .int t_tokenEnd]] := hD
  have iX6 : ∀ w ∈ wsX60, w ∈ wsX6_hasRoomFor := by decide +kernel
  have w1 := hts (.fieldLink RX6 15 "GaugeWeekend$Tape" "length" "I") (by decide +kernel)
  rw [mX6_hasRoomFor] at h
  refine lv_aload_n hx hb dX6_hasRoomFor_0 rfl (lv_at hl 0 rfl) ?_
  refine va_get (D := kD E) (cl := vwCl) (tys := kT E) (ci := 6) (v := .int t_length) (C := RX6) (T := TX6) (N := 4) hx hb hts iX6 hown hK hP 0 rfl rfl 1 (by decide) w1 (fun _ h9 => h9) rfl dX6_hasRoomFor_1 ?_
  refine lv_iload_n hx hb dX6_hasRoomFor_4 rfl (lv_at hl 1 rfl) ?_
  refine lv_iadd hx hb dX6_hasRoomFor_5 ?_
  refine lv_sipush (v := (iI 400)) hx hb dX6_hasRoomFor_6 (by decide) ?_
  refine lv_icmp_gt (tgt := 16) hx hb dX6_hasRoomFor_9 (by decide) (fun c_1 => ?_) (fun c_1 => ?_)
  · have h := (if_pos c_1).symm.trans h
    refine lv_iconst (v := (iI 0)) hx hb dX6_hasRoomFor_16 (by decide) ?_
    exact hret _ _ (iI 0) _ _ _ h rfl rfl hP hS dX6_hasRoomFor_17
  · have h := (if_neg c_1).symm.trans h
    refine lv_iconst (v := (iI 1)) hx hb dX6_hasRoomFor_12 (by decide) ?_
    refine lv_goto (tgt := 17) hx hb dX6_hasRoomFor_13 (by decide) ?_
    exact hret _ _ (iI 1) _ _ _ h rfl rfl hP hS dX6_hasRoomFor_17
abbrev rmX6_append : Room := { frames := 1, cells := 0, slots := 0, locals := 22 }
set_option maxHeartbeats 4000000 in
set_option maxRecDepth 100000 in
theorem kX6_append (l : Launch) (E : KE) {a_t : Nat} {a_t_bytes : Nat} {p1 : Int32} {t_length : Int32} {t_tokenStart : Int32} {t_tokenEnd : Int32} {t_bytes : Nat → Int32} {out : Int32 × (Nat → Int32)} (h : mX6_append p1 t_length t_bytes = some out) : KV l E yX6_append wsX6_append rmX6_append [.ref a_t, .int p1] [oo a_t 6 [.ref a_t_bytes, .int t_length, .int t_tokenStart, .int t_tokenEnd], ar E a_t_bytes 400 t_bytes] [oo a_t 6 [.ref a_t_bytes, .int out.1, .int t_tokenStart, .int t_tokenEnd], ar E a_t_bytes 400 out.2] := by
  refine kmetV (T := Int32 × (Nat → Int32)) (out := out) (wf := (fun (o : Int32 × (Nat → Int32)) => [oo a_t 6 [.ref a_t_bytes, .int o.1, .int t_tokenStart, .int t_tokenEnd], ar E a_t_bytes 400 o.2])) (cc := cX6_append) (maxL := 3) (by decide) rfl (Nat.le_of_ble_eq_true rfl) ?_
  intro p e s m args below meth c A Q ls hx hb hml hts hown hE hP hD hS hA hl hret
  have hown : s.vm.findClass RX6 = some m.cls := hown
  have hK := hE.1
  have hl : lv_has ls 3 [(0, .ref a_t), (1, .int p1)] := hl
  have hP : va_P (kD E) vwCl [oo a_t 6 [.ref a_t_bytes, .int t_length, .int t_tokenStart, .int t_tokenEnd], ar E a_t_bytes 400 t_bytes] s.heap := hP
  have hD : va_D A [oo a_t 6 [.ref a_t_bytes, .int t_length, .int t_tokenStart, .int t_tokenEnd], ar E a_t_bytes 400 t_bytes] := hD
  have iX6 : ∀ w ∈ wsX60, w ∈ wsX6_append := by decide +kernel
  have w1 := hts (.fieldLink RX6 11 "GaugeWeekend$Tape" "bytes" "[I") (by decide +kernel)
  have w2 := hts (.fieldLink RX6 15 "GaugeWeekend$Tape" "length" "I") (by decide +kernel)
  have w3 := hts (.initialized RX9) (by decide +kernel)
  have w4 := hts (.static yX9_put) (by decide +kernel)
  have L3 : ∀ (n : Nat) (v2 : Int32) (t_length : Int32) (t_bytes : Nat → Int32) (H : Heap) (locs : List Loc) (ls : Array Slot) (h : mX6_append_L3 p1 n v2 t_length t_bytes = some out) (hP : va_P (kD E) vwCl [oo a_t 6 [.ref a_t_bytes, .int t_length, .int t_tokenStart, .int t_tokenEnd], ar E a_t_bytes 400 t_bytes] H) (hD : va_D A [oo a_t 6 [.ref a_t_bytes, .int t_length, .int t_tokenStart, .int t_tokenEnd], ar E a_t_bytes 400 t_bytes]) (hS : va_S A s.heap H locs) (hl : lv_has ls 3 [(0, .ref a_t), (1, .int p1), (2, .int v2)]), W p l e rmX6_append s m args below meth c H locs 0 0 Q (F0 m 3 ls []) := by
    intro  n
    induction n with
    | zero =>
      intro v2 t_length t_bytes H locs ls h
      rw [mX6_append_L3] at h
      cases h
    | succ n ih =>
      intro v2 t_length t_bytes H locs ls h hP hD hS hl
      rw [mX6_append_L3] at h
      refine lv_iload_n hx hb dX6_append_3 rfl (lv_at hl 2 rfl) ?_
      refine lv_if_lt (tgt := 41) hx hb dX6_append_4 (by decide) (fun c_1 => ?_) (fun c_1 => ?_)
      · have h := (if_pos c_1).symm.trans h
        exact hret _ (t_length, t_bytes) _ _ _ (Option.some.inj h) hP hS dX6_append_41
      · have h := (if_neg c_1).symm.trans h
        refine lv_aload_n hx hb dX6_append_7 rfl (lv_at hl 0 rfl) ?_
        refine va_get (D := kD E) (cl := vwCl) (tys := kT E) (ci := 6) (v := .ref a_t_bytes) (C := RX6) (T := TX6) (N := 4) hx hb hts iX6 hown hK hP 0 rfl rfl 0 (by decide) w1 (fun _ h9 => h9) rfl dX6_append_8 ?_
        refine lv_aload_n hx hb dX6_append_11 rfl (lv_at hl 0 rfl) ?_
        refine va_get (D := kD E) (cl := vwCl) (tys := kT E) (ci := 6) (v := .int t_length) (C := RX6) (T := TX6) (N := 4) hx hb hts iX6 hown hK hP 0 rfl rfl 1 (by decide) w2 (fun _ h9 => h9) rfl dX6_append_12 ?_
        refine lv_iload_n hx hb dX6_append_15 rfl (lv_at hl 1 rfl) ?_
        refine lv_iload_n hx hb dX6_append_16 rfl (lv_at hl 2 rfl) ?_
        refine lv_iushr (v := (UInt32.toInt32 (Int32.toUInt32 p1 >>> (Int32.toUInt32 v2 &&& Int32.toUInt32 31)))) hx hb dX6_append_17 rfl ?_
        refine lv_sipush (v := (iI 255)) hx hb dX6_append_18 (by decide) ?_
        refine lv_iand hx hb dX6_append_21 ?_
        refine kcvN (l := l) (E := E) (wc := [ar E a_t_bytes 400 t_bytes]) (w1 := [ar E a_t_bytes 400 (mX9_put 400 t_length ((UInt32.toInt32 (Int32.toUInt32 p1 >>> (Int32.toUInt32 v2 &&& Int32.toUInt32 31))) &&& (iI 255)) t_bytes)]) (w' := [oo a_t 6 [.ref a_t_bytes, .int t_length, .int t_tokenStart, .int t_tokenEnd], ar E a_t_bytes 400 (mX9_put 400 t_length ((UInt32.toInt32 (Int32.toUInt32 p1 >>> (Int32.toUInt32 v2 &&& Int32.toUInt32 31))) &&& (iI 255)) t_bytes)]) (ads := [a_t_bytes]) (As := [.ref a_t_bytes, .int t_length, .int ((UInt32.toInt32 (Int32.toUInt32 p1 >>> (Int32.toUInt32 v2 &&& Int32.toUInt32 31))) &&& (iI 255))]) (rest := []) (kX9_put l E (hn_q0 := (Nat.le_of_ble_eq_true rfl)) rfl) ⟨hx, hb, hml, hown, hts⟩ ⟨va_cnB 3 hts gX6_append_X9_put_n25 rfl rfl rfl (nwm_15 hE.2.1) w3 (by decide +kernel) ⟨by decide, by decide⟩, w4, trivial⟩ hE hP hD hS hA [1] (by decide) rfl rfl rfl rfl  rfl hl.1 rfl (Nat.le_of_ble_eq_true rfl) dX6_append_22 ⟨Nat.zero_le _, Nat.zero_le _⟩ (fun H locs hP hD hS => ?_)
        refine lv_aload_n hx hb dX6_append_25 rfl (lv_at hl 0 rfl) ?_
        refine lv_dup hx hb dX6_append_26 rfl ?_
        refine va_get (D := kD E) (cl := vwCl) (tys := kT E) (ci := 6) (v := .int t_length) (C := RX6) (T := TX6) (N := 4) hx hb hts iX6 hown hK hP 0 rfl rfl 1 (by decide) w2 (fun _ h9 => h9) rfl dX6_append_27 ?_
        refine lv_iconst (v := (iI 1)) hx hb dX6_append_30 (by decide) ?_
        refine lv_iadd hx hb dX6_append_31 ?_
        refine kput (w' := [oo a_t 6 [.ref a_t_bytes, .int (t_length + (iI 1)), .int t_tokenStart, .int t_tokenEnd], ar E a_t_bytes 400 (mX9_put 400 t_length ((UInt32.toInt32 (Int32.toUInt32 p1 >>> (Int32.toUInt32 v2 &&& Int32.toUInt32 31))) &&& (iI 255)) t_bytes)]) (E := E) (ci := 6) (v := .int (t_length + (iI 1))) (ty := .int) (C := RX6) (T := TX6) (N := 4) hx hb hts iX6 tyX6 tyX6_ok nmX6 hown hK hP hD hS 0 rfl rfl 1 (by decide) w2 (fun _ h9 => h9) rfl (tyX6_ok 1 (by decide)) rfl rfl (Nat.le_of_ble_eq_true rfl) rfl dX6_append_32 (fun H locs hP hD hS => ?_)
        refine lv_iinc (v := (v2 + (iI (-8)))) (lv' := [(2, .int (v2 + (iI (-8)))), (0, .ref a_t), (1, .int p1)]) hx hb dX6_append_35 hl (k := 2) rfl (kinc _ (by decide)) (by decide) rfl (fun ls hl => ?_)
        refine lv_goto (tgt := 3) hx hb dX6_append_38 (by decide) ?_
        exact ih (v2 + (iI (-8))) (t_length + (iI 1)) (mX9_put 400 t_length ((UInt32.toInt32 (Int32.toUInt32 p1 >>> (Int32.toUInt32 v2 &&& Int32.toUInt32 31))) &&& (iI 255)) t_bytes) _ _ _ h hP hD hS (lv_sub hl [1, 2, 0] rfl)
  rw [mX6_append] at h
  refine lv_bipush (v := (iI 24)) hx hb dX6_append_0 (by decide) ?_
  refine lv_istore_n (lv' := [(2, .int (iI 24)), (0, .ref a_t), (1, .int p1)]) hx hb dX6_append_2 rfl hl (by decide) rfl (fun ls hl => ?_)
  exact L3 _ (iI 24) t_length t_bytes _ _ _ h hP hD hS (lv_sub hl [1, 2, 0] rfl)
