abbrev rmX9_isWithin : Room := { frames := 0, cells := 0, slots := 0, locals := 0 }
set_option maxHeartbeats 4000000 in
set_option maxRecDepth 100000 in
theorem kX9_isWithin (l : Launch) (E : KE) {p0 : Int32} {p1 : Int32} {p2 : Int32} {out : Int32} (h : mX9_isWithin p0 p1 p2 = out) : KI l E yX9_isWithin wsX9_isWithin rmX9_isWithin [.int p0, .int p1, .int p2] [] [] out := by
  refine kmetI (T := Int32) (out := out) (wf := (fun (o : Int32) => [])) (rf := (fun (o : Int32) => o)) (cc := cX9_isWithin) (maxL := 3) (ty := .boolean) (by decide) rfl (Nat.le_of_ble_eq_true rfl) ?_
  intro p e s m args below meth c A Q ls hx hb hml hts hown hE hP hD hS hA hl hret
  have hown : s.vm.findClass RX9 = some m.cls := hown
  have hK := hE.1
  have hl : lv_has ls 3 [(0, .int p0), (1, .int p1), (2, .int p2)] := hl
  have hP : va_P (kD E) vwCl [] s.heap := hP
  have hD : va_D A [] := hD
  rw [mX9_isWithin] at h
  refine lv_iload_n hx hb dX9_isWithin_0 rfl (lv_at hl 0 rfl) ?_
  refine lv_iload_n hx hb dX9_isWithin_1 rfl (lv_at hl 1 rfl) ?_
  refine lv_icmp_lt (tgt := 14) hx hb dX9_isWithin_2 (by decide) (fun c_1 => ?_) (fun c_1 => ?_)
  · have h := (if_pos c_1).symm.trans h
    refine lv_iconst (v := (iI 0)) hx hb dX9_isWithin_14 (by decide) ?_
    exact hret _ _ (iI 0) _ _ _ h rfl rfl hP hS dX9_isWithin_15
  · have h := (if_neg c_1).symm.trans h
    refine lv_iload_n hx hb dX9_isWithin_5 rfl (lv_at hl 0 rfl) ?_
    refine lv_iload_n hx hb dX9_isWithin_6 rfl (lv_at hl 2 rfl) ?_
    refine lv_icmp_gt (tgt := 14) hx hb dX9_isWithin_7 (by decide) (fun c_2 => ?_) (fun c_2 => ?_)
    · have h := (if_pos c_2).symm.trans h
      refine lv_iconst (v := (iI 0)) hx hb dX9_isWithin_14 (by decide) ?_
      exact hret _ _ (iI 0) _ _ _ h rfl rfl hP hS dX9_isWithin_15
    · have h := (if_neg c_2).symm.trans h
      refine lv_iconst (v := (iI 1)) hx hb dX9_isWithin_10 (by decide) ?_
      refine lv_goto (tgt := 15) hx hb dX9_isWithin_11 (by decide) ?_
      exact hret _ _ (iI 1) _ _ _ h rfl rfl hP hS dX9_isWithin_15
abbrev rmX9_isPlace : Room := { frames := 1, cells := 0, slots := 0, locals := 22 }
set_option maxHeartbeats 4000000 in
set_option maxRecDepth 100000 in
theorem kX9_isPlace (l : Launch) (E : KE) {p0 : Int32} {out : Int32} (h : mX9_isPlace p0 = out) : KI l E yX9_isPlace wsX9_isPlace rmX9_isPlace [.int p0] [] [] out := by
  refine kmetI (T := Int32) (out := out) (wf := (fun (o : Int32) => [])) (rf := (fun (o : Int32) => o)) (cc := cX9_isPlace) (maxL := 1) (ty := .boolean) (by decide) rfl (Nat.le_of_ble_eq_true rfl) ?_
  intro p e s m args below meth c A Q ls hx hb hml hts hown hE hP hD hS hA hl hret
  have hown : s.vm.findClass RX9 = some m.cls := hown
  have hK := hE.1
  have hl : lv_has ls 1 [(0, .int p0)] := hl
  have hP : va_P (kD E) vwCl [] s.heap := hP
  have hD : va_D A [] := hD
  rw [mX9_isPlace] at h
  refine lv_iload_n hx hb dX9_isPlace_0 rfl (lv_at hl 0 rfl) ?_
  refine lv_iconst (v := (iI 0)) hx hb dX9_isPlace_1 (by decide) ?_
  refine lv_bipush (v := (iI 15)) hx hb dX9_isPlace_2 (by decide) ?_
  refine kciS (l := l) (E := E) (wc := []) (w1 := []) (w' := []) (ads := []) (r := (mX9_isWithin p0 (iI 0) (iI 15))) (As := [.int p0, .int (iI 0), .int (iI 15)]) (rest := []) (kX9_isWithin l E rfl) ⟨hx, hb, hml, hown, hts⟩ (va_cwS 3 hts gX9_isPlace_X9_isWithin rfl rfl rfl (by decide +kernel) ⟨by decide, by decide⟩) hE hP hD hS hA [] (by decide) rfl rfl rfl rfl  rfl hl.1 rfl (Nat.le_of_ble_eq_true rfl) dX9_isPlace_4 ⟨Nat.zero_le _, Nat.zero_le _⟩ (fun H locs hP hD hS => ?_)
  exact hret _ _ (mX9_isWithin p0 (iI 0) (iI 15)) _ _ _ h rfl (knar zX9_isWithin) hP hS dX9_isPlace_7
abbrev rmX9_isHour : Room := { frames := 1, cells := 0, slots := 0, locals := 22 }
set_option maxHeartbeats 4000000 in
set_option maxRecDepth 100000 in
theorem kX9_isHour (l : Launch) (E : KE) {p0 : Int32} {out : Int32} (h : mX9_isHour p0 = out) : KI l E yX9_isHour wsX9_isHour rmX9_isHour [.int p0] [] [] out := by
  refine kmetI (T := Int32) (out := out) (wf := (fun (o : Int32) => [])) (rf := (fun (o : Int32) => o)) (cc := cX9_isHour) (maxL := 1) (ty := .boolean) (by decide) rfl (Nat.le_of_ble_eq_true rfl) ?_
  intro p e s m args below meth c A Q ls hx hb hml hts hown hE hP hD hS hA hl hret
  have hown : s.vm.findClass RX9 = some m.cls := hown
  have hK := hE.1
  have hl : lv_has ls 1 [(0, .int p0)] := hl
  have hP : va_P (kD E) vwCl [] s.heap := hP
  have hD : va_D A [] := hD
  rw [mX9_isHour] at h
  refine lv_iload_n hx hb dX9_isHour_0 rfl (lv_at hl 0 rfl) ?_
  refine lv_iconst (v := (iI 0)) hx hb dX9_isHour_1 (by decide) ?_
  refine lv_bipush (v := (iI 120)) hx hb dX9_isHour_2 (by decide) ?_
  refine kciS (l := l) (E := E) (wc := []) (w1 := []) (w' := []) (ads := []) (r := (mX9_isWithin p0 (iI 0) (iI 120))) (As := [.int p0, .int (iI 0), .int (iI 120)]) (rest := []) (kX9_isWithin l E rfl) ⟨hx, hb, hml, hown, hts⟩ (va_cwS 3 hts gX9_isHour_X9_isWithin rfl rfl rfl (by decide +kernel) ⟨by decide, by decide⟩) hE hP hD hS hA [] (by decide) rfl rfl rfl rfl  rfl hl.1 rfl (Nat.le_of_ble_eq_true rfl) dX9_isHour_4 ⟨Nat.zero_le _, Nat.zero_le _⟩ (fun H locs hP hD hS => ?_)
  exact hret _ _ (mX9_isWithin p0 (iI 0) (iI 120)) _ _ _ h rfl (knar zX9_isWithin) hP hS dX9_isHour_7
abbrev rmX9_put : Room := { frames := 0, cells := 0, slots := 0, locals := 0 }
set_option maxHeartbeats 4000000 in
set_option maxRecDepth 100000 in
theorem kX9_put (l : Launch) (E : KE) {a_q0 : Nat} {n_q0 : Nat} {p1 : Int32} {p2 : Int32} (hn_q0 : n_q0 < 2 ^ 31) {q0 : Nat → Int32} {out : (Nat → Int32)} (h : mX9_put n_q0 p1 p2 q0 = out) : KV l E yX9_put wsX9_put rmX9_put [.ref a_q0, .int p1, .int p2] [ar E a_q0 n_q0 q0] [ar E a_q0 n_q0 out] := by
  refine kmetV (T := (Nat → Int32)) (out := out) (wf := (fun (o : (Nat → Int32)) => [ar E a_q0 n_q0 o])) (cc := cX9_put) (maxL := 3) (by decide) rfl (Nat.le_of_ble_eq_true rfl) ?_
  intro p e s m args below meth c A Q ls hx hb hml hts hown hE hP hD hS hA hl hret
  have hown : s.vm.findClass RX9 = some m.cls := hown
  have hK := hE.1
  have hl : lv_has ls 3 [(0, .ref a_q0), (1, .int p1), (2, .int p2)] := hl
  have hP : va_P (kD E) vwCl [ar E a_q0 n_q0 q0] s.heap := hP
  have hD : va_D A [ar E a_q0 n_q0 q0] := hD
  rw [mX9_put] at h
  refine lv_aload_n hx hb dX9_put_0 rfl (lv_at hl 0 rfl) ?_
  refine lv_ifnull hx hb dX9_put_1 ?_
  refine lv_iload_n hx hb dX9_put_4 rfl (lv_at hl 1 rfl) ?_
  refine lv_if_lt (tgt := 18) hx hb dX9_put_5 (by decide) (fun c_1 => ?_) (fun c_1 => ?_)
  · have h := (if_pos c_1).symm.trans h
    exact hret _ q0 _ _ _ h hP hS dX9_put_18
  · have h := (if_neg c_1).symm.trans h
    refine lv_iload_n hx hb dX9_put_8 rfl (lv_at hl 1 rfl) ?_
    refine lv_aload_n hx hb dX9_put_9 rfl (lv_at hl 0 rfl) ?_
    refine va_alen (D := kD E) (cl := vwCl) (tys := kT E) (v := (Int32.ofNat n_q0)) hx hb hK hP 0 0 rfl rfl rfl dX9_put_10 ?_
    refine lv_icmp_ge (tgt := 18) hx hb dX9_put_11 (by decide) (fun c_2 => ?_) (fun c_2 => ?_)
    · have h := (if_pos c_2).symm.trans h
      exact hret _ q0 _ _ _ h hP hS dX9_put_18
    · have h := (if_neg c_2).symm.trans h
      refine lv_aload_n hx hb dX9_put_14 rfl (lv_at hl 0 rfl) ?_
      refine lv_iload_n hx hb dX9_put_15 rfl (lv_at hl 1 rfl) ?_
      refine lv_iload_n hx hb dX9_put_16 rfl (lv_at hl 2 rfl) ?_
      refine kiast (w' := [ar E a_q0 n_q0 (upd q0 (Int32.toNatClampNeg p1) p2)]) (E := E) hx hb hK hP hD hS 0 rfl (kguard c_1 c_2 hn_q0) rfl dX9_put_17 (fun H locs hP hD hS => ?_)
      exact hret _ (upd q0 (Int32.toNatClampNeg p1) p2) _ _ _ h hP hS dX9_put_18
abbrev rmX0_add : Room := { frames := 2, cells := 0, slots := 0, locals := 42 }
set_option maxHeartbeats 4000000 in
set_option maxRecDepth 100000 in
theorem kX0_add (l : Launch) (E : KE) {a_t : Nat} {a_t_placeOf : Nat} {a_t_hourOf : Nat} {a_t_first : Nat} {p1 : Int32} {p2 : Int32} {t_many : Int32} {t_hourOf : Nat → Int32} {t_placeOf : Nat → Int32} {out : Int32 × Int32 × (Nat → Int32) × (Nat → Int32)} (h : mX0_add p1 p2 t_many t_hourOf t_placeOf = some out) : KI l E yX0_add wsX0_add rmX0_add [.ref a_t, .int p1, .int p2] [oo a_t 0 [.ref a_t_placeOf, .ref a_t_hourOf, .ref a_t_first, .int t_many], ar E a_t_hourOf 30 t_hourOf, ar E a_t_placeOf 30 t_placeOf] [oo a_t 0 [.ref a_t_placeOf, .ref a_t_hourOf, .ref a_t_first, .int out.2.1], ar E a_t_hourOf 30 out.2.2.1, ar E a_t_placeOf 30 out.2.2.2] out.1 := by
  refine kmetI (T := Int32 × Int32 × (Nat → Int32) × (Nat → Int32)) (out := out) (wf := (fun (o : Int32 × Int32 × (Nat → Int32) × (Nat → Int32)) => [oo a_t 0 [.ref a_t_placeOf, .ref a_t_hourOf, .ref a_t_first, .int o.2.1], ar E a_t_hourOf 30 o.2.2.1, ar E a_t_placeOf 30 o.2.2.2])) (rf := (fun (o : Int32 × Int32 × (Nat → Int32) × (Nat → Int32)) => o.1)) (cc := cX0_add) (maxL := 3) (ty := .int) (by decide) rfl (Nat.le_of_ble_eq_true rfl) ?_
  intro p e s m args below meth c A Q ls hx hb hml hts hown hE hP hD hS hA hl hret
  have hown : s.vm.findClass RX0 = some m.cls := hown
  have hK := hE.1
  have hl : lv_has ls 3 [(0, .ref a_t), (1, .int p1), (2, .int p2)] := hl
  have hP : va_P (kD E) vwCl [oo a_t 0 [.ref a_t_placeOf, .ref a_t_hourOf, .ref a_t_first, .int t_many], ar E a_t_hourOf 30 t_hourOf, ar E a_t_placeOf 30 t_placeOf] s.heap := hP
  have hD : va_D A [oo a_t 0 [.ref a_t_placeOf, .ref a_t_hourOf, .ref a_t_first, .int t_many], ar E a_t_hourOf 30 t_hourOf, ar E a_t_placeOf 30 t_placeOf] := hD
  have w0 := hts (.initialized RX9) (by decide +kernel)
  have w1 := hts (.static yX9_isPlace) (by decide +kernel)
  have w2 := hts (.static yX9_isHour) (by decide +kernel)
  have iX0 : ∀ w ∈ wsX00, w ∈ wsX0_add := by decide +kernel
  have w4 := hts (.fieldLink RX0 21 "GaugeWeekend$Cars" "many" "I") (by decide +kernel)
  have w5 := hts (.fieldLink RX0 9 "GaugeWeekend$Cars" "placeOf" "[I") (by decide +kernel)
  have w6 := hts (.static yX9_put) (by decide +kernel)
  have w7 := hts (.fieldLink RX0 15 "GaugeWeekend$Cars" "hourOf" "[I") (by decide +kernel)
  rw [mX0_add] at h
  refine lv_iload_n hx hb dX0_add_0 rfl (lv_at hl 1 rfl) ?_
  refine kciN (l := l) (E := E) (wc := []) (w1 := []) (w' := [oo a_t 0 [.ref a_t_placeOf, .ref a_t_hourOf, .ref a_t_first, .int t_many], ar E a_t_hourOf 30 t_hourOf, ar E a_t_placeOf 30 t_placeOf]) (ads := []) (r := (mX9_isPlace p1)) (As := [.int p1]) (rest := []) (kX9_isPlace l E rfl) ⟨hx, hb, hml, hown, hts⟩ ⟨va_cnB 1 hts gX0_add_X9_isPlace_n25 rfl rfl rfl (nwm_27 hE.2.1) w0 (by decide +kernel) ⟨by decide, by decide⟩, w1, trivial⟩ hE hP hD hS hA [] (by decide) rfl rfl rfl rfl  rfl hl.1 rfl (Nat.le_of_ble_eq_true rfl) dX0_add_1 ⟨Nat.zero_le _, Nat.zero_le _⟩ (fun H locs hP hD hS => ?_)
  refine lv_if_eq (tgt := 14) hx hb dX0_add_4 (by decide) (fun c_2 => ?_) (fun c_2 => ?_)
  · have h := (if_pos c_2).symm.trans h
    refine lv_iconst (v := (iI (-1))) hx hb dX0_add_14 (by decide) ?_
    exact hret _ _ ((iI (-1)), t_many, t_hourOf, t_placeOf) _ _ _ (Option.some.inj h) rfl rfl hP hS dX0_add_15
  · have h := (if_neg c_2).symm.trans h
    refine lv_iload_n hx hb dX0_add_7 rfl (lv_at hl 2 rfl) ?_
    refine kciN (l := l) (E := E) (wc := []) (w1 := []) (w' := [oo a_t 0 [.ref a_t_placeOf, .ref a_t_hourOf, .ref a_t_first, .int t_many], ar E a_t_hourOf 30 t_hourOf, ar E a_t_placeOf 30 t_placeOf]) (ads := []) (r := (mX9_isHour p2)) (As := [.int p2]) (rest := []) (kX9_isHour l E rfl) ⟨hx, hb, hml, hown, hts⟩ ⟨va_cnB 1 hts gX0_add_X9_isHour_n29 rfl rfl rfl (nwm_28 hE.2.1) w0 (by decide +kernel) ⟨by decide, by decide⟩, w2, trivial⟩ hE hP hD hS hA [] (by decide) rfl rfl rfl rfl  rfl hl.1 rfl (Nat.le_of_ble_eq_true rfl) dX0_add_8 ⟨Nat.zero_le _, Nat.zero_le _⟩ (fun H locs hP hD hS => ?_)
    refine lv_if_ne (tgt := 16) hx hb dX0_add_11 (by decide) (fun c_4 => ?_) (fun c_4 => ?_)
    · have h := (if_neg c_4).symm.trans h
      refine lv_aload_n hx hb dX0_add_16 rfl (lv_at hl 0 rfl) ?_
      refine va_get (D := kD E) (cl := vwCl) (tys := kT E) (ci := 0) (v := .int t_many) (C := RX0) (T := TX0) (N := 4) hx hb hts iX0 hown hK hP 0 rfl rfl 3 (by decide) w4 (fun _ h9 => h9) rfl dX0_add_17 ?_
      refine lv_bipush (v := (iI 30)) hx hb dX0_add_20 (by decide) ?_
      refine lv_icmp_lt (tgt := 28) hx hb dX0_add_22 (by decide) (fun c_5 => ?_) (fun c_5 => ?_)
      · have h := (if_pos c_5).symm.trans h
        refine lv_aload_n hx hb dX0_add_28 rfl (lv_at hl 0 rfl) ?_
        refine va_get (D := kD E) (cl := vwCl) (tys := kT E) (ci := 0) (v := .ref a_t_placeOf) (C := RX0) (T := TX0) (N := 4) hx hb hts iX0 hown hK hP 0 rfl rfl 0 (by decide) w5 (fun _ h9 => h9) rfl dX0_add_29 ?_
        refine lv_aload_n hx hb dX0_add_32 rfl (lv_at hl 0 rfl) ?_
        refine va_get (D := kD E) (cl := vwCl) (tys := kT E) (ci := 0) (v := .int t_many) (C := RX0) (T := TX0) (N := 4) hx hb hts iX0 hown hK hP 0 rfl rfl 3 (by decide) w4 (fun _ h9 => h9) rfl dX0_add_33 ?_
        refine lv_iload_n hx hb dX0_add_36 rfl (lv_at hl 1 rfl) ?_
        refine kcvN (l := l) (E := E) (wc := [ar E a_t_placeOf 30 t_placeOf]) (w1 := [ar E a_t_placeOf 30 (mX9_put 30 t_many p1 t_placeOf)]) (w' := [oo a_t 0 [.ref a_t_placeOf, .ref a_t_hourOf, .ref a_t_first, .int t_many], ar E a_t_hourOf 30 t_hourOf, ar E a_t_placeOf 30 (mX9_put 30 t_many p1 t_placeOf)]) (ads := [a_t_placeOf]) (As := [.ref a_t_placeOf, .int t_many, .int p1]) (rest := []) (kX9_put l E (hn_q0 := (Nat.le_of_ble_eq_true rfl)) rfl) ⟨hx, hb, hml, hown, hts⟩ ⟨va_cnB 3 hts gX0_add_X9_put_n32 rfl rfl rfl (nwm_29 hE.2.1) w0 (by decide +kernel) ⟨by decide, by decide⟩, w6, trivial⟩ hE hP hD hS hA [2] (by decide) rfl rfl rfl rfl  rfl hl.1 rfl (Nat.le_of_ble_eq_true rfl) dX0_add_37 ⟨Nat.zero_le _, Nat.zero_le _⟩ (fun H locs hP hD hS => ?_)
        refine lv_aload_n hx hb dX0_add_40 rfl (lv_at hl 0 rfl) ?_
        refine va_get (D := kD E) (cl := vwCl) (tys := kT E) (ci := 0) (v := .ref a_t_hourOf) (C := RX0) (T := TX0) (N := 4) hx hb hts iX0 hown hK hP 0 rfl rfl 1 (by decide) w7 (fun _ h9 => h9) rfl dX0_add_41 ?_
        refine lv_aload_n hx hb dX0_add_44 rfl (lv_at hl 0 rfl) ?_
        refine va_get (D := kD E) (cl := vwCl) (tys := kT E) (ci := 0) (v := .int t_many) (C := RX0) (T := TX0) (N := 4) hx hb hts iX0 hown hK hP 0 rfl rfl 3 (by decide) w4 (fun _ h9 => h9) rfl dX0_add_45 ?_
        refine lv_iload_n hx hb dX0_add_48 rfl (lv_at hl 2 rfl) ?_
        refine kcvN (l := l) (E := E) (wc := [ar E a_t_hourOf 30 t_hourOf]) (w1 := [ar E a_t_hourOf 30 (mX9_put 30 t_many p2 t_hourOf)]) (w' := [oo a_t 0 [.ref a_t_placeOf, .ref a_t_hourOf, .ref a_t_first, .int t_many], ar E a_t_hourOf 30 (mX9_put 30 t_many p2 t_hourOf), ar E a_t_placeOf 30 (mX9_put 30 t_many p1 t_placeOf)]) (ads := [a_t_hourOf]) (As := [.ref a_t_hourOf, .int t_many, .int p2]) (rest := []) (kX9_put l E (hn_q0 := (Nat.le_of_ble_eq_true rfl)) rfl) ⟨hx, hb, hml, hown, hts⟩ ⟨va_cnB 3 hts gX0_add_X9_put_n32 rfl rfl rfl (nwm_29 hE.2.1) w0 (by decide +kernel) ⟨by decide, by decide⟩, w6, trivial⟩ hE hP hD hS hA [1] (by decide) rfl rfl rfl rfl  rfl hl.1 rfl (Nat.le_of_ble_eq_true rfl) dX0_add_49 ⟨Nat.zero_le _, Nat.zero_le _⟩ (fun H locs hP hD hS => ?_)
        refine lv_aload_n hx hb dX0_add_52 rfl (lv_at hl 0 rfl) ?_
        refine lv_dup hx hb dX0_add_53 rfl ?_
        refine va_get (D := kD E) (cl := vwCl) (tys := kT E) (ci := 0) (v := .int t_many) (C := RX0) (T := TX0) (N := 4) hx hb hts iX0 hown hK hP 0 rfl rfl 3 (by decide) w4 (fun _ h9 => h9) rfl dX0_add_54 ?_
        refine lv_iconst (v := (iI 1)) hx hb dX0_add_57 (by decide) ?_
        refine lv_iadd hx hb dX0_add_58 ?_
        refine kput (w' := [oo a_t 0 [.ref a_t_placeOf, .ref a_t_hourOf, .ref a_t_first, .int (t_many + (iI 1))], ar E a_t_hourOf 30 (mX9_put 30 t_many p2 t_hourOf), ar E a_t_placeOf 30 (mX9_put 30 t_many p1 t_placeOf)]) (E := E) (ci := 0) (v := .int (t_many + (iI 1))) (ty := .int) (C := RX0) (T := TX0) (N := 4) hx hb hts iX0 tyX0 tyX0_ok nmX0 hown hK hP hD hS 0 rfl rfl 3 (by decide) w4 (fun _ h9 => h9) rfl (tyX0_ok 3 (by decide)) rfl rfl (Nat.le_of_ble_eq_true rfl) rfl dX0_add_59 (fun H locs hP hD hS => ?_)
        refine lv_aload_n hx hb dX0_add_62 rfl (lv_at hl 0 rfl) ?_
        refine va_get (D := kD E) (cl := vwCl) (tys := kT E) (ci := 0) (v := .int (t_many + (iI 1))) (C := RX0) (T := TX0) (N := 4) hx hb hts iX0 hown hK hP 0 rfl rfl 3 (by decide) w4 (fun _ h9 => h9) rfl dX0_add_63 ?_
        refine lv_iconst (v := (iI 1)) hx hb dX0_add_66 (by decide) ?_
        refine lv_isub hx hb dX0_add_67 ?_
        exact hret _ _ (((t_many + (iI 1)) - (iI 1)), (t_many + (iI 1)), (mX9_put 30 t_many p2 t_hourOf), (mX9_put 30 t_many p1 t_placeOf)) _ _ _ (Option.some.inj h) rfl rfl hP hS dX0_add_68
      · have h := (if_neg c_5).symm.trans h
        refine lv_bipush (v := (iI (-5))) hx hb dX0_add_25 (by decide) ?_
        exact hret _ _ ((iI (-5)), t_many, t_hourOf, t_placeOf) _ _ _ (Option.some.inj h) rfl rfl hP hS dX0_add_27
    · have h := (if_pos c_4).symm.trans h
      refine lv_iconst (v := (iI (-1))) hx hb dX0_add_14 (by decide) ?_
      exact hret _ _ ((iI (-1)), t_many, t_hourOf, t_placeOf) _ _ _ (Option.some.inj h) rfl rfl hP hS dX0_add_15
abbrev rmX0_isThere : Room := { frames := 0, cells := 0, slots := 0, locals := 0 }
set_option maxHeartbeats 4000000 in
set_option maxRecDepth 100000 in
theorem kX0_isThere (l : Launch) (E : KE) {a_t : Nat} {a_t_placeOf : Nat} {a_t_hourOf : Nat} {a_t_first : Nat} {p1 : Int32} {t_many : Int32} {out : Int32} (h : mX0_isThere p1 t_many = out) : KI l E yX0_isThere wsX0_isThere rmX0_isThere [.ref a_t, .int p1] [oo a_t 0 [.ref a_t_placeOf, .ref a_t_hourOf, .ref a_t_first, .int t_many]] [oo a_t 0 [.ref a_t_placeOf, .ref a_t_hourOf, .ref a_t_first, .int t_many]] out := by
  refine kmetI (T := Int32) (out := out) (wf := (fun (o : Int32) => [oo a_t 0 [.ref a_t_placeOf, .ref a_t_hourOf, .ref a_t_first, .int t_many]])) (rf := (fun (o : Int32) => o)) (cc := cX0_isThere) (maxL := 2) (ty := .boolean) (by decide) rfl (Nat.le_of_ble_eq_true rfl) ?_
  intro p e s m args below meth c A Q ls hx hb hml hts hown hE hP hD hS hA hl hret
  have hown : s.vm.findClass RX0 = some m.cls := hown
  have hK := hE.1
  have hl : lv_has ls 2 [(0, .ref a_t), (1, .int p1)] := hl
  have hP : va_P (kD E) vwCl [oo a_t 0 [.ref a_t_placeOf, .ref a_t_hourOf, .ref a_t_first, .int t_many]] s.heap := hP
  have hD : va_D A [oo a_t 0 [.ref a_t_placeOf, .ref a_t_hourOf, .ref a_t_first, .int t_many]] := hD
  have iX0 : ∀ w ∈ wsX00, w ∈ wsX0_isThere := by decide +kernel
  have w1 := hts (.fieldLink RX0 21 "GaugeWeekend$Cars" "many" "I") (by decide +kernel)
  rw [mX0_isThere] at h
  refine lv_iload_n hx hb dX0_isThere_0 rfl (lv_at hl 1 rfl) ?_
  refine lv_if_lt (tgt := 16) hx hb dX0_isThere_1 (by decide) (fun c_1 => ?_) (fun c_1 => ?_)
  · have h := (if_pos c_1).symm.trans h
    refine lv_iconst (v := (iI 0)) hx hb dX0_isThere_16 (by decide) ?_
    exact hret _ _ (iI 0) _ _ _ h rfl rfl hP hS dX0_isThere_17
  · have h := (if_neg c_1).symm.trans h
    refine lv_iload_n hx hb dX0_isThere_4 rfl (lv_at hl 1 rfl) ?_
    refine lv_aload_n hx hb dX0_isThere_5 rfl (lv_at hl 0 rfl) ?_
    refine va_get (D := kD E) (cl := vwCl) (tys := kT E) (ci := 0) (v := .int t_many) (C := RX0) (T := TX0) (N := 4) hx hb hts iX0 hown hK hP 0 rfl rfl 3 (by decide) w1 (fun _ h9 => h9) rfl dX0_isThere_6 ?_
    refine lv_icmp_ge (tgt := 16) hx hb dX0_isThere_9 (by decide) (fun c_2 => ?_) (fun c_2 => ?_)
    · have h := (if_pos c_2).symm.trans h
      refine lv_iconst (v := (iI 0)) hx hb dX0_isThere_16 (by decide) ?_
      exact hret _ _ (iI 0) _ _ _ h rfl rfl hP hS dX0_isThere_17
    · have h := (if_neg c_2).symm.trans h
      refine lv_iconst (v := (iI 1)) hx hb dX0_isThere_12 (by decide) ?_
      refine lv_goto (tgt := 17) hx hb dX0_isThere_13 (by decide) ?_
      exact hret _ _ (iI 1) _ _ _ h rfl rfl hP hS dX0_isThere_17
abbrev rmJ7_fill_53178 : Room := { frames := 0, cells := 0, slots := 0, locals := 0 }
set_option maxHeartbeats 4000000 in
set_option maxRecDepth 100000 in
theorem kJ7_fill_53178 (l : Launch) (E : KE) {a_q0 : Nat} {n_q0 : Nat} {p1 : Int32} (hn_q0 : n_q0 < 2 ^ 31) {q0 : Nat → Int32} {out : (Nat → Int32)} (h : mJ7_fill_53178 n_q0 p1 q0 = some out) : KV l E yJ7_fill_53178 wsJ7_fill_53178 rmJ7_fill_53178 [.ref a_q0, .int p1] [ar E a_q0 n_q0 q0] [ar E a_q0 n_q0 out] := by
  refine kmetV (T := (Nat → Int32)) (out := out) (wf := (fun (o : (Nat → Int32)) => [ar E a_q0 n_q0 o])) (cc := cJ7_fill_53178) (maxL := 4) (by decide) rfl (Nat.le_of_ble_eq_true rfl) ?_
  intro p e s m args below meth c A Q ls hx hb hml hts hown hE hP hD hS hA hl hret
  have hown : s.vm.findClass RJ7 = some m.cls := hown
  have hK := hE.1
  have hl : lv_has ls 4 [(0, .ref a_q0), (1, .int p1)] := hl
  have hP : va_P (kD E) vwCl [ar E a_q0 n_q0 q0] s.heap := hP
  have hD : va_D A [ar E a_q0 n_q0 q0] := hD
  have L5 : ∀ (v3 : Int32) (n : Nat) (v2 : Int32) (q0 : Nat → Int32) (H : Heap) (locs : List Loc) (ls : Array Slot) (h : mJ7_fill_53178_L5 n_q0 p1 v3 n v2 q0 = some out) (hP : va_P (kD E) vwCl [ar E a_q0 n_q0 q0] H) (hD : va_D A [ar E a_q0 n_q0 q0]) (hS : va_S A s.heap H locs) (hl : lv_has ls 4 [(0, .ref a_q0), (1, .int p1), (2, .int v2), (3, .int v3)]), W p l e rmJ7_fill_53178 s m args below meth c H locs 0 0 Q (F0 m 5 ls []) := by
    intro v3 n
    induction n with
    | zero =>
      intro v2 q0 H locs ls h
      rw [mJ7_fill_53178_L5] at h
      cases h
    | succ n ih =>
      intro v2 q0 H locs ls h hP hD hS hl
      rw [mJ7_fill_53178_L5] at h
      refine lv_iload_n hx hb dJ7_fill_53178_5 rfl (lv_at hl 2 rfl) ?_
      refine lv_iload_n hx hb dJ7_fill_53178_6 rfl (lv_at hl 3 rfl) ?_
      refine lv_icmp_ge (tgt := 20) hx hb dJ7_fill_53178_7 (by decide) (fun c_1 => ?_) (fun c_1 => ?_)
      · have h := (if_pos c_1).symm.trans h
        exact hret _ q0 _ _ _ (Option.some.inj h) hP hS dJ7_fill_53178_20
      · have h := (if_neg c_1).symm.trans h
        refine lv_aload_n hx hb dJ7_fill_53178_10 rfl (lv_at hl 0 rfl) ?_
        refine lv_iload_n hx hb dJ7_fill_53178_11 rfl (lv_at hl 2 rfl) ?_
        refine lv_iload_n hx hb dJ7_fill_53178_12 rfl (lv_at hl 1 rfl) ?_
        by_cases c_2 : v2 < 0 ∨ n_q0 ≤ Int32.toNatClampNeg v2
        · exact (knone ((if_pos c_2).symm.trans h)).elim
        have h := (if_neg c_2).symm.trans h
        refine kiast (w' := [ar E a_q0 n_q0 (upd q0 (Int32.toNatClampNeg v2) p1)]) (E := E) hx hb hK hP hD hS 0 rfl c_2 rfl dJ7_fill_53178_13 (fun H locs hP hD hS => ?_)
        refine lv_iinc (v := (v2 + (iI 1))) (lv' := [(2, .int (v2 + (iI 1))), (0, .ref a_q0), (1, .int p1), (3, .int v3)]) hx hb dJ7_fill_53178_14 hl (k := 2) rfl (kinc _ (by decide)) (by decide) rfl (fun ls hl => ?_)
        refine lv_goto (tgt := 5) hx hb dJ7_fill_53178_17 (by decide) ?_
        exact ih (v2 + (iI 1)) (upd q0 (Int32.toNatClampNeg v2) p1) _ _ _ h hP hD hS (lv_sub hl [1, 2, 0, 3] rfl)
  rw [mJ7_fill_53178] at h
  refine lv_iconst (v := (iI 0)) hx hb dJ7_fill_53178_0 (by decide) ?_
  refine lv_istore_n (lv' := [(2, .int (iI 0)), (0, .ref a_q0), (1, .int p1)]) hx hb dJ7_fill_53178_1 rfl hl (by decide) rfl (fun ls hl => ?_)
  refine lv_aload_n hx hb dJ7_fill_53178_2 rfl (lv_at hl 1 rfl) ?_
  refine va_alen (D := kD E) (cl := vwCl) (tys := kT E) (v := (Int32.ofNat n_q0)) hx hb hK hP 0 0 rfl rfl rfl dJ7_fill_53178_3 ?_
  refine lv_istore_n (lv' := [(3, .int (Int32.ofNat n_q0)), (2, .int (iI 0)), (0, .ref a_q0), (1, .int p1)]) hx hb dJ7_fill_53178_4 rfl hl (by decide) rfl (fun ls hl => ?_)
  exact L5 (Int32.ofNat n_q0) _ (iI 0) q0 _ _ _ h hP hD hS (lv_sub hl [2, 3, 1, 0] rfl)
abbrev rmX9_at : Room := { frames := 0, cells := 0, slots := 0, locals := 0 }
set_option maxHeartbeats 4000000 in
set_option maxRecDepth 100000 in
theorem kX9_at (l : Launch) (E : KE) {a_q0 : Nat} {n_q0 : Nat} {p1 : Int32} (hn_q0 : n_q0 < 2 ^ 31) {q0 : Nat → Int32} {out : Int32} (h : mX9_at n_q0 p1 q0 = out) : KI l E yX9_at wsX9_at rmX9_at [.ref a_q0, .int p1] [ar E a_q0 n_q0 q0] [ar E a_q0 n_q0 q0] out := by
  refine kmetI (T := Int32) (out := out) (wf := (fun (o : Int32) => [ar E a_q0 n_q0 q0])) (rf := (fun (o : Int32) => o)) (cc := cX9_at) (maxL := 2) (ty := .int) (by decide) rfl (Nat.le_of_ble_eq_true rfl) ?_
  intro p e s m args below meth c A Q ls hx hb hml hts hown hE hP hD hS hA hl hret
  have hown : s.vm.findClass RX9 = some m.cls := hown
  have hK := hE.1
  have hl : lv_has ls 2 [(0, .ref a_q0), (1, .int p1)] := hl
  have hP : va_P (kD E) vwCl [ar E a_q0 n_q0 q0] s.heap := hP
  have hD : va_D A [ar E a_q0 n_q0 q0] := hD
  rw [mX9_at] at h
  refine lv_aload_n hx hb dX9_at_0 rfl (lv_at hl 0 rfl) ?_
  refine lv_ifnull hx hb dX9_at_1 ?_
  refine lv_iload_n hx hb dX9_at_4 rfl (lv_at hl 1 rfl) ?_
  refine lv_if_lt (tgt := 20) hx hb dX9_at_5 (by decide) (fun c_1 => ?_) (fun c_1 => ?_)
  · have h := (if_pos c_1).symm.trans h
    refine lv_iconst (v := (iI (-1))) hx hb dX9_at_20 (by decide) ?_
    exact hret _ _ (iI (-1)) _ _ _ h rfl rfl hP hS dX9_at_21
  · have h := (if_neg c_1).symm.trans h
    refine lv_iload_n hx hb dX9_at_8 rfl (lv_at hl 1 rfl) ?_
    refine lv_aload_n hx hb dX9_at_9 rfl (lv_at hl 0 rfl) ?_
    refine va_alen (D := kD E) (cl := vwCl) (tys := kT E) (v := (Int32.ofNat n_q0)) hx hb hK hP 0 0 rfl rfl rfl dX9_at_10 ?_
    refine lv_icmp_ge (tgt := 20) hx hb dX9_at_11 (by decide) (fun c_2 => ?_) (fun c_2 => ?_)
    · have h := (if_pos c_2).symm.trans h
      refine lv_iconst (v := (iI (-1))) hx hb dX9_at_20 (by decide) ?_
      exact hret _ _ (iI (-1)) _ _ _ h rfl rfl hP hS dX9_at_21
    · have h := (if_neg c_2).symm.trans h
      refine lv_aload_n hx hb dX9_at_14 rfl (lv_at hl 0 rfl) ?_
      refine lv_iload_n hx hb dX9_at_15 rfl (lv_at hl 1 rfl) ?_
      refine va_iald (D := kD E) (cl := vwCl) (tys := kT E) hx hb hK hP 0 0 (f := q0) rfl rfl (kguard c_1 c_2 hn_q0) dX9_at_16 ?_
      refine lv_goto (tgt := 21) hx hb dX9_at_17 (by decide) ?_
      exact hret _ _ (q0 (Int32.toNatClampNeg p1)) _ _ _ h rfl rfl hP hS dX9_at_21
abbrev rmX1_oneEndOf : Room := { frames := 1, cells := 0, slots := 0, locals := 21 }
set_option maxHeartbeats 4000000 in
set_option maxRecDepth 100000 in
theorem kX1_oneEndOf (l : Launch) (E : KE) {a_t : Nat} {a_t_oneEnd : Nat} {a_t_otherEnd : Nat} {a_t_miles : Nat} {a_t_hours : Nat} {a_t_spikesSet : Nat} {p1 : Int32} {t_many : Int32} {t_rateOfSet : Int32} {t_rateOfOthers : Int32} {t_oneEnd : Nat → Int32} {out : Int32} (h : mX1_oneEndOf p1 t_oneEnd = out) : KI l E yX1_oneEndOf wsX1_oneEndOf rmX1_oneEndOf [.ref a_t, .int p1] [oo a_t 1 [.ref a_t_oneEnd, .ref a_t_otherEnd, .ref a_t_miles, .ref a_t_hours, .ref a_t_spikesSet, .int t_many, .int t_rateOfSet, .int t_rateOfOthers], ar E a_t_oneEnd 30 t_oneEnd] [oo a_t 1 [.ref a_t_oneEnd, .ref a_t_otherEnd, .ref a_t_miles, .ref a_t_hours, .ref a_t_spikesSet, .int t_many, .int t_rateOfSet, .int t_rateOfOthers], ar E a_t_oneEnd 30 t_oneEnd] out := by
  refine kmetI (T := Int32) (out := out) (wf := (fun (o : Int32) => [oo a_t 1 [.ref a_t_oneEnd, .ref a_t_otherEnd, .ref a_t_miles, .ref a_t_hours, .ref a_t_spikesSet, .int t_many, .int t_rateOfSet, .int t_rateOfOthers], ar E a_t_oneEnd 30 t_oneEnd])) (rf := (fun (o : Int32) => o)) (cc := cX1_oneEndOf) (maxL := 2) (ty := .int) (by decide) rfl (Nat.le_of_ble_eq_true rfl) ?_
  intro p e s m args below meth c A Q ls hx hb hml hts hown hE hP hD hS hA hl hret
  have hown : s.vm.findClass RX1 = some m.cls := hown
  have hK := hE.1
  have hl : lv_has ls 2 [(0, .ref a_t), (1, .int p1)] := hl
  have hP : va_P (kD E) vwCl [oo a_t 1 [.ref a_t_oneEnd, .ref a_t_otherEnd, .ref a_t_miles, .ref a_t_hours, .ref a_t_spikesSet, .int t_many, .int t_rateOfSet, .int t_rateOfOthers], ar E a_t_oneEnd 30 t_oneEnd] s.heap := hP
  have hD : va_D A [oo a_t 1 [.ref a_t_oneEnd, .ref a_t_otherEnd, .ref a_t_miles, .ref a_t_hours, .ref a_t_spikesSet, .int t_many, .int t_rateOfSet, .int t_rateOfOthers], ar E a_t_oneEnd 30 t_oneEnd] := hD
  have iX1 : ∀ w ∈ wsX10, w ∈ wsX1_oneEndOf := by decide +kernel
  have w1 := hts (.fieldLink RX1 9 "GaugeWeekend$Lines" "oneEnd" "[I") (by decide +kernel)
  have w2 := hts (.initialized RX9) (by decide +kernel)
  have w3 := hts (.static yX9_at) (by decide +kernel)
  rw [mX1_oneEndOf] at h
  refine lv_aload_n hx hb dX1_oneEndOf_0 rfl (lv_at hl 0 rfl) ?_
  refine va_get (D := kD E) (cl := vwCl) (tys := kT E) (ci := 1) (v := .ref a_t_oneEnd) (C := RX1) (T := TX1) (N := 8) hx hb hts iX1 hown hK hP 0 rfl rfl 0 (by decide) w1 (fun _ h9 => h9) rfl dX1_oneEndOf_1 ?_
  refine lv_iload_n hx hb dX1_oneEndOf_4 rfl (lv_at hl 1 rfl) ?_
  refine kciN (l := l) (E := E) (wc := [ar E a_t_oneEnd 30 t_oneEnd]) (w1 := [ar E a_t_oneEnd 30 t_oneEnd]) (w' := [oo a_t 1 [.ref a_t_oneEnd, .ref a_t_otherEnd, .ref a_t_miles, .ref a_t_hours, .ref a_t_spikesSet, .int t_many, .int t_rateOfSet, .int t_rateOfOthers], ar E a_t_oneEnd 30 t_oneEnd]) (ads := [a_t_oneEnd]) (r := (mX9_at 30 p1 t_oneEnd)) (As := [.ref a_t_oneEnd, .int p1]) (rest := []) (kX9_at l E (hn_q0 := (Nat.le_of_ble_eq_true rfl)) rfl) ⟨hx, hb, hml, hown, hts⟩ ⟨va_cnB 2 hts gX1_oneEndOf_X9_at_n49 rfl rfl rfl (nwm_13 hE.2.1) w2 (by decide +kernel) ⟨by decide, by decide⟩, w3, trivial⟩ hE hP hD hS hA [1] (by decide) rfl rfl rfl rfl  rfl hl.1 rfl (Nat.le_of_ble_eq_true rfl) dX1_oneEndOf_5 ⟨Nat.zero_le _, Nat.zero_le _⟩ (fun H locs hP hD hS => ?_)
  exact hret _ _ (mX9_at 30 p1 t_oneEnd) _ _ _ h rfl rfl hP hS dX1_oneEndOf_8
abbrev rmX1_otherEndOf : Room := { frames := 1, cells := 0, slots := 0, locals := 21 }
set_option maxHeartbeats 4000000 in
set_option maxRecDepth 100000 in
theorem kX1_otherEndOf (l : Launch) (E : KE) {a_t : Nat} {a_t_oneEnd : Nat} {a_t_otherEnd : Nat} {a_t_miles : Nat} {a_t_hours : Nat} {a_t_spikesSet : Nat} {p1 : Int32} {t_many : Int32} {t_rateOfSet : Int32} {t_rateOfOthers : Int32} {t_otherEnd : Nat → Int32} {out : Int32} (h : mX1_otherEndOf p1 t_otherEnd = out) : KI l E yX1_otherEndOf wsX1_otherEndOf rmX1_otherEndOf [.ref a_t, .int p1] [oo a_t 1 [.ref a_t_oneEnd, .ref a_t_otherEnd, .ref a_t_miles, .ref a_t_hours, .ref a_t_spikesSet, .int t_many, .int t_rateOfSet, .int t_rateOfOthers], ar E a_t_otherEnd 30 t_otherEnd] [oo a_t 1 [.ref a_t_oneEnd, .ref a_t_otherEnd, .ref a_t_miles, .ref a_t_hours, .ref a_t_spikesSet, .int t_many, .int t_rateOfSet, .int t_rateOfOthers], ar E a_t_otherEnd 30 t_otherEnd] out := by
  refine kmetI (T := Int32) (out := out) (wf := (fun (o : Int32) => [oo a_t 1 [.ref a_t_oneEnd, .ref a_t_otherEnd, .ref a_t_miles, .ref a_t_hours, .ref a_t_spikesSet, .int t_many, .int t_rateOfSet, .int t_rateOfOthers], ar E a_t_otherEnd 30 t_otherEnd])) (rf := (fun (o : Int32) => o)) (cc := cX1_otherEndOf) (maxL := 2) (ty := .int) (by decide) rfl (Nat.le_of_ble_eq_true rfl) ?_
  intro p e s m args below meth c A Q ls hx hb hml hts hown hE hP hD hS hA hl hret
  have hown : s.vm.findClass RX1 = some m.cls := hown
  have hK := hE.1
  have hl : lv_has ls 2 [(0, .ref a_t), (1, .int p1)] := hl
  have hP : va_P (kD E) vwCl [oo a_t 1 [.ref a_t_oneEnd, .ref a_t_otherEnd, .ref a_t_miles, .ref a_t_hours, .ref a_t_spikesSet, .int t_many, .int t_rateOfSet, .int t_rateOfOthers], ar E a_t_otherEnd 30 t_otherEnd] s.heap := hP
  have hD : va_D A [oo a_t 1 [.ref a_t_oneEnd, .ref a_t_otherEnd, .ref a_t_miles, .ref a_t_hours, .ref a_t_spikesSet, .int t_many, .int t_rateOfSet, .int t_rateOfOthers], ar E a_t_otherEnd 30 t_otherEnd] := hD
  have iX1 : ∀ w ∈ wsX10, w ∈ wsX1_otherEndOf := by decide +kernel
  have w1 := hts (.fieldLink RX1 15 "GaugeWeekend$Lines" "otherEnd" "[I") (by decide +kernel)
  have w2 := hts (.initialized RX9) (by decide +kernel)
  have w3 := hts (.static yX9_at) (by decide +kernel)
  rw [mX1_otherEndOf] at h
  refine lv_aload_n hx hb dX1_otherEndOf_0 rfl (lv_at hl 0 rfl) ?_
  refine va_get (D := kD E) (cl := vwCl) (tys := kT E) (ci := 1) (v := .ref a_t_otherEnd) (C := RX1) (T := TX1) (N := 8) hx hb hts iX1 hown hK hP 0 rfl rfl 1 (by decide) w1 (fun _ h9 => h9) rfl dX1_otherEndOf_1 ?_
  refine lv_iload_n hx hb dX1_otherEndOf_4 rfl (lv_at hl 1 rfl) ?_
  refine kciN (l := l) (E := E) (wc := [ar E a_t_otherEnd 30 t_otherEnd]) (w1 := [ar E a_t_otherEnd 30 t_otherEnd]) (w' := [oo a_t 1 [.ref a_t_oneEnd, .ref a_t_otherEnd, .ref a_t_miles, .ref a_t_hours, .ref a_t_spikesSet, .int t_many, .int t_rateOfSet, .int t_rateOfOthers], ar E a_t_otherEnd 30 t_otherEnd]) (ads := [a_t_otherEnd]) (r := (mX9_at 30 p1 t_otherEnd)) (As := [.ref a_t_otherEnd, .int p1]) (rest := []) (kX9_at l E (hn_q0 := (Nat.le_of_ble_eq_true rfl)) rfl) ⟨hx, hb, hml, hown, hts⟩ ⟨va_cnB 2 hts gX1_otherEndOf_X9_at_n49 rfl rfl rfl (nwm_13 hE.2.1) w2 (by decide +kernel) ⟨by decide, by decide⟩, w3, trivial⟩ hE hP hD hS hA [1] (by decide) rfl rfl rfl rfl  rfl hl.1 rfl (Nat.le_of_ble_eq_true rfl) dX1_otherEndOf_5 ⟨Nat.zero_le _, Nat.zero_le _⟩ (fun H locs hP hD hS => ?_)
  exact hret _ _ (mX9_at 30 p1 t_otherEnd) _ _ _ h rfl rfl hP hS dX1_otherEndOf_8
abbrev rmX0_firstIn : Room := { frames := 1, cells := 0, slots := 0, locals := 21 }
set_option maxHeartbeats 4000000 in
set_option maxRecDepth 100000 in
theorem kX0_firstIn (l : Launch) (E : KE) {a_t : Nat} {a_t_placeOf : Nat} {a_t_hourOf : Nat} {a_t_first : Nat} {p1 : Int32} {t_many : Int32} {t_first : Nat → Int32} {out : Int32} (h : mX0_firstIn p1 t_first = out) : KI l E yX0_firstIn wsX0_firstIn rmX0_firstIn [.ref a_t, .int p1] [oo a_t 0 [.ref a_t_placeOf, .ref a_t_hourOf, .ref a_t_first, .int t_many], ar E a_t_first 16 t_first] [oo a_t 0 [.ref a_t_placeOf, .ref a_t_hourOf, .ref a_t_first, .int t_many], ar E a_t_first 16 t_first] out := by
  refine kmetI (T := Int32) (out := out) (wf := (fun (o : Int32) => [oo a_t 0 [.ref a_t_placeOf, .ref a_t_hourOf, .ref a_t_first, .int t_many], ar E a_t_first 16 t_first])) (rf := (fun (o : Int32) => o)) (cc := cX0_firstIn) (maxL := 2) (ty := .int) (by decide) rfl (Nat.le_of_ble_eq_true rfl) ?_
  intro p e s m args below meth c A Q ls hx hb hml hts hown hE hP hD hS hA hl hret
  have hown : s.vm.findClass RX0 = some m.cls := hown
  have hK := hE.1
  have hl : lv_has ls 2 [(0, .ref a_t), (1, .int p1)] := hl
  have hP : va_P (kD E) vwCl [oo a_t 0 [.ref a_t_placeOf, .ref a_t_hourOf, .ref a_t_first, .int t_many], ar E a_t_first 16 t_first] s.heap := hP
  have hD : va_D A [oo a_t 0 [.ref a_t_placeOf, .ref a_t_hourOf, .ref a_t_first, .int t_many], ar E a_t_first 16 t_first] := hD
  have iX0 : ∀ w ∈ wsX00, w ∈ wsX0_firstIn := by decide +kernel
  have w1 := hts (.fieldLink RX0 18 "GaugeWeekend$Cars" "first" "[I") (by decide +kernel)
  have w2 := hts (.initialized RX9) (by decide +kernel)
  have w3 := hts (.static yX9_at) (by decide +kernel)
  rw [mX0_firstIn] at h
  refine lv_aload_n hx hb dX0_firstIn_0 rfl (lv_at hl 0 rfl) ?_
  refine va_get (D := kD E) (cl := vwCl) (tys := kT E) (ci := 0) (v := .ref a_t_first) (C := RX0) (T := TX0) (N := 4) hx hb hts iX0 hown hK hP 0 rfl rfl 2 (by decide) w1 (fun _ h9 => h9) rfl dX0_firstIn_1 ?_
  refine lv_iload_n hx hb dX0_firstIn_4 rfl (lv_at hl 1 rfl) ?_
  refine kciN (l := l) (E := E) (wc := [ar E a_t_first 16 t_first]) (w1 := [ar E a_t_first 16 t_first]) (w' := [oo a_t 0 [.ref a_t_placeOf, .ref a_t_hourOf, .ref a_t_first, .int t_many], ar E a_t_first 16 t_first]) (ads := [a_t_first]) (r := (mX9_at 16 p1 t_first)) (As := [.ref a_t_first, .int p1]) (rest := []) (kX9_at l E (hn_q0 := (Nat.le_of_ble_eq_true rfl)) rfl) ⟨hx, hb, hml, hown, hts⟩ ⟨va_cnB 2 hts gX0_firstIn_X9_at_n48 rfl rfl rfl (nwm_30 hE.2.1) w2 (by decide +kernel) ⟨by decide, by decide⟩, w3, trivial⟩ hE hP hD hS hA [1] (by decide) rfl rfl rfl rfl  rfl hl.1 rfl (Nat.le_of_ble_eq_true rfl) dX0_firstIn_5 ⟨Nat.zero_le _, Nat.zero_le _⟩ (fun H locs hP hD hS => ?_)
  exact hret _ _ (mX9_at 16 p1 t_first) _ _ _ h rfl rfl hP hS dX0_firstIn_8
abbrev rmX3_arrival : Room := { frames := 1, cells := 0, slots := 0, locals := 21 }
set_option maxHeartbeats 4000000 in
set_option maxRecDepth 100000 in
theorem kX3_arrival (l : Launch) (E : KE) {a_t : Nat} {a_t_lines : Nat} {a_t_plan : Nat} {a_t_draft : Nat} {a_t_lines_oneEnd : Nat} {a_t_lines_otherEnd : Nat} {a_t_lines_miles : Nat} {a_t_lines_hours : Nat} {a_t_lines_spikesSet : Nat} {a_t_plan_lineOf : Nat} {a_t_plan_after : Nat} {a_t_plan_hours : Nat} {a_t_plan_gangs : Nat} {a_t_plan_begins : Nat} {a_t_plan_done : Nat} {p1 : Int32} {p2 : Int32} {p3 : Int32} {t_lines_many : Int32} {t_lines_rateOfSet : Int32} {t_lines_rateOfOthers : Int32} {t_lines_hours : Nat → Int32} {t_plan_many : Int32} {t_plan_begins : Nat → Int32} {t_plan_done : Nat → Int32} {out : Int32} (h : mX3_arrival p1 p2 p3 t_lines_hours t_plan_begins t_plan_done = some out) : KI l E yX3_arrival wsX3_arrival rmX3_arrival [.ref a_t, .int p1, .int p2, .int p3] [oo a_t 3 [.ref a_t_lines, .ref a_t_plan, .ref a_t_draft], oo a_t_lines 1 [.ref a_t_lines_oneEnd, .ref a_t_lines_otherEnd, .ref a_t_lines_miles, .ref a_t_lines_hours, .ref a_t_lines_spikesSet, .int t_lines_many, .int t_lines_rateOfSet, .int t_lines_rateOfOthers], ar E a_t_lines_hours 30 t_lines_hours, oo a_t_plan 2 [.ref a_t_plan_lineOf, .ref a_t_plan_after, .ref a_t_plan_hours, .ref a_t_plan_gangs, .ref a_t_plan_begins, .ref a_t_plan_done, .int t_plan_many], ar E a_t_plan_begins 30 t_plan_begins, ar E a_t_plan_done 30 t_plan_done] [oo a_t 3 [.ref a_t_lines, .ref a_t_plan, .ref a_t_draft], oo a_t_lines 1 [.ref a_t_lines_oneEnd, .ref a_t_lines_otherEnd, .ref a_t_lines_miles, .ref a_t_lines_hours, .ref a_t_lines_spikesSet, .int t_lines_many, .int t_lines_rateOfSet, .int t_lines_rateOfOthers], ar E a_t_lines_hours 30 t_lines_hours, oo a_t_plan 2 [.ref a_t_plan_lineOf, .ref a_t_plan_after, .ref a_t_plan_hours, .ref a_t_plan_gangs, .ref a_t_plan_begins, .ref a_t_plan_done, .int t_plan_many], ar E a_t_plan_begins 30 t_plan_begins, ar E a_t_plan_done 30 t_plan_done] out := by
  refine kmetI (T := Int32) (out := out) (wf := (fun (o : Int32) => [oo a_t 3 [.ref a_t_lines, .ref a_t_plan, .ref a_t_draft], oo a_t_lines 1 [.ref a_t_lines_oneEnd, .ref a_t_lines_otherEnd, .ref a_t_lines_miles, .ref a_t_lines_hours, .ref a_t_lines_spikesSet, .int t_lines_many, .int t_lines_rateOfSet, .int t_lines_rateOfOthers], ar E a_t_lines_hours 30 t_lines_hours, oo a_t_plan 2 [.ref a_t_plan_lineOf, .ref a_t_plan_after, .ref a_t_plan_hours, .ref a_t_plan_gangs, .ref a_t_plan_begins, .ref a_t_plan_done, .int t_plan_many], ar E a_t_plan_begins 30 t_plan_begins, ar E a_t_plan_done 30 t_plan_done])) (rf := (fun (o : Int32) => o)) (cc := cX3_arrival) (maxL := 7) (ty := .int) (by decide) rfl (Nat.le_of_ble_eq_true rfl) ?_
  intro p e s m args below meth c A Q ls hx hb hml hts hown hE hP hD hS hA hl hret
  have hown : s.vm.findClass RX3 = some m.cls := hown
  have hK := hE.1
  have hl : lv_has ls 7 [(0, .ref a_t), (1, .int p1), (2, .int p2), (3, .int p3)] := hl
  have hP : va_P (kD E) vwCl [oo a_t 3 [.ref a_t_lines, .ref a_t_plan, .ref a_t_draft], oo a_t_lines 1 [.ref a_t_lines_oneEnd, .ref a_t_lines_otherEnd, .ref a_t_lines_miles, .ref a_t_lines_hours, .ref a_t_lines_spikesSet, .int t_lines_many, .int t_lines_rateOfSet, .int t_lines_rateOfOthers], ar E a_t_lines_hours 30 t_lines_hours, oo a_t_plan 2 [.ref a_t_plan_lineOf, .ref a_t_plan_after, .ref a_t_plan_hours, .ref a_t_plan_gangs, .ref a_t_plan_begins, .ref a_t_plan_done, .int t_plan_many], ar E a_t_plan_begins 30 t_plan_begins, ar E a_t_plan_done 30 t_plan_done] s.heap := hP
  have hD : va_D A [oo a_t 3 [.ref a_t_lines, .ref a_t_plan, .ref a_t_draft], oo a_t_lines 1 [.ref a_t_lines_oneEnd, .ref a_t_lines_otherEnd, .ref a_t_lines_miles, .ref a_t_lines_hours, .ref a_t_lines_spikesSet, .int t_lines_many, .int t_lines_rateOfSet, .int t_lines_rateOfOthers], ar E a_t_lines_hours 30 t_lines_hours, oo a_t_plan 2 [.ref a_t_plan_lineOf, .ref a_t_plan_after, .ref a_t_plan_hours, .ref a_t_plan_gangs, .ref a_t_plan_begins, .ref a_t_plan_done, .int t_plan_many], ar E a_t_plan_begins 30 t_plan_begins, ar E a_t_plan_done 30 t_plan_done] := hD
  have iX3 : ∀ w ∈ wsX30, w ∈ wsX3_arrival := by decide +kernel
  have w1 := hts (.fieldLink RX3 12 "GaugeWeekend$Railway" "lines" "LGaugeWeekend$Lines;") (by decide +kernel)
  have iX1 : ∀ w ∈ wsX10, w ∈ wsX3_arrival := by decide +kernel
  have w3 := hts (.initialized RX9) (by decide +kernel)
  have w4 := hts (.static yX9_at) (by decide +kernel)
  have w5 := hts (.fieldLink RX3 21 "GaugeWeekend$Railway" "plan" "LGaugeWeekend$Plan;") (by decide +kernel)
  have iX2 : ∀ w ∈ wsX20, w ∈ wsX3_arrival := by decide +kernel
  have w7 := hts (.methodLink RX3 55 Lib.Math.min.name) (by decide +kernel)
  have w8 := hts (.static Lib.Math.min.name) (by decide +kernel)
  have w9 := hts (.initialized "java/lang/Math") (by decide +kernel)
  have w10 := hts (.code Lib.Math.min.name Lib.Math.min.code 2 (some .int)) (by decide +kernel)
  have w11 := hts (.constant RX3 58 1000000) (by decide +kernel)
  have w12 := hts (.methodLink RX3 44 Lib.Math.max.name) (by decide +kernel)
  have w13 := hts (.static Lib.Math.max.name) (by decide +kernel)
  have w14 := hts (.code Lib.Math.max.name Lib.Math.max.code 2 (some .int)) (by decide +kernel)
  have J23 : ∀ (s0 : Int32) (H : Heap) (locs : List Loc) (ls : Array Slot) (h : mX3_arrival_J23 p1 p2 t_lines_hours t_plan_begins s0 = some out) (hP : va_P (kD E) vwCl [oo a_t 3 [.ref a_t_lines, .ref a_t_plan, .ref a_t_draft], oo a_t_lines 1 [.ref a_t_lines_oneEnd, .ref a_t_lines_otherEnd, .ref a_t_lines_miles, .ref a_t_lines_hours, .ref a_t_lines_spikesSet, .int t_lines_many, .int t_lines_rateOfSet, .int t_lines_rateOfOthers], ar E a_t_lines_hours 30 t_lines_hours, oo a_t_plan 2 [.ref a_t_plan_lineOf, .ref a_t_plan_after, .ref a_t_plan_hours, .ref a_t_plan_gangs, .ref a_t_plan_begins, .ref a_t_plan_done, .int t_plan_many], ar E a_t_plan_begins 30 t_plan_begins, ar E a_t_plan_done 30 t_plan_done] H) (hD : va_D A [oo a_t 3 [.ref a_t_lines, .ref a_t_plan, .ref a_t_draft], oo a_t_lines 1 [.ref a_t_lines_oneEnd, .ref a_t_lines_otherEnd, .ref a_t_lines_miles, .ref a_t_lines_hours, .ref a_t_lines_spikesSet, .int t_lines_many, .int t_lines_rateOfSet, .int t_lines_rateOfOthers], ar E a_t_lines_hours 30 t_lines_hours, oo a_t_plan 2 [.ref a_t_plan_lineOf, .ref a_t_plan_after, .ref a_t_plan_hours, .ref a_t_plan_gangs, .ref a_t_plan_begins, .ref a_t_plan_done, .int t_plan_many], ar E a_t_plan_begins 30 t_plan_begins, ar E a_t_plan_done 30 t_plan_done]) (hS : va_S A s.heap H locs) (hl : lv_has ls 7 [(0, .ref a_t), (1, .int p1), (2, .int p2)]), W p l e rmX3_arrival s m args below meth c H locs 0 0 Q (F0 m 23 ls [.int s0]) := by
    intro s0 H locs ls h hP hD hS hl
    rw [mX3_arrival_J23] at h
    refine lv_istore (lv' := [(4, .int s0), (0, .ref a_t), (1, .int p1), (2, .int p2)]) hx hb dX3_arrival_23 hl (by decide) rfl (fun ls hl => ?_)
    refine lv_iload hx hb dX3_arrival_25 (lv_at hl 0 rfl) ?_
    refine lv_aload_n hx hb dX3_arrival_27 rfl (lv_at hl 1 rfl) ?_
    refine va_get (D := kD E) (cl := vwCl) (tys := kT E) (ci := 3) (v := .ref a_t_lines) (C := RX3) (T := TX3) (N := 3) hx hb hts iX3 hown hK hP 0 rfl rfl 0 (by decide) w1 (fun _ h9 => h9) rfl dX3_arrival_28 ?_
    refine va_getN (D := kD E) (cl := vwCl) (tys := kT E) (ci := 1) (v := .ref a_t_lines_hours) (C := RX1) (T := TX1) (N := 8) hx hb hts iX1 hown hK hP 1 rfl rfl 3 (by decide) (nwf_0 hE.2.1) (fun _ h9 => h9) rfl dX3_arrival_31 ?_
    refine lv_iload_n hx hb dX3_arrival_34 rfl (lv_at hl 2 rfl) ?_
    refine kciN (l := l) (E := E) (wc := [ar E a_t_lines_hours 30 t_lines_hours]) (w1 := [ar E a_t_lines_hours 30 t_lines_hours]) (w' := [oo a_t 3 [.ref a_t_lines, .ref a_t_plan, .ref a_t_draft], oo a_t_lines 1 [.ref a_t_lines_oneEnd, .ref a_t_lines_otherEnd, .ref a_t_lines_miles, .ref a_t_lines_hours, .ref a_t_lines_spikesSet, .int t_lines_many, .int t_lines_rateOfSet, .int t_lines_rateOfOthers], ar E a_t_lines_hours 30 t_lines_hours, oo a_t_plan 2 [.ref a_t_plan_lineOf, .ref a_t_plan_after, .ref a_t_plan_hours, .ref a_t_plan_gangs, .ref a_t_plan_begins, .ref a_t_plan_done, .int t_plan_many], ar E a_t_plan_begins 30 t_plan_begins, ar E a_t_plan_done 30 t_plan_done]) (ads := [a_t_lines_hours]) (r := (mX9_at 30 p1 t_lines_hours)) (As := [.ref a_t_lines_hours, .int p1]) (rest := [.int s0]) (kX9_at l E (hn_q0 := (Nat.le_of_ble_eq_true rfl)) rfl) ⟨hx, hb, hml, hown, hts⟩ ⟨va_cnB 2 hts gX3_arrival_X9_at_n40 rfl rfl rfl (nwm_22 hE.2.1) w3 (by decide +kernel) ⟨by decide, by decide⟩, w4, trivial⟩ hE hP hD hS hA [2] (by decide) rfl rfl rfl rfl  rfl hl.1 rfl (Nat.le_of_ble_eq_true rfl) dX3_arrival_35 ⟨Nat.zero_le _, Nat.zero_le _⟩ (fun H locs hP hD hS => ?_)
    refine lv_iadd hx hb dX3_arrival_38 ?_
    refine lv_istore (lv' := [(5, .int (s0 + (mX9_at 30 p1 t_lines_hours))), (4, .int s0), (0, .ref a_t), (1, .int p1), (2, .int p2)]) hx hb dX3_arrival_39 hl (by decide) rfl (fun ls hl => ?_)
    refine lv_iload_n hx hb dX3_arrival_41 rfl (lv_at hl 4 rfl) ?_
    refine lv_if_eq (tgt := 50) hx hb dX3_arrival_42 (by decide) (fun c_3 => ?_) (fun c_3 => ?_)
    · have h := (if_pos c_3).symm.trans h
      refine lv_bipush (v := (iI 120)) hx hb dX3_arrival_50 (by decide) ?_
      refine lv_aload_n hx hb dX3_arrival_52 rfl (lv_at hl 2 rfl) ?_
      refine va_get (D := kD E) (cl := vwCl) (tys := kT E) (ci := 3) (v := .ref a_t_plan) (C := RX3) (T := TX3) (N := 3) hx hb hts iX3 hown hK hP 0 rfl rfl 1 (by decide) w5 (fun _ h9 => h9) rfl dX3_arrival_53 ?_
      refine va_getN (D := kD E) (cl := vwCl) (tys := kT E) (ci := 2) (v := .ref a_t_plan_begins) (C := RX2) (T := TX2) (N := 7) hx hb hts iX2 hown hK hP 3 rfl rfl 4 (by decide) (nwf_4 hE.2.1) (fun _ h9 => h9) rfl dX3_arrival_56 ?_
      refine lv_iload_n hx hb dX3_arrival_59 rfl (lv_at hl 3 rfl) ?_
      refine kciN (l := l) (E := E) (wc := [ar E a_t_plan_begins 30 t_plan_begins]) (w1 := [ar E a_t_plan_begins 30 t_plan_begins]) (w' := [oo a_t 3 [.ref a_t_lines, .ref a_t_plan, .ref a_t_draft], oo a_t_lines 1 [.ref a_t_lines_oneEnd, .ref a_t_lines_otherEnd, .ref a_t_lines_miles, .ref a_t_lines_hours, .ref a_t_lines_spikesSet, .int t_lines_many, .int t_lines_rateOfSet, .int t_lines_rateOfOthers], ar E a_t_lines_hours 30 t_lines_hours, oo a_t_plan 2 [.ref a_t_plan_lineOf, .ref a_t_plan_after, .ref a_t_plan_hours, .ref a_t_plan_gangs, .ref a_t_plan_begins, .ref a_t_plan_done, .int t_plan_many], ar E a_t_plan_begins 30 t_plan_begins, ar E a_t_plan_done 30 t_plan_done]) (ads := [a_t_plan_begins]) (r := (mX9_at 30 p1 t_plan_begins)) (As := [.ref a_t_plan_begins, .int p1]) (rest := [.int (iI 120)]) (kX9_at l E (hn_q0 := (Nat.le_of_ble_eq_true rfl)) rfl) ⟨hx, hb, hml, hown, hts⟩ ⟨va_cnB 2 hts gX3_arrival_X9_at_n40 rfl rfl rfl (nwm_22 hE.2.1) w3 (by decide +kernel) ⟨by decide, by decide⟩, w4, trivial⟩ hE hP hD hS hA [4] (by decide) rfl rfl rfl rfl  rfl hl.1 rfl (Nat.le_of_ble_eq_true rfl) dX3_arrival_60 ⟨Nat.zero_le _, Nat.zero_le _⟩ (fun H locs hP hD hS => ?_)
      refine va_mmin hx hb (hml.trans hl.1.symm) hown w7 w8 w9 w10 (Nat.le_of_ble_eq_true rfl) (Nat.le_of_ble_eq_true rfl) (Nat.zero_le _) (Nat.zero_le _) dX3_arrival_63 ?_
      refine lv_istore (lv' := [(6, .int (if (mX9_at 30 p1 t_plan_begins) < (iI 120) then (mX9_at 30 p1 t_plan_begins) else (iI 120))), (5, .int (s0 + (mX9_at 30 p1 t_lines_hours))), (4, .int s0), (0, .ref a_t), (1, .int p1), (2, .int p2)]) hx hb dX3_arrival_66 hl (by decide) rfl (fun ls hl => ?_)
      refine lv_iload hx hb dX3_arrival_68 (lv_at hl 1 rfl) ?_
      refine lv_iload hx hb dX3_arrival_70 (lv_at hl 0 rfl) ?_
      refine lv_icmp_le (tgt := 80) hx hb dX3_arrival_72 (by decide) (fun c_5 => ?_) (fun c_5 => ?_)
      · have h := (if_pos c_5).symm.trans h
        refine lv_iload hx hb dX3_arrival_80 (lv_at hl 1 rfl) ?_
        exact hret _ _ (s0 + (mX9_at 30 p1 t_lines_hours)) _ _ _ (Option.some.inj h) rfl rfl hP hS dX3_arrival_82
      · have h := (if_neg c_5).symm.trans h
        refine lv_ldc (v := (iI 1000000)) hx hb hown w11 dX3_arrival_75 ?_
        refine lv_goto (tgt := 82) hx hb dX3_arrival_77 (by decide) ?_
        exact hret _ _ (iI 1000000) _ _ _ (Option.some.inj h) rfl rfl hP hS dX3_arrival_82
    · have h := (if_neg c_3).symm.trans h
      refine lv_bipush (v := (iI 120)) hx hb dX3_arrival_45 (by decide) ?_
      refine lv_goto (tgt := 66) hx hb dX3_arrival_47 (by decide) ?_
      refine lv_istore (lv' := [(6, .int (iI 120)), (5, .int (s0 + (mX9_at 30 p1 t_lines_hours))), (4, .int s0), (0, .ref a_t), (1, .int p1), (2, .int p2)]) hx hb dX3_arrival_66 hl (by decide) rfl (fun ls hl => ?_)
      refine lv_iload hx hb dX3_arrival_68 (lv_at hl 1 rfl) ?_
      refine lv_iload hx hb dX3_arrival_70 (lv_at hl 0 rfl) ?_
      refine lv_icmp_le (tgt := 80) hx hb dX3_arrival_72 (by decide) (fun c_6 => ?_) (fun c_6 => ?_)
      · have h := (if_pos c_6).symm.trans h
        refine lv_iload hx hb dX3_arrival_80 (lv_at hl 1 rfl) ?_
        exact hret _ _ (s0 + (mX9_at 30 p1 t_lines_hours)) _ _ _ (Option.some.inj h) rfl rfl hP hS dX3_arrival_82
      · have h := (if_neg c_6).symm.trans h
        refine lv_ldc (v := (iI 1000000)) hx hb hown w11 dX3_arrival_75 ?_
        refine lv_goto (tgt := 82) hx hb dX3_arrival_77 (by decide) ?_
        exact hret _ _ (iI 1000000) _ _ _ (Option.some.inj h) rfl rfl hP hS dX3_arrival_82
  rw [mX3_arrival] at h
  refine lv_iload_n hx hb dX3_arrival_0 rfl (lv_at hl 2 rfl) ?_
  refine lv_if_eq (tgt := 22) hx hb dX3_arrival_1 (by decide) (fun c_1 => ?_) (fun c_1 => ?_)
  · have h := (if_pos c_1).symm.trans h
    refine lv_iload_n hx hb dX3_arrival_22 rfl (lv_at hl 3 rfl) ?_
    exact J23 p3 _ _ _ h hP hD hS (lv_sub hl [0, 1, 2] rfl)
  · have h := (if_neg c_1).symm.trans h
    refine lv_iload_n hx hb dX3_arrival_4 rfl (lv_at hl 3 rfl) ?_
    refine lv_aload_n hx hb dX3_arrival_5 rfl (lv_at hl 0 rfl) ?_
    refine va_get (D := kD E) (cl := vwCl) (tys := kT E) (ci := 3) (v := .ref a_t_plan) (C := RX3) (T := TX3) (N := 3) hx hb hts iX3 hown hK hP 0 rfl rfl 1 (by decide) w5 (fun _ h9 => h9) rfl dX3_arrival_6 ?_
    refine va_getN (D := kD E) (cl := vwCl) (tys := kT E) (ci := 2) (v := .ref a_t_plan_done) (C := RX2) (T := TX2) (N := 7) hx hb hts iX2 hown hK hP 3 rfl rfl 5 (by decide) (nwf_5 hE.2.1) (fun _ h9 => h9) rfl dX3_arrival_9 ?_
    refine lv_iload_n hx hb dX3_arrival_12 rfl (lv_at hl 1 rfl) ?_
    refine kciN (l := l) (E := E) (wc := [ar E a_t_plan_done 30 t_plan_done]) (w1 := [ar E a_t_plan_done 30 t_plan_done]) (w' := [oo a_t 3 [.ref a_t_lines, .ref a_t_plan, .ref a_t_draft], oo a_t_lines 1 [.ref a_t_lines_oneEnd, .ref a_t_lines_otherEnd, .ref a_t_lines_miles, .ref a_t_lines_hours, .ref a_t_lines_spikesSet, .int t_lines_many, .int t_lines_rateOfSet, .int t_lines_rateOfOthers], ar E a_t_lines_hours 30 t_lines_hours, oo a_t_plan 2 [.ref a_t_plan_lineOf, .ref a_t_plan_after, .ref a_t_plan_hours, .ref a_t_plan_gangs, .ref a_t_plan_begins, .ref a_t_plan_done, .int t_plan_many], ar E a_t_plan_begins 30 t_plan_begins, ar E a_t_plan_done 30 t_plan_done]) (ads := [a_t_plan_done]) (r := (mX9_at 30 p1 t_plan_done)) (As := [.ref a_t_plan_done, .int p1]) (rest := [.int p3]) (kX9_at l E (hn_q0 := (Nat.le_of_ble_eq_true rfl)) rfl) ⟨hx, hb, hml, hown, hts⟩ ⟨va_cnB 2 hts gX3_arrival_X9_at_n40 rfl rfl rfl (nwm_22 hE.2.1) w3 (by decide +kernel) ⟨by decide, by decide⟩, w4, trivial⟩ hE hP hD hS hA [5] (by decide) rfl rfl rfl rfl  rfl hl.1 rfl (Nat.le_of_ble_eq_true rfl) dX3_arrival_13 ⟨Nat.zero_le _, Nat.zero_le _⟩ (fun H locs hP hD hS => ?_)
    refine va_mmax hx hb (hml.trans hl.1.symm) hown w12 w13 w9 w14 (Nat.le_of_ble_eq_true rfl) (Nat.le_of_ble_eq_true rfl) (Nat.zero_le _) (Nat.zero_le _) dX3_arrival_16 ?_
    refine lv_goto (tgt := 23) hx hb dX3_arrival_19 (by decide) ?_
    exact J23 (if p3 < (mX9_at 30 p1 t_plan_done) then (mX9_at 30 p1 t_plan_done) else p3) _ _ _ h hP hD hS (lv_sub hl [0, 1, 2] rfl)
abbrev rmX0_pass : Room := { frames := 2, cells := 0, slots := 0, locals := 47 }
set_option maxHeartbeats 4000000 in
set_option maxRecDepth 100000 in
theorem kX0_pass (l : Launch) (E : KE) {a_t : Nat} {a_t_placeOf : Nat} {a_t_hourOf : Nat} {a_t_first : Nat} {a_q1 : Nat} {a_q1_lines : Nat} {a_q1_plan : Nat} {a_q1_draft : Nat} {a_q1_lines_oneEnd : Nat} {a_q1_lines_otherEnd : Nat} {a_q1_lines_miles : Nat} {a_q1_lines_hours : Nat} {a_q1_lines_spikesSet : Nat} {a_q1_plan_lineOf : Nat} {a_q1_plan_after : Nat} {a_q1_plan_hours : Nat} {a_q1_plan_gangs : Nat} {a_q1_plan_begins : Nat} {a_q1_plan_done : Nat} {p2 : Int32} {p3 : Int32} {p4 : Int32} {t_many : Int32} {t_first : Nat → Int32} {q1_lines_many : Int32} {q1_lines_rateOfSet : Int32} {q1_lines_rateOfOthers : Int32} {q1_lines_hours : Nat → Int32} {q1_plan_many : Int32} {q1_plan_begins : Nat → Int32} {q1_plan_done : Nat → Int32} {out : Int32 × (Nat → Int32)} (h : mX0_pass p2 p3 p4 t_first q1_lines_hours q1_plan_begins q1_plan_done = some out) : KI l E yX0_pass wsX0_pass rmX0_pass [.ref a_t, .ref a_q1, .int p2, .int p3, .int p4] [oo a_t 0 [.ref a_t_placeOf, .ref a_t_hourOf, .ref a_t_first, .int t_many], ar E a_t_first 16 t_first, oo a_q1 3 [.ref a_q1_lines, .ref a_q1_plan, .ref a_q1_draft], oo a_q1_lines 1 [.ref a_q1_lines_oneEnd, .ref a_q1_lines_otherEnd, .ref a_q1_lines_miles, .ref a_q1_lines_hours, .ref a_q1_lines_spikesSet, .int q1_lines_many, .int q1_lines_rateOfSet, .int q1_lines_rateOfOthers], ar E a_q1_lines_hours 30 q1_lines_hours, oo a_q1_plan 2 [.ref a_q1_plan_lineOf, .ref a_q1_plan_after, .ref a_q1_plan_hours, .ref a_q1_plan_gangs, .ref a_q1_plan_begins, .ref a_q1_plan_done, .int q1_plan_many], ar E a_q1_plan_begins 30 q1_plan_begins, ar E a_q1_plan_done 30 q1_plan_done] [oo a_t 0 [.ref a_t_placeOf, .ref a_t_hourOf, .ref a_t_first, .int t_many], ar E a_t_first 16 out.2, oo a_q1 3 [.ref a_q1_lines, .ref a_q1_plan, .ref a_q1_draft], oo a_q1_lines 1 [.ref a_q1_lines_oneEnd, .ref a_q1_lines_otherEnd, .ref a_q1_lines_miles, .ref a_q1_lines_hours, .ref a_q1_lines_spikesSet, .int q1_lines_many, .int q1_lines_rateOfSet, .int q1_lines_rateOfOthers], ar E a_q1_lines_hours 30 q1_lines_hours, oo a_q1_plan 2 [.ref a_q1_plan_lineOf, .ref a_q1_plan_after, .ref a_q1_plan_hours, .ref a_q1_plan_gangs, .ref a_q1_plan_begins, .ref a_q1_plan_done, .int q1_plan_many], ar E a_q1_plan_begins 30 q1_plan_begins, ar E a_q1_plan_done 30 q1_plan_done] out.1 := by
  refine kmetI (T := Int32 × (Nat → Int32)) (out := out) (wf := (fun (o : Int32 × (Nat → Int32)) => [oo a_t 0 [.ref a_t_placeOf, .ref a_t_hourOf, .ref a_t_first, .int t_many], ar E a_t_first 16 o.2, oo a_q1 3 [.ref a_q1_lines, .ref a_q1_plan, .ref a_q1_draft], oo a_q1_lines 1 [.ref a_q1_lines_oneEnd, .ref a_q1_lines_otherEnd, .ref a_q1_lines_miles, .ref a_q1_lines_hours, .ref a_q1_lines_spikesSet, .int q1_lines_many, .int q1_lines_rateOfSet, .int q1_lines_rateOfOthers], ar E a_q1_lines_hours 30 q1_lines_hours, oo a_q1_plan 2 [.ref a_q1_plan_lineOf, .ref a_q1_plan_after, .ref a_q1_plan_hours, .ref a_q1_plan_gangs, .ref a_q1_plan_begins, .ref a_q1_plan_done, .int q1_plan_many], ar E a_q1_plan_begins 30 q1_plan_begins, ar E a_q1_plan_done 30 q1_plan_done])) (rf := (fun (o : Int32 × (Nat → Int32)) => o.1)) (cc := cX0_pass) (maxL := 6) (ty := .boolean) (by decide) rfl (Nat.le_of_ble_eq_true rfl) ?_
  intro p e s m args below meth c A Q ls hx hb hml hts hown hE hP hD hS hA hl hret
  have hown : s.vm.findClass RX0 = some m.cls := hown
  have hK := hE.1
  have hl : lv_has ls 6 [(0, .ref a_t), (1, .ref a_q1), (2, .int p2), (3, .int p3), (4, .int p4)] := hl
  have hP : va_P (kD E) vwCl [oo a_t 0 [.ref a_t_placeOf, .ref a_t_hourOf, .ref a_t_first, .int t_many], ar E a_t_first 16 t_first, oo a_q1 3 [.ref a_q1_lines, .ref a_q1_plan, .ref a_q1_draft], oo a_q1_lines 1 [.ref a_q1_lines_oneEnd, .ref a_q1_lines_otherEnd, .ref a_q1_lines_miles, .ref a_q1_lines_hours, .ref a_q1_lines_spikesSet, .int q1_lines_many, .int q1_lines_rateOfSet, .int q1_lines_rateOfOthers], ar E a_q1_lines_hours 30 q1_lines_hours, oo a_q1_plan 2 [.ref a_q1_plan_lineOf, .ref a_q1_plan_after, .ref a_q1_plan_hours, .ref a_q1_plan_gangs, .ref a_q1_plan_begins, .ref a_q1_plan_done, .int q1_plan_many], ar E a_q1_plan_begins 30 q1_plan_begins, ar E a_q1_plan_done 30 q1_plan_done] s.heap := hP
  have hD : va_D A [oo a_t 0 [.ref a_t_placeOf, .ref a_t_hourOf, .ref a_t_first, .int t_many], ar E a_t_first 16 t_first, oo a_q1 3 [.ref a_q1_lines, .ref a_q1_plan, .ref a_q1_draft], oo a_q1_lines 1 [.ref a_q1_lines_oneEnd, .ref a_q1_lines_otherEnd, .ref a_q1_lines_miles, .ref a_q1_lines_hours, .ref a_q1_lines_spikesSet, .int q1_lines_many, .int q1_lines_rateOfSet, .int q1_lines_rateOfOthers], ar E a_q1_lines_hours 30 q1_lines_hours, oo a_q1_plan 2 [.ref a_q1_plan_lineOf, .ref a_q1_plan_after, .ref a_q1_plan_hours, .ref a_q1_plan_gangs, .ref a_q1_plan_begins, .ref a_q1_plan_done, .int q1_plan_many], ar E a_q1_plan_begins 30 q1_plan_begins, ar E a_q1_plan_done 30 q1_plan_done] := hD
  have iX0 : ∀ w ∈ wsX00, w ∈ wsX0_pass := by decide +kernel
  have w1 := hts (.fieldLink RX0 18 "GaugeWeekend$Cars" "first" "[I") (by decide +kernel)
  have w2 := hts (.initialized RX9) (by decide +kernel)
  have w3 := hts (.static yX9_put) (by decide +kernel)
  rw [mX0_pass] at h
  refine lv_aload_n hx hb dX0_pass_0 rfl (lv_at hl 1 rfl) ?_
  refine lv_iload_n hx hb dX0_pass_1 rfl (lv_at hl 2 rfl) ?_
  refine lv_iconst (v := (iI 0)) hx hb dX0_pass_2 (by decide) ?_
  refine lv_aload_n hx hb dX0_pass_3 rfl (lv_at hl 0 rfl) ?_
  refine lv_iload_n hx hb dX0_pass_4 rfl (lv_at hl 3 rfl) ?_
  refine kciV (l := l) (E := E) (wc := [oo a_t 0 [.ref a_t_placeOf, .ref a_t_hourOf, .ref a_t_first, .int t_many], ar E a_t_first 16 t_first]) (w1 := [oo a_t 0 [.ref a_t_placeOf, .ref a_t_hourOf, .ref a_t_first, .int t_many], ar E a_t_first 16 t_first]) (w' := [oo a_t 0 [.ref a_t_placeOf, .ref a_t_hourOf, .ref a_t_first, .int t_many], ar E a_t_first 16 t_first, oo a_q1 3 [.ref a_q1_lines, .ref a_q1_plan, .ref a_q1_draft], oo a_q1_lines 1 [.ref a_q1_lines_oneEnd, .ref a_q1_lines_otherEnd, .ref a_q1_lines_miles, .ref a_q1_lines_hours, .ref a_q1_lines_spikesSet, .int q1_lines_many, .int q1_lines_rateOfSet, .int q1_lines_rateOfOthers], ar E a_q1_lines_hours 30 q1_lines_hours, oo a_q1_plan 2 [.ref a_q1_plan_lineOf, .ref a_q1_plan_after, .ref a_q1_plan_hours, .ref a_q1_plan_gangs, .ref a_q1_plan_begins, .ref a_q1_plan_done, .int q1_plan_many], ar E a_q1_plan_begins 30 q1_plan_begins, ar E a_q1_plan_done 30 q1_plan_done]) (ads := [a_t, a_t_first]) (r := (mX0_firstIn p3 t_first)) (As := [.int p3]) (rest := [.int (iI 0), .int p2, .ref a_q1]) (kX0_firstIn l E rfl) ⟨hx, hb, hml, hown, hts⟩ (cwV 1 hts gX0_pass_X0_firstIn rfl rfl rfl (by decide +kernel) ⟨by decide, by decide⟩) hE hP hD hS hA [0, 1] (by decide) rfl rfl rfl rfl rfl rfl rfl rfl hl.1 rfl (Nat.le_of_ble_eq_true rfl) dX0_pass_5 ⟨Nat.zero_le _, Nat.zero_le _⟩ (fun H locs hP hD hS => ?_)
  obtain ⟨o2, hc2, h⟩ := kbind h
  refine kciV (l := l) (E := E) (wc := [oo a_q1 3 [.ref a_q1_lines, .ref a_q1_plan, .ref a_q1_draft], oo a_q1_lines 1 [.ref a_q1_lines_oneEnd, .ref a_q1_lines_otherEnd, .ref a_q1_lines_miles, .ref a_q1_lines_hours, .ref a_q1_lines_spikesSet, .int q1_lines_many, .int q1_lines_rateOfSet, .int q1_lines_rateOfOthers], ar E a_q1_lines_hours 30 q1_lines_hours, oo a_q1_plan 2 [.ref a_q1_plan_lineOf, .ref a_q1_plan_after, .ref a_q1_plan_hours, .ref a_q1_plan_gangs, .ref a_q1_plan_begins, .ref a_q1_plan_done, .int q1_plan_many], ar E a_q1_plan_begins 30 q1_plan_begins, ar E a_q1_plan_done 30 q1_plan_done]) (w1 := [oo a_q1 3 [.ref a_q1_lines, .ref a_q1_plan, .ref a_q1_draft], oo a_q1_lines 1 [.ref a_q1_lines_oneEnd, .ref a_q1_lines_otherEnd, .ref a_q1_lines_miles, .ref a_q1_lines_hours, .ref a_q1_lines_spikesSet, .int q1_lines_many, .int q1_lines_rateOfSet, .int q1_lines_rateOfOthers], ar E a_q1_lines_hours 30 q1_lines_hours, oo a_q1_plan 2 [.ref a_q1_plan_lineOf, .ref a_q1_plan_after, .ref a_q1_plan_hours, .ref a_q1_plan_gangs, .ref a_q1_plan_begins, .ref a_q1_plan_done, .int q1_plan_many], ar E a_q1_plan_begins 30 q1_plan_begins, ar E a_q1_plan_done 30 q1_plan_done]) (w' := [oo a_t 0 [.ref a_t_placeOf, .ref a_t_hourOf, .ref a_t_first, .int t_many], ar E a_t_first 16 t_first, oo a_q1 3 [.ref a_q1_lines, .ref a_q1_plan, .ref a_q1_draft], oo a_q1_lines 1 [.ref a_q1_lines_oneEnd, .ref a_q1_lines_otherEnd, .ref a_q1_lines_miles, .ref a_q1_lines_hours, .ref a_q1_lines_spikesSet, .int q1_lines_many, .int q1_lines_rateOfSet, .int q1_lines_rateOfOthers], ar E a_q1_lines_hours 30 q1_lines_hours, oo a_q1_plan 2 [.ref a_q1_plan_lineOf, .ref a_q1_plan_after, .ref a_q1_plan_hours, .ref a_q1_plan_gangs, .ref a_q1_plan_begins, .ref a_q1_plan_done, .int q1_plan_many], ar E a_q1_plan_begins 30 q1_plan_begins, ar E a_q1_plan_done 30 q1_plan_done]) (ads := [a_q1, a_q1_lines, a_q1_lines_hours, a_q1_plan, a_q1_plan_begins, a_q1_plan_done]) (r := o2) (As := [.int p2, .int (iI 0), .int (mX0_firstIn p3 t_first)]) (rest := []) (kX3_arrival l E hc2) ⟨hx, hb, hml, hown, hts⟩ (cwV 3 hts gX0_pass_X3_arrival rfl rfl rfl (by decide +kernel) ⟨by decide, by decide⟩) hE hP hD hS hA [2, 3, 4, 5, 6, 7] (by decide) rfl rfl rfl rfl rfl rfl rfl rfl hl.1 rfl (Nat.le_of_ble_eq_true rfl) dX0_pass_8 ⟨Nat.zero_le _, Nat.zero_le _⟩ (fun H locs hP hD hS => ?_)
  refine lv_istore (lv' := [(5, .int o2), (0, .ref a_t), (1, .ref a_q1), (2, .int p2), (3, .int p3), (4, .int p4)]) hx hb dX0_pass_11 hl (by decide) rfl (fun ls hl => ?_)
  refine lv_iload hx hb dX0_pass_13 (lv_at hl 0 rfl) ?_
  refine lv_aload_n hx hb dX0_pass_15 rfl (lv_at hl 1 rfl) ?_
  refine lv_iload hx hb dX0_pass_16 (lv_at hl 5 rfl) ?_
  refine kciV (l := l) (E := E) (wc := [oo a_t 0 [.ref a_t_placeOf, .ref a_t_hourOf, .ref a_t_first, .int t_many], ar E a_t_first 16 t_first]) (w1 := [oo a_t 0 [.ref a_t_placeOf, .ref a_t_hourOf, .ref a_t_first, .int t_many], ar E a_t_first 16 t_first]) (w' := [oo a_t 0 [.ref a_t_placeOf, .ref a_t_hourOf, .ref a_t_first, .int t_many], ar E a_t_first 16 t_first, oo a_q1 3 [.ref a_q1_lines, .ref a_q1_plan, .ref a_q1_draft], oo a_q1_lines 1 [.ref a_q1_lines_oneEnd, .ref a_q1_lines_otherEnd, .ref a_q1_lines_miles, .ref a_q1_lines_hours, .ref a_q1_lines_spikesSet, .int q1_lines_many, .int q1_lines_rateOfSet, .int q1_lines_rateOfOthers], ar E a_q1_lines_hours 30 q1_lines_hours, oo a_q1_plan 2 [.ref a_q1_plan_lineOf, .ref a_q1_plan_after, .ref a_q1_plan_hours, .ref a_q1_plan_gangs, .ref a_q1_plan_begins, .ref a_q1_plan_done, .int q1_plan_many], ar E a_q1_plan_begins 30 q1_plan_begins, ar E a_q1_plan_done 30 q1_plan_done]) (ads := [a_t, a_t_first]) (r := (mX0_firstIn p4 t_first)) (As := [.int p4]) (rest := [.int o2]) (kX0_firstIn l E rfl) ⟨hx, hb, hml, hown, hts⟩ (cwV 1 hts gX0_pass_X0_firstIn rfl rfl rfl (by decide +kernel) ⟨by decide, by decide⟩) hE hP hD hS hA [0, 1] (by decide) rfl rfl rfl rfl rfl rfl rfl rfl hl.1 rfl (Nat.le_of_ble_eq_true rfl) dX0_pass_18 ⟨Nat.zero_le _, Nat.zero_le _⟩ (fun H locs hP hD hS => ?_)
  refine lv_icmp_lt (tgt := 26) hx hb dX0_pass_21 (by decide) (fun c_4 => ?_) (fun c_4 => ?_)
  · have h := (if_pos c_4).symm.trans h
    refine lv_aload_n hx hb dX0_pass_26 rfl (lv_at hl 1 rfl) ?_
    refine va_get (D := kD E) (cl := vwCl) (tys := kT E) (ci := 0) (v := .ref a_t_first) (C := RX0) (T := TX0) (N := 4) hx hb hts iX0 hown hK hP 0 rfl rfl 2 (by decide) w1 (fun _ h9 => h9) rfl dX0_pass_27 ?_
    refine lv_iload hx hb dX0_pass_30 (lv_at hl 5 rfl) ?_
    refine lv_iload hx hb dX0_pass_32 (lv_at hl 0 rfl) ?_
    refine kcvN (l := l) (E := E) (wc := [ar E a_t_first 16 t_first]) (w1 := [ar E a_t_first 16 (mX9_put 16 p4 o2 t_first)]) (w' := [oo a_t 0 [.ref a_t_placeOf, .ref a_t_hourOf, .ref a_t_first, .int t_many], ar E a_t_first 16 (mX9_put 16 p4 o2 t_first), oo a_q1 3 [.ref a_q1_lines, .ref a_q1_plan, .ref a_q1_draft], oo a_q1_lines 1 [.ref a_q1_lines_oneEnd, .ref a_q1_lines_otherEnd, .ref a_q1_lines_miles, .ref a_q1_lines_hours, .ref a_q1_lines_spikesSet, .int q1_lines_many, .int q1_lines_rateOfSet, .int q1_lines_rateOfOthers], ar E a_q1_lines_hours 30 q1_lines_hours, oo a_q1_plan 2 [.ref a_q1_plan_lineOf, .ref a_q1_plan_after, .ref a_q1_plan_hours, .ref a_q1_plan_gangs, .ref a_q1_plan_begins, .ref a_q1_plan_done, .int q1_plan_many], ar E a_q1_plan_begins 30 q1_plan_begins, ar E a_q1_plan_done 30 q1_plan_done]) (ads := [a_t_first]) (As := [.ref a_t_first, .int p4, .int o2]) (rest := []) (kX9_put l E (hn_q0 := (Nat.le_of_ble_eq_true rfl)) rfl) ⟨hx, hb, hml, hown, hts⟩ ⟨va_cnB 3 hts gX0_pass_X9_put_n32 rfl rfl rfl (nwm_29 hE.2.1) w2 (by decide +kernel) ⟨by decide, by decide⟩, w3, trivial⟩ hE hP hD hS hA [1] (by decide) rfl rfl rfl rfl  rfl hl.1 rfl (Nat.le_of_ble_eq_true rfl) dX0_pass_34 ⟨Nat.zero_le _, Nat.zero_le _⟩ (fun H locs hP hD hS => ?_)
    refine lv_iconst (v := (iI 1)) hx hb dX0_pass_37 (by decide) ?_
    exact hret _ _ ((iI 1), (mX9_put 16 p4 o2 t_first)) _ _ _ (Option.some.inj h) rfl rfl hP hS dX0_pass_38
  · have h := (if_neg c_4).symm.trans h
    refine lv_iconst (v := (iI 0)) hx hb dX0_pass_24 (by decide) ?_
    exact hret _ _ ((iI 0), t_first) _ _ _ (Option.some.inj h) rfl rfl hP hS dX0_pass_25
abbrev rmX0_travel : Room := { frames := 3, cells := 0, slots := 0, locals := 72 }
set_option maxHeartbeats 4000000 in
set_option maxRecDepth 100000 in
theorem kX0_travel (l : Launch) (E : KE) {a_t : Nat} {a_t_placeOf : Nat} {a_t_hourOf : Nat} {a_t_first : Nat} {a_q1 : Nat} {a_q1_lines : Nat} {a_q1_plan : Nat} {a_q1_draft : Nat} {a_q1_lines_oneEnd : Nat} {a_q1_lines_otherEnd : Nat} {a_q1_lines_miles : Nat} {a_q1_lines_hours : Nat} {a_q1_lines_spikesSet : Nat} {a_q1_plan_lineOf : Nat} {a_q1_plan_after : Nat} {a_q1_plan_hours : Nat} {a_q1_plan_gangs : Nat} {a_q1_plan_begins : Nat} {a_q1_plan_done : Nat} {p2 : Int32} {t_many : Int32} {t_first : Nat → Int32} {t_hourOf : Nat → Int32} {t_placeOf : Nat → Int32} {q1_lines_many : Int32} {q1_lines_rateOfSet : Int32} {q1_lines_rateOfOthers : Int32} {q1_lines_hours : Nat → Int32} {q1_lines_oneEnd : Nat → Int32} {q1_lines_otherEnd : Nat → Int32} {q1_plan_many : Int32} {q1_plan_begins : Nat → Int32} {q1_plan_done : Nat → Int32} {out : (Nat → Int32)} (h : mX0_travel p2 t_first t_hourOf t_placeOf q1_lines_many q1_lines_hours q1_lines_oneEnd q1_lines_otherEnd q1_plan_begins q1_plan_done = some out) : KV l E yX0_travel wsX0_travel rmX0_travel [.ref a_t, .ref a_q1, .int p2] [oo a_t 0 [.ref a_t_placeOf, .ref a_t_hourOf, .ref a_t_first, .int t_many], ar E a_t_first 16 t_first, ar E a_t_hourOf 30 t_hourOf, ar E a_t_placeOf 30 t_placeOf, oo a_q1 3 [.ref a_q1_lines, .ref a_q1_plan, .ref a_q1_draft], oo a_q1_lines 1 [.ref a_q1_lines_oneEnd, .ref a_q1_lines_otherEnd, .ref a_q1_lines_miles, .ref a_q1_lines_hours, .ref a_q1_lines_spikesSet, .int q1_lines_many, .int q1_lines_rateOfSet, .int q1_lines_rateOfOthers], ar E a_q1_lines_hours 30 q1_lines_hours, ar E a_q1_lines_oneEnd 30 q1_lines_oneEnd, ar E a_q1_lines_otherEnd 30 q1_lines_otherEnd, oo a_q1_plan 2 [.ref a_q1_plan_lineOf, .ref a_q1_plan_after, .ref a_q1_plan_hours, .ref a_q1_plan_gangs, .ref a_q1_plan_begins, .ref a_q1_plan_done, .int q1_plan_many], ar E a_q1_plan_begins 30 q1_plan_begins, ar E a_q1_plan_done 30 q1_plan_done] [oo a_t 0 [.ref a_t_placeOf, .ref a_t_hourOf, .ref a_t_first, .int t_many], ar E a_t_first 16 out, ar E a_t_hourOf 30 t_hourOf, ar E a_t_placeOf 30 t_placeOf, oo a_q1 3 [.ref a_q1_lines, .ref a_q1_plan, .ref a_q1_draft], oo a_q1_lines 1 [.ref a_q1_lines_oneEnd, .ref a_q1_lines_otherEnd, .ref a_q1_lines_miles, .ref a_q1_lines_hours, .ref a_q1_lines_spikesSet, .int q1_lines_many, .int q1_lines_rateOfSet, .int q1_lines_rateOfOthers], ar E a_q1_lines_hours 30 q1_lines_hours, ar E a_q1_lines_oneEnd 30 q1_lines_oneEnd, ar E a_q1_lines_otherEnd 30 q1_lines_otherEnd, oo a_q1_plan 2 [.ref a_q1_plan_lineOf, .ref a_q1_plan_after, .ref a_q1_plan_hours, .ref a_q1_plan_gangs, .ref a_q1_plan_begins, .ref a_q1_plan_done, .int q1_plan_many], ar E a_q1_plan_begins 30 q1_plan_begins, ar E a_q1_plan_done 30 q1_plan_done] := by
  refine kmetV (T := (Nat → Int32)) (out := out) (wf := (fun (o : (Nat → Int32)) => [oo a_t 0 [.ref a_t_placeOf, .ref a_t_hourOf, .ref a_t_first, .int t_many], ar E a_t_first 16 o, ar E a_t_hourOf 30 t_hourOf, ar E a_t_placeOf 30 t_placeOf, oo a_q1 3 [.ref a_q1_lines, .ref a_q1_plan, .ref a_q1_draft], oo a_q1_lines 1 [.ref a_q1_lines_oneEnd, .ref a_q1_lines_otherEnd, .ref a_q1_lines_miles, .ref a_q1_lines_hours, .ref a_q1_lines_spikesSet, .int q1_lines_many, .int q1_lines_rateOfSet, .int q1_lines_rateOfOthers], ar E a_q1_lines_hours 30 q1_lines_hours, ar E a_q1_lines_oneEnd 30 q1_lines_oneEnd, ar E a_q1_lines_otherEnd 30 q1_lines_otherEnd, oo a_q1_plan 2 [.ref a_q1_plan_lineOf, .ref a_q1_plan_after, .ref a_q1_plan_hours, .ref a_q1_plan_gangs, .ref a_q1_plan_begins, .ref a_q1_plan_done, .int q1_plan_many], ar E a_q1_plan_begins 30 q1_plan_begins, ar E a_q1_plan_done 30 q1_plan_done])) (cc := cX0_travel) (maxL := 8) (by decide) rfl (Nat.le_of_ble_eq_true rfl) ?_
  intro p e s m args below meth c A Q ls hx hb hml hts hown hE hP hD hS hA hl hret
  have hown : s.vm.findClass RX0 = some m.cls := hown
  have hK := hE.1
  have hl : lv_has ls 8 [(0, .ref a_t), (1, .ref a_q1), (2, .int p2)] := hl
  have hP : va_P (kD E) vwCl [oo a_t 0 [.ref a_t_placeOf, .ref a_t_hourOf, .ref a_t_first, .int t_many], ar E a_t_first 16 t_first, ar E a_t_hourOf 30 t_hourOf, ar E a_t_placeOf 30 t_placeOf, oo a_q1 3 [.ref a_q1_lines, .ref a_q1_plan, .ref a_q1_draft], oo a_q1_lines 1 [.ref a_q1_lines_oneEnd, .ref a_q1_lines_otherEnd, .ref a_q1_lines_miles, .ref a_q1_lines_hours, .ref a_q1_lines_spikesSet, .int q1_lines_many, .int q1_lines_rateOfSet, .int q1_lines_rateOfOthers], ar E a_q1_lines_hours 30 q1_lines_hours, ar E a_q1_lines_oneEnd 30 q1_lines_oneEnd, ar E a_q1_lines_otherEnd 30 q1_lines_otherEnd, oo a_q1_plan 2 [.ref a_q1_plan_lineOf, .ref a_q1_plan_after, .ref a_q1_plan_hours, .ref a_q1_plan_gangs, .ref a_q1_plan_begins, .ref a_q1_plan_done, .int q1_plan_many], ar E a_q1_plan_begins 30 q1_plan_begins, ar E a_q1_plan_done 30 q1_plan_done] s.heap := hP
  have hD : va_D A [oo a_t 0 [.ref a_t_placeOf, .ref a_t_hourOf, .ref a_t_first, .int t_many], ar E a_t_first 16 t_first, ar E a_t_hourOf 30 t_hourOf, ar E a_t_placeOf 30 t_placeOf, oo a_q1 3 [.ref a_q1_lines, .ref a_q1_plan, .ref a_q1_draft], oo a_q1_lines 1 [.ref a_q1_lines_oneEnd, .ref a_q1_lines_otherEnd, .ref a_q1_lines_miles, .ref a_q1_lines_hours, .ref a_q1_lines_spikesSet, .int q1_lines_many, .int q1_lines_rateOfSet, .int q1_lines_rateOfOthers], ar E a_q1_lines_hours 30 q1_lines_hours, ar E a_q1_lines_oneEnd 30 q1_lines_oneEnd, ar E a_q1_lines_otherEnd 30 q1_lines_otherEnd, oo a_q1_plan 2 [.ref a_q1_plan_lineOf, .ref a_q1_plan_after, .ref a_q1_plan_hours, .ref a_q1_plan_gangs, .ref a_q1_plan_begins, .ref a_q1_plan_done, .int q1_plan_many], ar E a_q1_plan_begins 30 q1_plan_begins, ar E a_q1_plan_done 30 q1_plan_done] := hD
  have iX0 : ∀ w ∈ wsX00, w ∈ wsX0_travel := by decide +kernel
  have w1 := hts (.fieldLink RX0 18 "GaugeWeekend$Cars" "first" "[I") (by decide +kernel)
  have w2 := hts (.constant RX0 47 1000000) (by decide +kernel)
  have w3 := hts (.fieldLink RX0 9 "GaugeWeekend$Cars" "placeOf" "[I") (by decide +kernel)
  have w4 := hts (.initialized RX9) (by decide +kernel)
  have w5 := hts (.static yX9_at) (by decide +kernel)
  have w6 := hts (.fieldLink RX0 15 "GaugeWeekend$Cars" "hourOf" "[I") (by decide +kernel)
  have w7 := hts (.static yX9_put) (by decide +kernel)
  have iX3 : ∀ w ∈ wsX30, w ∈ wsX0_travel := by decide +kernel
  have iX1 : ∀ w ∈ wsX10, w ∈ wsX0_travel := by decide +kernel
  have L53 : ∀ (v4 : Int32) (k123 : Int32 → (Nat → Int32) → Option ((Nat → Int32))) (hk123 : ∀ (v3 : Int32) (t_first : Nat → Int32) (H : Heap) (locs : List Loc) (ls : Array Slot) (h : k123 v3 t_first = some out) (hP : va_P (kD E) vwCl [oo a_t 0 [.ref a_t_placeOf, .ref a_t_hourOf, .ref a_t_first, .int t_many], ar E a_t_first 16 t_first, ar E a_t_hourOf 30 t_hourOf, ar E a_t_placeOf 30 t_placeOf, oo a_q1 3 [.ref a_q1_lines, .ref a_q1_plan, .ref a_q1_draft], oo a_q1_lines 1 [.ref a_q1_lines_oneEnd, .ref a_q1_lines_otherEnd, .ref a_q1_lines_miles, .ref a_q1_lines_hours, .ref a_q1_lines_spikesSet, .int q1_lines_many, .int q1_lines_rateOfSet, .int q1_lines_rateOfOthers], ar E a_q1_lines_hours 30 q1_lines_hours, ar E a_q1_lines_oneEnd 30 q1_lines_oneEnd, ar E a_q1_lines_otherEnd 30 q1_lines_otherEnd, oo a_q1_plan 2 [.ref a_q1_plan_lineOf, .ref a_q1_plan_after, .ref a_q1_plan_hours, .ref a_q1_plan_gangs, .ref a_q1_plan_begins, .ref a_q1_plan_done, .int q1_plan_many], ar E a_q1_plan_begins 30 q1_plan_begins, ar E a_q1_plan_done 30 q1_plan_done] H) (hD : va_D A [oo a_t 0 [.ref a_t_placeOf, .ref a_t_hourOf, .ref a_t_first, .int t_many], ar E a_t_first 16 t_first, ar E a_t_hourOf 30 t_hourOf, ar E a_t_placeOf 30 t_placeOf, oo a_q1 3 [.ref a_q1_lines, .ref a_q1_plan, .ref a_q1_draft], oo a_q1_lines 1 [.ref a_q1_lines_oneEnd, .ref a_q1_lines_otherEnd, .ref a_q1_lines_miles, .ref a_q1_lines_hours, .ref a_q1_lines_spikesSet, .int q1_lines_many, .int q1_lines_rateOfSet, .int q1_lines_rateOfOthers], ar E a_q1_lines_hours 30 q1_lines_hours, ar E a_q1_lines_oneEnd 30 q1_lines_oneEnd, ar E a_q1_lines_otherEnd 30 q1_lines_otherEnd, oo a_q1_plan 2 [.ref a_q1_plan_lineOf, .ref a_q1_plan_after, .ref a_q1_plan_hours, .ref a_q1_plan_gangs, .ref a_q1_plan_begins, .ref a_q1_plan_done, .int q1_plan_many], ar E a_q1_plan_begins 30 q1_plan_begins, ar E a_q1_plan_done 30 q1_plan_done]) (hS : va_S A s.heap H locs) (hl : lv_has ls 8 [(0, .ref a_t), (1, .ref a_q1), (3, .int v3), (4, .int v4)]), W p l e rmX0_travel s m args below meth c H locs 0 0 Q (F0 m 123 ls [])) (n : Nat) (v3 : Int32) (v5 : Int32) (t_first : Nat → Int32) (H : Heap) (locs : List Loc) (ls : Array Slot) (h : mX0_travel_L53 q1_lines_many q1_lines_hours q1_lines_oneEnd q1_lines_otherEnd q1_plan_begins q1_plan_done k123 n v3 v5 t_first = some out) (hP : va_P (kD E) vwCl [oo a_t 0 [.ref a_t_placeOf, .ref a_t_hourOf, .ref a_t_first, .int t_many], ar E a_t_first 16 t_first, ar E a_t_hourOf 30 t_hourOf, ar E a_t_placeOf 30 t_placeOf, oo a_q1 3 [.ref a_q1_lines, .ref a_q1_plan, .ref a_q1_draft], oo a_q1_lines 1 [.ref a_q1_lines_oneEnd, .ref a_q1_lines_otherEnd, .ref a_q1_lines_miles, .ref a_q1_lines_hours, .ref a_q1_lines_spikesSet, .int q1_lines_many, .int q1_lines_rateOfSet, .int q1_lines_rateOfOthers], ar E a_q1_lines_hours 30 q1_lines_hours, ar E a_q1_lines_oneEnd 30 q1_lines_oneEnd, ar E a_q1_lines_otherEnd 30 q1_lines_otherEnd, oo a_q1_plan 2 [.ref a_q1_plan_lineOf, .ref a_q1_plan_after, .ref a_q1_plan_hours, .ref a_q1_plan_gangs, .ref a_q1_plan_begins, .ref a_q1_plan_done, .int q1_plan_many], ar E a_q1_plan_begins 30 q1_plan_begins, ar E a_q1_plan_done 30 q1_plan_done] H) (hD : va_D A [oo a_t 0 [.ref a_t_placeOf, .ref a_t_hourOf, .ref a_t_first, .int t_many], ar E a_t_first 16 t_first, ar E a_t_hourOf 30 t_hourOf, ar E a_t_placeOf 30 t_placeOf, oo a_q1 3 [.ref a_q1_lines, .ref a_q1_plan, .ref a_q1_draft], oo a_q1_lines 1 [.ref a_q1_lines_oneEnd, .ref a_q1_lines_otherEnd, .ref a_q1_lines_miles, .ref a_q1_lines_hours, .ref a_q1_lines_spikesSet, .int q1_lines_many, .int q1_lines_rateOfSet, .int q1_lines_rateOfOthers], ar E a_q1_lines_hours 30 q1_lines_hours, ar E a_q1_lines_oneEnd 30 q1_lines_oneEnd, ar E a_q1_lines_otherEnd 30 q1_lines_otherEnd, oo a_q1_plan 2 [.ref a_q1_plan_lineOf, .ref a_q1_plan_after, .ref a_q1_plan_hours, .ref a_q1_plan_gangs, .ref a_q1_plan_begins, .ref a_q1_plan_done, .int q1_plan_many], ar E a_q1_plan_begins 30 q1_plan_begins, ar E a_q1_plan_done 30 q1_plan_done]) (hS : va_S A s.heap H locs) (hl : lv_has ls 8 [(0, .ref a_t), (1, .ref a_q1), (3, .int v3), (4, .int v4), (5, .int v5)]), W p l e rmX0_travel s m args below meth c H locs 0 0 Q (F0 m 53 ls []) := by
    intro v4 k123 hk123 n
    induction n with
    | zero =>
      intro v3 v5 t_first H locs ls h
      rw [mX0_travel_L53] at h
      cases h
    | succ n ih =>
      intro v3 v5 t_first H locs ls h hP hD hS hl
      rw [mX0_travel_L53] at h
      refine lv_iload hx hb dX0_travel_53 (lv_at hl 4 rfl) ?_
      refine lv_aload_n hx hb dX0_travel_55 rfl (lv_at hl 1 rfl) ?_
      refine va_getN (D := kD E) (cl := vwCl) (tys := kT E) (ci := 3) (v := .ref a_q1_lines) (C := RX3) (T := TX3) (N := 3) hx hb hts iX3 hown hK hP 4 rfl rfl 0 (by decide) (nwf_8 hE.2.1) (fun _ h9 => h9) rfl dX0_travel_56 ?_
      refine va_getN (D := kD E) (cl := vwCl) (tys := kT E) (ci := 1) (v := .int q1_lines_many) (C := RX1) (T := TX1) (N := 8) hx hb hts iX1 hown hK hP 5 rfl rfl 5 (by decide) (nwf_1 hE.2.1) (fun _ h9 => h9) rfl dX0_travel_59 ?_
      refine lv_icmp_ge (tgt := 123) hx hb dX0_travel_62 (by decide) (fun c_7 => ?_) (fun c_7 => ?_)
      · have h := (if_pos c_7).symm.trans h
        exact hk123 v3 t_first _ _ _ h hP hD hS (lv_sub hl [0, 1, 2, 3] rfl)
      · have h := (if_neg c_7).symm.trans h
        refine lv_aload_n hx hb dX0_travel_65 rfl (lv_at hl 1 rfl) ?_
        refine va_getN (D := kD E) (cl := vwCl) (tys := kT E) (ci := 3) (v := .ref a_q1_lines) (C := RX3) (T := TX3) (N := 3) hx hb hts iX3 hown hK hP 4 rfl rfl 0 (by decide) (nwf_8 hE.2.1) (fun _ h9 => h9) rfl dX0_travel_66 ?_
        refine lv_iload hx hb dX0_travel_69 (lv_at hl 4 rfl) ?_
        refine kciV (l := l) (E := E) (wc := [oo a_q1_lines 1 [.ref a_q1_lines_oneEnd, .ref a_q1_lines_otherEnd, .ref a_q1_lines_miles, .ref a_q1_lines_hours, .ref a_q1_lines_spikesSet, .int q1_lines_many, .int q1_lines_rateOfSet, .int q1_lines_rateOfOthers], ar E a_q1_lines_oneEnd 30 q1_lines_oneEnd]) (w1 := [oo a_q1_lines 1 [.ref a_q1_lines_oneEnd, .ref a_q1_lines_otherEnd, .ref a_q1_lines_miles, .ref a_q1_lines_hours, .ref a_q1_lines_spikesSet, .int q1_lines_many, .int q1_lines_rateOfSet, .int q1_lines_rateOfOthers], ar E a_q1_lines_oneEnd 30 q1_lines_oneEnd]) (w' := [oo a_t 0 [.ref a_t_placeOf, .ref a_t_hourOf, .ref a_t_first, .int t_many], ar E a_t_first 16 t_first, ar E a_t_hourOf 30 t_hourOf, ar E a_t_placeOf 30 t_placeOf, oo a_q1 3 [.ref a_q1_lines, .ref a_q1_plan, .ref a_q1_draft], oo a_q1_lines 1 [.ref a_q1_lines_oneEnd, .ref a_q1_lines_otherEnd, .ref a_q1_lines_miles, .ref a_q1_lines_hours, .ref a_q1_lines_spikesSet, .int q1_lines_many, .int q1_lines_rateOfSet, .int q1_lines_rateOfOthers], ar E a_q1_lines_hours 30 q1_lines_hours, ar E a_q1_lines_oneEnd 30 q1_lines_oneEnd, ar E a_q1_lines_otherEnd 30 q1_lines_otherEnd, oo a_q1_plan 2 [.ref a_q1_plan_lineOf, .ref a_q1_plan_after, .ref a_q1_plan_hours, .ref a_q1_plan_gangs, .ref a_q1_plan_begins, .ref a_q1_plan_done, .int q1_plan_many], ar E a_q1_plan_begins 30 q1_plan_begins, ar E a_q1_plan_done 30 q1_plan_done]) (ads := [a_q1_lines, a_q1_lines_oneEnd]) (r := (mX1_oneEndOf v5 q1_lines_oneEnd)) (As := [.int v5]) (rest := []) (kX1_oneEndOf l E rfl) ⟨hx, hb, hml, hown, hts⟩ (cwV 1 hts gX0_travel_X1_oneEndOf rfl rfl rfl (by decide +kernel) ⟨by decide, by decide⟩) hE hP hD hS hA [5, 7] (by decide) rfl rfl rfl rfl rfl rfl rfl rfl hl.1 rfl (Nat.le_of_ble_eq_true rfl) dX0_travel_71 ⟨Nat.zero_le _, Nat.zero_le _⟩ (fun H locs hP hD hS => ?_)
        refine lv_istore (lv' := [(6, .int (mX1_oneEndOf v5 q1_lines_oneEnd)), (0, .ref a_t), (1, .ref a_q1), (3, .int v3), (4, .int v4), (5, .int v5)]) hx hb dX0_travel_74 hl (by decide) rfl (fun ls hl => ?_)
        refine lv_aload_n hx hb dX0_travel_76 rfl (lv_at hl 2 rfl) ?_
        refine va_getN (D := kD E) (cl := vwCl) (tys := kT E) (ci := 3) (v := .ref a_q1_lines) (C := RX3) (T := TX3) (N := 3) hx hb hts iX3 hown hK hP 4 rfl rfl 0 (by decide) (nwf_8 hE.2.1) (fun _ h9 => h9) rfl dX0_travel_77 ?_
        refine lv_iload hx hb dX0_travel_80 (lv_at hl 5 rfl) ?_
        refine kciV (l := l) (E := E) (wc := [oo a_q1_lines 1 [.ref a_q1_lines_oneEnd, .ref a_q1_lines_otherEnd, .ref a_q1_lines_miles, .ref a_q1_lines_hours, .ref a_q1_lines_spikesSet, .int q1_lines_many, .int q1_lines_rateOfSet, .int q1_lines_rateOfOthers], ar E a_q1_lines_otherEnd 30 q1_lines_otherEnd]) (w1 := [oo a_q1_lines 1 [.ref a_q1_lines_oneEnd, .ref a_q1_lines_otherEnd, .ref a_q1_lines_miles, .ref a_q1_lines_hours, .ref a_q1_lines_spikesSet, .int q1_lines_many, .int q1_lines_rateOfSet, .int q1_lines_rateOfOthers], ar E a_q1_lines_otherEnd 30 q1_lines_otherEnd]) (w' := [oo a_t 0 [.ref a_t_placeOf, .ref a_t_hourOf, .ref a_t_first, .int t_many], ar E a_t_first 16 t_first, ar E a_t_hourOf 30 t_hourOf, ar E a_t_placeOf 30 t_placeOf, oo a_q1 3 [.ref a_q1_lines, .ref a_q1_plan, .ref a_q1_draft], oo a_q1_lines 1 [.ref a_q1_lines_oneEnd, .ref a_q1_lines_otherEnd, .ref a_q1_lines_miles, .ref a_q1_lines_hours, .ref a_q1_lines_spikesSet, .int q1_lines_many, .int q1_lines_rateOfSet, .int q1_lines_rateOfOthers], ar E a_q1_lines_hours 30 q1_lines_hours, ar E a_q1_lines_oneEnd 30 q1_lines_oneEnd, ar E a_q1_lines_otherEnd 30 q1_lines_otherEnd, oo a_q1_plan 2 [.ref a_q1_plan_lineOf, .ref a_q1_plan_after, .ref a_q1_plan_hours, .ref a_q1_plan_gangs, .ref a_q1_plan_begins, .ref a_q1_plan_done, .int q1_plan_many], ar E a_q1_plan_begins 30 q1_plan_begins, ar E a_q1_plan_done 30 q1_plan_done]) (ads := [a_q1_lines, a_q1_lines_otherEnd]) (r := (mX1_otherEndOf v5 q1_lines_otherEnd)) (As := [.int v5]) (rest := []) (kX1_otherEndOf l E rfl) ⟨hx, hb, hml, hown, hts⟩ (cwV 1 hts gX0_travel_X1_otherEndOf rfl rfl rfl (by decide +kernel) ⟨by decide, by decide⟩) hE hP hD hS hA [5, 8] (by decide) rfl rfl rfl rfl rfl rfl rfl rfl hl.1 rfl (Nat.le_of_ble_eq_true rfl) dX0_travel_82 ⟨Nat.zero_le _, Nat.zero_le _⟩ (fun H locs hP hD hS => ?_)
        refine lv_istore (lv' := [(7, .int (mX1_otherEndOf v5 q1_lines_otherEnd)), (6, .int (mX1_oneEndOf v5 q1_lines_oneEnd)), (0, .ref a_t), (1, .ref a_q1), (3, .int v3), (4, .int v4), (5, .int v5)]) hx hb dX0_travel_85 hl (by decide) rfl (fun ls hl => ?_)
        refine lv_aload_n hx hb dX0_travel_87 rfl (lv_at hl 2 rfl) ?_
        refine lv_aload_n hx hb dX0_travel_88 rfl (lv_at hl 3 rfl) ?_
        refine lv_iload hx hb dX0_travel_89 (lv_at hl 6 rfl) ?_
        refine lv_iload hx hb dX0_travel_91 (lv_at hl 1 rfl) ?_
        refine lv_iload hx hb dX0_travel_93 (lv_at hl 0 rfl) ?_
        obtain ⟨o10, hc10, h⟩ := kbind h
        refine kciV (l := l) (E := E) (wc := [oo a_t 0 [.ref a_t_placeOf, .ref a_t_hourOf, .ref a_t_first, .int t_many], ar E a_t_first 16 t_first, oo a_q1 3 [.ref a_q1_lines, .ref a_q1_plan, .ref a_q1_draft], oo a_q1_lines 1 [.ref a_q1_lines_oneEnd, .ref a_q1_lines_otherEnd, .ref a_q1_lines_miles, .ref a_q1_lines_hours, .ref a_q1_lines_spikesSet, .int q1_lines_many, .int q1_lines_rateOfSet, .int q1_lines_rateOfOthers], ar E a_q1_lines_hours 30 q1_lines_hours, oo a_q1_plan 2 [.ref a_q1_plan_lineOf, .ref a_q1_plan_after, .ref a_q1_plan_hours, .ref a_q1_plan_gangs, .ref a_q1_plan_begins, .ref a_q1_plan_done, .int q1_plan_many], ar E a_q1_plan_begins 30 q1_plan_begins, ar E a_q1_plan_done 30 q1_plan_done]) (w1 := [oo a_t 0 [.ref a_t_placeOf, .ref a_t_hourOf, .ref a_t_first, .int t_many], ar E a_t_first 16 o10.2, oo a_q1 3 [.ref a_q1_lines, .ref a_q1_plan, .ref a_q1_draft], oo a_q1_lines 1 [.ref a_q1_lines_oneEnd, .ref a_q1_lines_otherEnd, .ref a_q1_lines_miles, .ref a_q1_lines_hours, .ref a_q1_lines_spikesSet, .int q1_lines_many, .int q1_lines_rateOfSet, .int q1_lines_rateOfOthers], ar E a_q1_lines_hours 30 q1_lines_hours, oo a_q1_plan 2 [.ref a_q1_plan_lineOf, .ref a_q1_plan_after, .ref a_q1_plan_hours, .ref a_q1_plan_gangs, .ref a_q1_plan_begins, .ref a_q1_plan_done, .int q1_plan_many], ar E a_q1_plan_begins 30 q1_plan_begins, ar E a_q1_plan_done 30 q1_plan_done]) (w' := [oo a_t 0 [.ref a_t_placeOf, .ref a_t_hourOf, .ref a_t_first, .int t_many], ar E a_t_first 16 o10.2, ar E a_t_hourOf 30 t_hourOf, ar E a_t_placeOf 30 t_placeOf, oo a_q1 3 [.ref a_q1_lines, .ref a_q1_plan, .ref a_q1_draft], oo a_q1_lines 1 [.ref a_q1_lines_oneEnd, .ref a_q1_lines_otherEnd, .ref a_q1_lines_miles, .ref a_q1_lines_hours, .ref a_q1_lines_spikesSet, .int q1_lines_many, .int q1_lines_rateOfSet, .int q1_lines_rateOfOthers], ar E a_q1_lines_hours 30 q1_lines_hours, ar E a_q1_lines_oneEnd 30 q1_lines_oneEnd, ar E a_q1_lines_otherEnd 30 q1_lines_otherEnd, oo a_q1_plan 2 [.ref a_q1_plan_lineOf, .ref a_q1_plan_after, .ref a_q1_plan_hours, .ref a_q1_plan_gangs, .ref a_q1_plan_begins, .ref a_q1_plan_done, .int q1_plan_many], ar E a_q1_plan_begins 30 q1_plan_begins, ar E a_q1_plan_done 30 q1_plan_done]) (ads := [a_t, a_t_first, a_q1, a_q1_lines, a_q1_lines_hours, a_q1_plan, a_q1_plan_begins, a_q1_plan_done]) (r := o10.1) (As := [.ref a_q1, .int v5, .int (mX1_oneEndOf v5 q1_lines_oneEnd), .int (mX1_otherEndOf v5 q1_lines_otherEnd)]) (rest := []) (kX0_pass l E hc10) ⟨hx, hb, hml, hown, hts⟩ (cwV 4 hts gX0_travel_X0_pass rfl rfl rfl (by decide +kernel) ⟨by decide, by decide⟩) hE hP hD hS hA [0, 1, 4, 5, 6, 9, 10, 11] (by decide) rfl rfl rfl rfl rfl rfl rfl rfl hl.1 rfl (Nat.le_of_ble_eq_true rfl) dX0_travel_95 ⟨Nat.zero_le _, Nat.zero_le _⟩ (fun H locs hP hD hS => ?_)
        refine lv_if_ne (tgt := 115) hx hb dX0_travel_98 (by decide) (fun c_11 => ?_) (fun c_11 => ?_)
        · have h := (if_neg c_11).symm.trans h
          refine lv_iconst (v := (iI 1)) hx hb dX0_travel_115 (by decide) ?_
          refine lv_istore_n (lv' := [(3, .int (iI 1)), (7, .int (mX1_otherEndOf v5 q1_lines_otherEnd)), (6, .int (mX1_oneEndOf v5 q1_lines_oneEnd)), (0, .ref a_t), (1, .ref a_q1), (4, .int v4), (5, .int v5)]) hx hb dX0_travel_116 rfl hl (by decide) rfl (fun ls hl => ?_)
          refine lv_iinc (v := (v5 + (iI 1))) (lv' := [(5, .int (v5 + (iI 1))), (3, .int (iI 1)), (7, .int (mX1_otherEndOf v5 q1_lines_otherEnd)), (6, .int (mX1_oneEndOf v5 q1_lines_oneEnd)), (0, .ref a_t), (1, .ref a_q1), (4, .int v4)]) hx hb dX0_travel_117 hl (k := 6) rfl (kinc _ (by decide)) (by decide) rfl (fun ls hl => ?_)
          refine lv_goto (tgt := 53) hx hb dX0_travel_120 (by decide) ?_
          exact ih (iI 1) (v5 + (iI 1)) o10.2 _ _ _ h hP hD hS (lv_sub hl [4, 5, 1, 6, 0] rfl)
        · have h := (if_pos c_11).symm.trans h
          refine lv_aload_n hx hb dX0_travel_101 rfl (lv_at hl 2 rfl) ?_
          refine lv_aload_n hx hb dX0_travel_102 rfl (lv_at hl 3 rfl) ?_
          refine lv_iload hx hb dX0_travel_103 (lv_at hl 6 rfl) ?_
          refine lv_iload hx hb dX0_travel_105 (lv_at hl 0 rfl) ?_
          refine lv_iload hx hb dX0_travel_107 (lv_at hl 1 rfl) ?_
          obtain ⟨o12, hc12, h⟩ := kbind h
          refine kciV (l := l) (E := E) (wc := [oo a_t 0 [.ref a_t_placeOf, .ref a_t_hourOf, .ref a_t_first, .int t_many], ar E a_t_first 16 o10.2, oo a_q1 3 [.ref a_q1_lines, .ref a_q1_plan, .ref a_q1_draft], oo a_q1_lines 1 [.ref a_q1_lines_oneEnd, .ref a_q1_lines_otherEnd, .ref a_q1_lines_miles, .ref a_q1_lines_hours, .ref a_q1_lines_spikesSet, .int q1_lines_many, .int q1_lines_rateOfSet, .int q1_lines_rateOfOthers], ar E a_q1_lines_hours 30 q1_lines_hours, oo a_q1_plan 2 [.ref a_q1_plan_lineOf, .ref a_q1_plan_after, .ref a_q1_plan_hours, .ref a_q1_plan_gangs, .ref a_q1_plan_begins, .ref a_q1_plan_done, .int q1_plan_many], ar E a_q1_plan_begins 30 q1_plan_begins, ar E a_q1_plan_done 30 q1_plan_done]) (w1 := [oo a_t 0 [.ref a_t_placeOf, .ref a_t_hourOf, .ref a_t_first, .int t_many], ar E a_t_first 16 o12.2, oo a_q1 3 [.ref a_q1_lines, .ref a_q1_plan, .ref a_q1_draft], oo a_q1_lines 1 [.ref a_q1_lines_oneEnd, .ref a_q1_lines_otherEnd, .ref a_q1_lines_miles, .ref a_q1_lines_hours, .ref a_q1_lines_spikesSet, .int q1_lines_many, .int q1_lines_rateOfSet, .int q1_lines_rateOfOthers], ar E a_q1_lines_hours 30 q1_lines_hours, oo a_q1_plan 2 [.ref a_q1_plan_lineOf, .ref a_q1_plan_after, .ref a_q1_plan_hours, .ref a_q1_plan_gangs, .ref a_q1_plan_begins, .ref a_q1_plan_done, .int q1_plan_many], ar E a_q1_plan_begins 30 q1_plan_begins, ar E a_q1_plan_done 30 q1_plan_done]) (w' := [oo a_t 0 [.ref a_t_placeOf, .ref a_t_hourOf, .ref a_t_first, .int t_many], ar E a_t_first 16 o12.2, ar E a_t_hourOf 30 t_hourOf, ar E a_t_placeOf 30 t_placeOf, oo a_q1 3 [.ref a_q1_lines, .ref a_q1_plan, .ref a_q1_draft], oo a_q1_lines 1 [.ref a_q1_lines_oneEnd, .ref a_q1_lines_otherEnd, .ref a_q1_lines_miles, .ref a_q1_lines_hours, .ref a_q1_lines_spikesSet, .int q1_lines_many, .int q1_lines_rateOfSet, .int q1_lines_rateOfOthers], ar E a_q1_lines_hours 30 q1_lines_hours, ar E a_q1_lines_oneEnd 30 q1_lines_oneEnd, ar E a_q1_lines_otherEnd 30 q1_lines_otherEnd, oo a_q1_plan 2 [.ref a_q1_plan_lineOf, .ref a_q1_plan_after, .ref a_q1_plan_hours, .ref a_q1_plan_gangs, .ref a_q1_plan_begins, .ref a_q1_plan_done, .int q1_plan_many], ar E a_q1_plan_begins 30 q1_plan_begins, ar E a_q1_plan_done 30 q1_plan_done]) (ads := [a_t, a_t_first, a_q1, a_q1_lines, a_q1_lines_hours, a_q1_plan, a_q1_plan_begins, a_q1_plan_done]) (r := o12.1) (As := [.ref a_q1, .int v5, .int (mX1_otherEndOf v5 q1_lines_otherEnd), .int (mX1_oneEndOf v5 q1_lines_oneEnd)]) (rest := []) (kX0_pass l E hc12) ⟨hx, hb, hml, hown, hts⟩ (cwV 4 hts gX0_travel_X0_pass rfl rfl rfl (by decide +kernel) ⟨by decide, by decide⟩) hE hP hD hS hA [0, 1, 4, 5, 6, 9, 10, 11] (by decide) rfl rfl rfl rfl rfl rfl rfl rfl hl.1 rfl (Nat.le_of_ble_eq_true rfl) dX0_travel_109 ⟨Nat.zero_le _, Nat.zero_le _⟩ (fun H locs hP hD hS => ?_)
          refine lv_if_eq (tgt := 117) hx hb dX0_travel_112 (by decide) (fun c_13 => ?_) (fun c_13 => ?_)
          · have h := (if_pos c_13).symm.trans h
            refine lv_iinc (v := (v5 + (iI 1))) (lv' := [(5, .int (v5 + (iI 1))), (7, .int (mX1_otherEndOf v5 q1_lines_otherEnd)), (6, .int (mX1_oneEndOf v5 q1_lines_oneEnd)), (0, .ref a_t), (1, .ref a_q1), (3, .int v3), (4, .int v4)]) hx hb dX0_travel_117 hl (k := 6) rfl (kinc _ (by decide)) (by decide) rfl (fun ls hl => ?_)
            refine lv_goto (tgt := 53) hx hb dX0_travel_120 (by decide) ?_
            exact ih v3 (v5 + (iI 1)) o12.2 _ _ _ h hP hD hS (lv_sub hl [3, 4, 5, 6, 0] rfl)
          · have h := (if_neg c_13).symm.trans h
            refine lv_iconst (v := (iI 1)) hx hb dX0_travel_115 (by decide) ?_
            refine lv_istore_n (lv' := [(3, .int (iI 1)), (7, .int (mX1_otherEndOf v5 q1_lines_otherEnd)), (6, .int (mX1_oneEndOf v5 q1_lines_oneEnd)), (0, .ref a_t), (1, .ref a_q1), (4, .int v4), (5, .int v5)]) hx hb dX0_travel_116 rfl hl (by decide) rfl (fun ls hl => ?_)
            refine lv_iinc (v := (v5 + (iI 1))) (lv' := [(5, .int (v5 + (iI 1))), (3, .int (iI 1)), (7, .int (mX1_otherEndOf v5 q1_lines_otherEnd)), (6, .int (mX1_oneEndOf v5 q1_lines_oneEnd)), (0, .ref a_t), (1, .ref a_q1), (4, .int v4)]) hx hb dX0_travel_117 hl (k := 6) rfl (kinc _ (by decide)) (by decide) rfl (fun ls hl => ?_)
            refine lv_goto (tgt := 53) hx hb dX0_travel_120 (by decide) ?_
            exact ih (iI 1) (v5 + (iI 1)) o12.2 _ _ _ h hP hD hS (lv_sub hl [4, 5, 1, 6, 0] rfl)
  have L37 : ∀ (n : Nat) (v3 : Int32) (v4 : Int32) (t_first : Nat → Int32) (H : Heap) (locs : List Loc) (ls : Array Slot) (h : mX0_travel_L37 q1_lines_many q1_lines_hours q1_lines_oneEnd q1_lines_otherEnd q1_plan_begins q1_plan_done n v3 v4 t_first = some out) (hP : va_P (kD E) vwCl [oo a_t 0 [.ref a_t_placeOf, .ref a_t_hourOf, .ref a_t_first, .int t_many], ar E a_t_first 16 t_first, ar E a_t_hourOf 30 t_hourOf, ar E a_t_placeOf 30 t_placeOf, oo a_q1 3 [.ref a_q1_lines, .ref a_q1_plan, .ref a_q1_draft], oo a_q1_lines 1 [.ref a_q1_lines_oneEnd, .ref a_q1_lines_otherEnd, .ref a_q1_lines_miles, .ref a_q1_lines_hours, .ref a_q1_lines_spikesSet, .int q1_lines_many, .int q1_lines_rateOfSet, .int q1_lines_rateOfOthers], ar E a_q1_lines_hours 30 q1_lines_hours, ar E a_q1_lines_oneEnd 30 q1_lines_oneEnd, ar E a_q1_lines_otherEnd 30 q1_lines_otherEnd, oo a_q1_plan 2 [.ref a_q1_plan_lineOf, .ref a_q1_plan_after, .ref a_q1_plan_hours, .ref a_q1_plan_gangs, .ref a_q1_plan_begins, .ref a_q1_plan_done, .int q1_plan_many], ar E a_q1_plan_begins 30 q1_plan_begins, ar E a_q1_plan_done 30 q1_plan_done] H) (hD : va_D A [oo a_t 0 [.ref a_t_placeOf, .ref a_t_hourOf, .ref a_t_first, .int t_many], ar E a_t_first 16 t_first, ar E a_t_hourOf 30 t_hourOf, ar E a_t_placeOf 30 t_placeOf, oo a_q1 3 [.ref a_q1_lines, .ref a_q1_plan, .ref a_q1_draft], oo a_q1_lines 1 [.ref a_q1_lines_oneEnd, .ref a_q1_lines_otherEnd, .ref a_q1_lines_miles, .ref a_q1_lines_hours, .ref a_q1_lines_spikesSet, .int q1_lines_many, .int q1_lines_rateOfSet, .int q1_lines_rateOfOthers], ar E a_q1_lines_hours 30 q1_lines_hours, ar E a_q1_lines_oneEnd 30 q1_lines_oneEnd, ar E a_q1_lines_otherEnd 30 q1_lines_otherEnd, oo a_q1_plan 2 [.ref a_q1_plan_lineOf, .ref a_q1_plan_after, .ref a_q1_plan_hours, .ref a_q1_plan_gangs, .ref a_q1_plan_begins, .ref a_q1_plan_done, .int q1_plan_many], ar E a_q1_plan_begins 30 q1_plan_begins, ar E a_q1_plan_done 30 q1_plan_done]) (hS : va_S A s.heap H locs) (hl : lv_has ls 8 [(0, .ref a_t), (1, .ref a_q1), (3, .int v3), (4, .int v4)]), W p l e rmX0_travel s m args below meth c H locs 0 0 Q (F0 m 37 ls []) := by
    intro  n
    induction n with
    | zero =>
      intro v3 v4 t_first H locs ls h
      rw [mX0_travel_L37] at h
      cases h
    | succ n ih =>
      intro v3 v4 t_first H locs ls h hP hD hS hl
      rw [mX0_travel_L37] at h
      refine lv_iload hx hb dX0_travel_37 (lv_at hl 3 rfl) ?_
      refine lv_bipush (v := (iI 16)) hx hb dX0_travel_39 (by decide) ?_
      refine lv_icmp_ge (tgt := 129) hx hb dX0_travel_41 (by decide) (fun c_5 => ?_) (fun c_5 => ?_)
      · have h := (if_pos c_5).symm.trans h
        exact hret _ t_first _ _ _ (Option.some.inj h) hP hS dX0_travel_129
      · have h := (if_neg c_5).symm.trans h
        refine lv_iload_n hx hb dX0_travel_44 rfl (lv_at hl 2 rfl) ?_
        refine lv_if_eq (tgt := 129) hx hb dX0_travel_45 (by decide) (fun c_6 => ?_) (fun c_6 => ?_)
        · have h := (if_pos c_6).symm.trans h
          exact hret _ t_first _ _ _ (Option.some.inj h) hP hS dX0_travel_129
        · have h := (if_neg c_6).symm.trans h
          refine lv_iconst (v := (iI 0)) hx hb dX0_travel_48 (by decide) ?_
          refine lv_istore_n (lv' := [(3, .int (iI 0)), (0, .ref a_t), (1, .ref a_q1), (4, .int v4)]) hx hb dX0_travel_49 rfl hl (by decide) rfl (fun ls hl => ?_)
          refine lv_iconst (v := (iI 0)) hx hb dX0_travel_50 (by decide) ?_
          refine lv_istore (lv' := [(5, .int (iI 0)), (3, .int (iI 0)), (0, .ref a_t), (1, .ref a_q1), (4, .int v4)]) hx hb dX0_travel_51 hl (by decide) rfl (fun ls hl => ?_)
          refine L53 v4 _ ?_ _ (iI 0) (iI 0) t_first _ _ _ h hP hD hS (lv_sub hl [2, 3, 1, 4, 0] rfl)
          · intro v3_14 t_first_14 H locs ls h hP hD hS hl
            refine lv_iinc (v := (v4 + (iI 1))) (lv' := [(4, .int (v4 + (iI 1))), (0, .ref a_t), (1, .ref a_q1), (3, .int v3_14)]) hx hb dX0_travel_123 hl (k := 3) rfl (kinc _ (by decide)) (by decide) rfl (fun ls hl => ?_)
            refine lv_goto (tgt := 37) hx hb dX0_travel_126 (by decide) ?_
            exact ih v3_14 (v4 + (iI 1)) t_first_14 _ _ _ h hP hD hS (lv_sub hl [1, 2, 3, 0] rfl)
  rw [mX0_travel] at h
  refine lv_aload_n hx hb dX0_travel_0 rfl (lv_at hl 0 rfl) ?_
  refine va_get (D := kD E) (cl := vwCl) (tys := kT E) (ci := 0) (v := .ref a_t_first) (C := RX0) (T := TX0) (N := 4) hx hb hts iX0 hown hK hP 0 rfl rfl 2 (by decide) w1 (fun _ h9 => h9) rfl dX0_travel_1 ?_
  refine lv_ldc (v := (iI 1000000)) hx hb hown w2 dX0_travel_4 ?_
  obtain ⟨o1, hc1, h⟩ := kbind h
  refine kcvS (l := l) (E := E) (wc := [ar E a_t_first 16 t_first]) (w1 := [ar E a_t_first 16 o1]) (w' := [oo a_t 0 [.ref a_t_placeOf, .ref a_t_hourOf, .ref a_t_first, .int t_many], ar E a_t_first 16 o1, ar E a_t_hourOf 30 t_hourOf, ar E a_t_placeOf 30 t_placeOf, oo a_q1 3 [.ref a_q1_lines, .ref a_q1_plan, .ref a_q1_draft], oo a_q1_lines 1 [.ref a_q1_lines_oneEnd, .ref a_q1_lines_otherEnd, .ref a_q1_lines_miles, .ref a_q1_lines_hours, .ref a_q1_lines_spikesSet, .int q1_lines_many, .int q1_lines_rateOfSet, .int q1_lines_rateOfOthers], ar E a_q1_lines_hours 30 q1_lines_hours, ar E a_q1_lines_oneEnd 30 q1_lines_oneEnd, ar E a_q1_lines_otherEnd 30 q1_lines_otherEnd, oo a_q1_plan 2 [.ref a_q1_plan_lineOf, .ref a_q1_plan_after, .ref a_q1_plan_hours, .ref a_q1_plan_gangs, .ref a_q1_plan_begins, .ref a_q1_plan_done, .int q1_plan_many], ar E a_q1_plan_begins 30 q1_plan_begins, ar E a_q1_plan_done 30 q1_plan_done]) (ads := [a_t_first]) (As := [.ref a_t_first, .int (iI 1000000)]) (rest := []) (kJ7_fill_53178 l E (hn_q0 := (Nat.le_of_ble_eq_true rfl)) hc1) ⟨hx, hb, hml, hown, hts⟩ (va_cwS 2 hts gX0_travel_J7_fill_53178 rfl rfl rfl (by decide +kernel) ⟨by decide, by decide⟩) hE hP hD hS hA [1] (by decide) rfl rfl rfl rfl  rfl hl.1 rfl (Nat.le_of_ble_eq_true rfl) dX0_travel_6 ⟨Nat.zero_le _, Nat.zero_le _⟩ (fun H locs hP hD hS => ?_)
  refine lv_aload_n hx hb dX0_travel_9 rfl (lv_at hl 0 rfl) ?_
  refine va_get (D := kD E) (cl := vwCl) (tys := kT E) (ci := 0) (v := .ref a_t_first) (C := RX0) (T := TX0) (N := 4) hx hb hts iX0 hown hK hP 0 rfl rfl 2 (by decide) w1 (fun _ h9 => h9) rfl dX0_travel_10 ?_
  refine lv_aload_n hx hb dX0_travel_13 rfl (lv_at hl 0 rfl) ?_
  refine va_get (D := kD E) (cl := vwCl) (tys := kT E) (ci := 0) (v := .ref a_t_placeOf) (C := RX0) (T := TX0) (N := 4) hx hb hts iX0 hown hK hP 0 rfl rfl 0 (by decide) w3 (fun _ h9 => h9) rfl dX0_travel_14 ?_
  refine lv_iload_n hx hb dX0_travel_17 rfl (lv_at hl 2 rfl) ?_
  refine kciN (l := l) (E := E) (wc := [ar E a_t_placeOf 30 t_placeOf]) (w1 := [ar E a_t_placeOf 30 t_placeOf]) (w' := [oo a_t 0 [.ref a_t_placeOf, .ref a_t_hourOf, .ref a_t_first, .int t_many], ar E a_t_first 16 o1, ar E a_t_hourOf 30 t_hourOf, ar E a_t_placeOf 30 t_placeOf, oo a_q1 3 [.ref a_q1_lines, .ref a_q1_plan, .ref a_q1_draft], oo a_q1_lines 1 [.ref a_q1_lines_oneEnd, .ref a_q1_lines_otherEnd, .ref a_q1_lines_miles, .ref a_q1_lines_hours, .ref a_q1_lines_spikesSet, .int q1_lines_many, .int q1_lines_rateOfSet, .int q1_lines_rateOfOthers], ar E a_q1_lines_hours 30 q1_lines_hours, ar E a_q1_lines_oneEnd 30 q1_lines_oneEnd, ar E a_q1_lines_otherEnd 30 q1_lines_otherEnd, oo a_q1_plan 2 [.ref a_q1_plan_lineOf, .ref a_q1_plan_after, .ref a_q1_plan_hours, .ref a_q1_plan_gangs, .ref a_q1_plan_begins, .ref a_q1_plan_done, .int q1_plan_many], ar E a_q1_plan_begins 30 q1_plan_begins, ar E a_q1_plan_done 30 q1_plan_done]) (ads := [a_t_placeOf]) (r := (mX9_at 30 p2 t_placeOf)) (As := [.ref a_t_placeOf, .int p2]) (rest := [.ref a_t_first]) (kX9_at l E (hn_q0 := (Nat.le_of_ble_eq_true rfl)) rfl) ⟨hx, hb, hml, hown, hts⟩ ⟨va_cnB 2 hts gX0_travel_X9_at_n48 rfl rfl rfl (nwm_30 hE.2.1) w4 (by decide +kernel) ⟨by decide, by decide⟩, w5, trivial⟩ hE hP hD hS hA [3] (by decide) rfl rfl rfl rfl  rfl hl.1 rfl (Nat.le_of_ble_eq_true rfl) dX0_travel_18 ⟨Nat.zero_le _, Nat.zero_le _⟩ (fun H locs hP hD hS => ?_)
  refine lv_aload_n hx hb dX0_travel_21 rfl (lv_at hl 0 rfl) ?_
  refine va_get (D := kD E) (cl := vwCl) (tys := kT E) (ci := 0) (v := .ref a_t_hourOf) (C := RX0) (T := TX0) (N := 4) hx hb hts iX0 hown hK hP 0 rfl rfl 1 (by decide) w6 (fun _ h9 => h9) rfl dX0_travel_22 ?_
  refine lv_iload_n hx hb dX0_travel_25 rfl (lv_at hl 2 rfl) ?_
  refine kciN (l := l) (E := E) (wc := [ar E a_t_hourOf 30 t_hourOf]) (w1 := [ar E a_t_hourOf 30 t_hourOf]) (w' := [oo a_t 0 [.ref a_t_placeOf, .ref a_t_hourOf, .ref a_t_first, .int t_many], ar E a_t_first 16 o1, ar E a_t_hourOf 30 t_hourOf, ar E a_t_placeOf 30 t_placeOf, oo a_q1 3 [.ref a_q1_lines, .ref a_q1_plan, .ref a_q1_draft], oo a_q1_lines 1 [.ref a_q1_lines_oneEnd, .ref a_q1_lines_otherEnd, .ref a_q1_lines_miles, .ref a_q1_lines_hours, .ref a_q1_lines_spikesSet, .int q1_lines_many, .int q1_lines_rateOfSet, .int q1_lines_rateOfOthers], ar E a_q1_lines_hours 30 q1_lines_hours, ar E a_q1_lines_oneEnd 30 q1_lines_oneEnd, ar E a_q1_lines_otherEnd 30 q1_lines_otherEnd, oo a_q1_plan 2 [.ref a_q1_plan_lineOf, .ref a_q1_plan_after, .ref a_q1_plan_hours, .ref a_q1_plan_gangs, .ref a_q1_plan_begins, .ref a_q1_plan_done, .int q1_plan_many], ar E a_q1_plan_begins 30 q1_plan_begins, ar E a_q1_plan_done 30 q1_plan_done]) (ads := [a_t_hourOf]) (r := (mX9_at 30 p2 t_hourOf)) (As := [.ref a_t_hourOf, .int p2]) (rest := [.int (mX9_at 30 p2 t_placeOf), .ref a_t_first]) (kX9_at l E (hn_q0 := (Nat.le_of_ble_eq_true rfl)) rfl) ⟨hx, hb, hml, hown, hts⟩ ⟨va_cnB 2 hts gX0_travel_X9_at_n48 rfl rfl rfl (nwm_30 hE.2.1) w4 (by decide +kernel) ⟨by decide, by decide⟩, w5, trivial⟩ hE hP hD hS hA [2] (by decide) rfl rfl rfl rfl  rfl hl.1 rfl (Nat.le_of_ble_eq_true rfl) dX0_travel_26 ⟨Nat.zero_le _, Nat.zero_le _⟩ (fun H locs hP hD hS => ?_)
  refine kcvN (l := l) (E := E) (wc := [ar E a_t_first 16 o1]) (w1 := [ar E a_t_first 16 (mX9_put 16 (mX9_at 30 p2 t_placeOf) (mX9_at 30 p2 t_hourOf) o1)]) (w' := [oo a_t 0 [.ref a_t_placeOf, .ref a_t_hourOf, .ref a_t_first, .int t_many], ar E a_t_first 16 (mX9_put 16 (mX9_at 30 p2 t_placeOf) (mX9_at 30 p2 t_hourOf) o1), ar E a_t_hourOf 30 t_hourOf, ar E a_t_placeOf 30 t_placeOf, oo a_q1 3 [.ref a_q1_lines, .ref a_q1_plan, .ref a_q1_draft], oo a_q1_lines 1 [.ref a_q1_lines_oneEnd, .ref a_q1_lines_otherEnd, .ref a_q1_lines_miles, .ref a_q1_lines_hours, .ref a_q1_lines_spikesSet, .int q1_lines_many, .int q1_lines_rateOfSet, .int q1_lines_rateOfOthers], ar E a_q1_lines_hours 30 q1_lines_hours, ar E a_q1_lines_oneEnd 30 q1_lines_oneEnd, ar E a_q1_lines_otherEnd 30 q1_lines_otherEnd, oo a_q1_plan 2 [.ref a_q1_plan_lineOf, .ref a_q1_plan_after, .ref a_q1_plan_hours, .ref a_q1_plan_gangs, .ref a_q1_plan_begins, .ref a_q1_plan_done, .int q1_plan_many], ar E a_q1_plan_begins 30 q1_plan_begins, ar E a_q1_plan_done 30 q1_plan_done]) (ads := [a_t_first]) (As := [.ref a_t_first, .int (mX9_at 30 p2 t_placeOf), .int (mX9_at 30 p2 t_hourOf)]) (rest := []) (kX9_put l E (hn_q0 := (Nat.le_of_ble_eq_true rfl)) rfl) ⟨hx, hb, hml, hown, hts⟩ ⟨va_cnB 3 hts gX0_travel_X9_put_n32 rfl rfl rfl (nwm_29 hE.2.1) w4 (by decide +kernel) ⟨by decide, by decide⟩, w7, trivial⟩ hE hP hD hS hA [1] (by decide) rfl rfl rfl rfl  rfl hl.1 rfl (Nat.le_of_ble_eq_true rfl) dX0_travel_29 ⟨Nat.zero_le _, Nat.zero_le _⟩ (fun H locs hP hD hS => ?_)
  refine lv_iconst (v := (iI 1)) hx hb dX0_travel_32 (by decide) ?_
  refine lv_istore_n (lv' := [(3, .int (iI 1)), (0, .ref a_t), (1, .ref a_q1), (2, .int p2)]) hx hb dX0_travel_33 rfl hl (by decide) rfl (fun ls hl => ?_)
  refine lv_iconst (v := (iI 0)) hx hb dX0_travel_34 (by decide) ?_
  refine lv_istore (lv' := [(4, .int (iI 0)), (3, .int (iI 1)), (0, .ref a_t), (1, .ref a_q1), (2, .int p2)]) hx hb dX0_travel_35 hl (by decide) rfl (fun ls hl => ?_)
  exact L37 _ (iI 1) (iI 0) (mX9_put 16 (mX9_at 30 p2 t_placeOf) (mX9_at 30 p2 t_hourOf) o1) _ _ _ h hP hD hS (lv_sub hl [2, 3, 1, 0] rfl)
abbrev rmX0_firstHourIn : Room := { frames := 4, cells := 0, slots := 0, locals := 99 }
set_option maxHeartbeats 4000000 in
set_option maxRecDepth 100000 in
theorem kX0_firstHourIn (l : Launch) (E : KE) {a_t : Nat} {a_t_placeOf : Nat} {a_t_hourOf : Nat} {a_t_first : Nat} {a_q1 : Nat} {a_q1_lines : Nat} {a_q1_plan : Nat} {a_q1_draft : Nat} {a_q1_lines_oneEnd : Nat} {a_q1_lines_otherEnd : Nat} {a_q1_lines_miles : Nat} {a_q1_lines_hours : Nat} {a_q1_lines_spikesSet : Nat} {a_q1_plan_lineOf : Nat} {a_q1_plan_after : Nat} {a_q1_plan_hours : Nat} {a_q1_plan_gangs : Nat} {a_q1_plan_begins : Nat} {a_q1_plan_done : Nat} {p2 : Int32} {p3 : Int32} {t_many : Int32} {t_first : Nat → Int32} {t_hourOf : Nat → Int32} {t_placeOf : Nat → Int32} {q1_lines_many : Int32} {q1_lines_rateOfSet : Int32} {q1_lines_rateOfOthers : Int32} {q1_lines_hours : Nat → Int32} {q1_lines_oneEnd : Nat → Int32} {q1_lines_otherEnd : Nat → Int32} {q1_plan_many : Int32} {q1_plan_begins : Nat → Int32} {q1_plan_done : Nat → Int32} {out : Int32 × (Nat → Int32)} (h : mX0_firstHourIn p2 p3 t_many t_first t_hourOf t_placeOf q1_lines_many q1_lines_hours q1_lines_oneEnd q1_lines_otherEnd q1_plan_begins q1_plan_done = some out) : KI l E yX0_firstHourIn wsX0_firstHourIn rmX0_firstHourIn [.ref a_t, .ref a_q1, .int p2, .int p3] [oo a_t 0 [.ref a_t_placeOf, .ref a_t_hourOf, .ref a_t_first, .int t_many], ar E a_t_first 16 t_first, ar E a_t_hourOf 30 t_hourOf, ar E a_t_placeOf 30 t_placeOf, oo a_q1 3 [.ref a_q1_lines, .ref a_q1_plan, .ref a_q1_draft], oo a_q1_lines 1 [.ref a_q1_lines_oneEnd, .ref a_q1_lines_otherEnd, .ref a_q1_lines_miles, .ref a_q1_lines_hours, .ref a_q1_lines_spikesSet, .int q1_lines_many, .int q1_lines_rateOfSet, .int q1_lines_rateOfOthers], ar E a_q1_lines_hours 30 q1_lines_hours, ar E a_q1_lines_oneEnd 30 q1_lines_oneEnd, ar E a_q1_lines_otherEnd 30 q1_lines_otherEnd, oo a_q1_plan 2 [.ref a_q1_plan_lineOf, .ref a_q1_plan_after, .ref a_q1_plan_hours, .ref a_q1_plan_gangs, .ref a_q1_plan_begins, .ref a_q1_plan_done, .int q1_plan_many], ar E a_q1_plan_begins 30 q1_plan_begins, ar E a_q1_plan_done 30 q1_plan_done] [oo a_t 0 [.ref a_t_placeOf, .ref a_t_hourOf, .ref a_t_first, .int t_many], ar E a_t_first 16 out.2, ar E a_t_hourOf 30 t_hourOf, ar E a_t_placeOf 30 t_placeOf, oo a_q1 3 [.ref a_q1_lines, .ref a_q1_plan, .ref a_q1_draft], oo a_q1_lines 1 [.ref a_q1_lines_oneEnd, .ref a_q1_lines_otherEnd, .ref a_q1_lines_miles, .ref a_q1_lines_hours, .ref a_q1_lines_spikesSet, .int q1_lines_many, .int q1_lines_rateOfSet, .int q1_lines_rateOfOthers], ar E a_q1_lines_hours 30 q1_lines_hours, ar E a_q1_lines_oneEnd 30 q1_lines_oneEnd, ar E a_q1_lines_otherEnd 30 q1_lines_otherEnd, oo a_q1_plan 2 [.ref a_q1_plan_lineOf, .ref a_q1_plan_after, .ref a_q1_plan_hours, .ref a_q1_plan_gangs, .ref a_q1_plan_begins, .ref a_q1_plan_done, .int q1_plan_many], ar E a_q1_plan_begins 30 q1_plan_begins, ar E a_q1_plan_done 30 q1_plan_done] out.1 := by
  refine kmetI (T := Int32 × (Nat → Int32)) (out := out) (wf := (fun (o : Int32 × (Nat → Int32)) => [oo a_t 0 [.ref a_t_placeOf, .ref a_t_hourOf, .ref a_t_first, .int t_many], ar E a_t_first 16 o.2, ar E a_t_hourOf 30 t_hourOf, ar E a_t_placeOf 30 t_placeOf, oo a_q1 3 [.ref a_q1_lines, .ref a_q1_plan, .ref a_q1_draft], oo a_q1_lines 1 [.ref a_q1_lines_oneEnd, .ref a_q1_lines_otherEnd, .ref a_q1_lines_miles, .ref a_q1_lines_hours, .ref a_q1_lines_spikesSet, .int q1_lines_many, .int q1_lines_rateOfSet, .int q1_lines_rateOfOthers], ar E a_q1_lines_hours 30 q1_lines_hours, ar E a_q1_lines_oneEnd 30 q1_lines_oneEnd, ar E a_q1_lines_otherEnd 30 q1_lines_otherEnd, oo a_q1_plan 2 [.ref a_q1_plan_lineOf, .ref a_q1_plan_after, .ref a_q1_plan_hours, .ref a_q1_plan_gangs, .ref a_q1_plan_begins, .ref a_q1_plan_done, .int q1_plan_many], ar E a_q1_plan_begins 30 q1_plan_begins, ar E a_q1_plan_done 30 q1_plan_done])) (rf := (fun (o : Int32 × (Nat → Int32)) => o.1)) (cc := cX0_firstHourIn) (maxL := 4) (ty := .int) (by decide) rfl (Nat.le_of_ble_eq_true rfl) ?_
  intro p e s m args below meth c A Q ls hx hb hml hts hown hE hP hD hS hA hl hret
  have hown : s.vm.findClass RX0 = some m.cls := hown
  have hK := hE.1
  have hl : lv_has ls 4 [(0, .ref a_t), (1, .ref a_q1), (2, .int p2), (3, .int p3)] := hl
  have hP : va_P (kD E) vwCl [oo a_t 0 [.ref a_t_placeOf, .ref a_t_hourOf, .ref a_t_first, .int t_many], ar E a_t_first 16 t_first, ar E a_t_hourOf 30 t_hourOf, ar E a_t_placeOf 30 t_placeOf, oo a_q1 3 [.ref a_q1_lines, .ref a_q1_plan, .ref a_q1_draft], oo a_q1_lines 1 [.ref a_q1_lines_oneEnd, .ref a_q1_lines_otherEnd, .ref a_q1_lines_miles, .ref a_q1_lines_hours, .ref a_q1_lines_spikesSet, .int q1_lines_many, .int q1_lines_rateOfSet, .int q1_lines_rateOfOthers], ar E a_q1_lines_hours 30 q1_lines_hours, ar E a_q1_lines_oneEnd 30 q1_lines_oneEnd, ar E a_q1_lines_otherEnd 30 q1_lines_otherEnd, oo a_q1_plan 2 [.ref a_q1_plan_lineOf, .ref a_q1_plan_after, .ref a_q1_plan_hours, .ref a_q1_plan_gangs, .ref a_q1_plan_begins, .ref a_q1_plan_done, .int q1_plan_many], ar E a_q1_plan_begins 30 q1_plan_begins, ar E a_q1_plan_done 30 q1_plan_done] s.heap := hP
  have hD : va_D A [oo a_t 0 [.ref a_t_placeOf, .ref a_t_hourOf, .ref a_t_first, .int t_many], ar E a_t_first 16 t_first, ar E a_t_hourOf 30 t_hourOf, ar E a_t_placeOf 30 t_placeOf, oo a_q1 3 [.ref a_q1_lines, .ref a_q1_plan, .ref a_q1_draft], oo a_q1_lines 1 [.ref a_q1_lines_oneEnd, .ref a_q1_lines_otherEnd, .ref a_q1_lines_miles, .ref a_q1_lines_hours, .ref a_q1_lines_spikesSet, .int q1_lines_many, .int q1_lines_rateOfSet, .int q1_lines_rateOfOthers], ar E a_q1_lines_hours 30 q1_lines_hours, ar E a_q1_lines_oneEnd 30 q1_lines_oneEnd, ar E a_q1_lines_otherEnd 30 q1_lines_otherEnd, oo a_q1_plan 2 [.ref a_q1_plan_lineOf, .ref a_q1_plan_after, .ref a_q1_plan_hours, .ref a_q1_plan_gangs, .ref a_q1_plan_begins, .ref a_q1_plan_done, .int q1_plan_many], ar E a_q1_plan_begins 30 q1_plan_begins, ar E a_q1_plan_done 30 q1_plan_done] := hD
  have w0 := hts (.initialized RX9) (by decide +kernel)
  have w1 := hts (.static yX9_isPlace) (by decide +kernel)
  have w2 := hts (.constant RX0 47 1000000) (by decide +kernel)
  rw [mX0_firstHourIn] at h
  refine lv_aload_n hx hb dX0_firstHourIn_0 rfl (lv_at hl 0 rfl) ?_
  refine lv_iload_n hx hb dX0_firstHourIn_1 rfl (lv_at hl 2 rfl) ?_
  refine kciV (l := l) (E := E) (wc := [oo a_t 0 [.ref a_t_placeOf, .ref a_t_hourOf, .ref a_t_first, .int t_many]]) (w1 := [oo a_t 0 [.ref a_t_placeOf, .ref a_t_hourOf, .ref a_t_first, .int t_many]]) (w' := [oo a_t 0 [.ref a_t_placeOf, .ref a_t_hourOf, .ref a_t_first, .int t_many], ar E a_t_first 16 t_first, ar E a_t_hourOf 30 t_hourOf, ar E a_t_placeOf 30 t_placeOf, oo a_q1 3 [.ref a_q1_lines, .ref a_q1_plan, .ref a_q1_draft], oo a_q1_lines 1 [.ref a_q1_lines_oneEnd, .ref a_q1_lines_otherEnd, .ref a_q1_lines_miles, .ref a_q1_lines_hours, .ref a_q1_lines_spikesSet, .int q1_lines_many, .int q1_lines_rateOfSet, .int q1_lines_rateOfOthers], ar E a_q1_lines_hours 30 q1_lines_hours, ar E a_q1_lines_oneEnd 30 q1_lines_oneEnd, ar E a_q1_lines_otherEnd 30 q1_lines_otherEnd, oo a_q1_plan 2 [.ref a_q1_plan_lineOf, .ref a_q1_plan_after, .ref a_q1_plan_hours, .ref a_q1_plan_gangs, .ref a_q1_plan_begins, .ref a_q1_plan_done, .int q1_plan_many], ar E a_q1_plan_begins 30 q1_plan_begins, ar E a_q1_plan_done 30 q1_plan_done]) (ads := [a_t]) (r := (mX0_isThere p2 t_many)) (As := [.int p2]) (rest := []) (kX0_isThere l E rfl) ⟨hx, hb, hml, hown, hts⟩ (cwV 1 hts gX0_firstHourIn_X0_isThere rfl rfl rfl (by decide +kernel) ⟨by decide, by decide⟩) hE hP hD hS hA [0] (by decide) rfl rfl rfl rfl rfl rfl rfl rfl hl.1 rfl (Nat.le_of_ble_eq_true rfl) dX0_firstHourIn_2 ⟨Nat.zero_le _, Nat.zero_le _⟩ (fun H locs hP hD hS => ?_)
  refine lv_if_eq (tgt := 15) hx hb dX0_firstHourIn_5 (by decide) (fun c_2 => ?_) (fun c_2 => ?_)
  · have h := (if_pos c_2).symm.trans h
    refine lv_iconst (v := (iI (-1))) hx hb dX0_firstHourIn_15 (by decide) ?_
    exact hret _ _ ((iI (-1)), t_first) _ _ _ (Option.some.inj h) rfl rfl hP hS dX0_firstHourIn_16
  · have h := (if_neg c_2).symm.trans h
    refine lv_iload_n hx hb dX0_firstHourIn_8 rfl (lv_at hl 3 rfl) ?_
    refine kciN (l := l) (E := E) (wc := []) (w1 := []) (w' := [oo a_t 0 [.ref a_t_placeOf, .ref a_t_hourOf, .ref a_t_first, .int t_many], ar E a_t_first 16 t_first, ar E a_t_hourOf 30 t_hourOf, ar E a_t_placeOf 30 t_placeOf, oo a_q1 3 [.ref a_q1_lines, .ref a_q1_plan, .ref a_q1_draft], oo a_q1_lines 1 [.ref a_q1_lines_oneEnd, .ref a_q1_lines_otherEnd, .ref a_q1_lines_miles, .ref a_q1_lines_hours, .ref a_q1_lines_spikesSet, .int q1_lines_many, .int q1_lines_rateOfSet, .int q1_lines_rateOfOthers], ar E a_q1_lines_hours 30 q1_lines_hours, ar E a_q1_lines_oneEnd 30 q1_lines_oneEnd, ar E a_q1_lines_otherEnd 30 q1_lines_otherEnd, oo a_q1_plan 2 [.ref a_q1_plan_lineOf, .ref a_q1_plan_after, .ref a_q1_plan_hours, .ref a_q1_plan_gangs, .ref a_q1_plan_begins, .ref a_q1_plan_done, .int q1_plan_many], ar E a_q1_plan_begins 30 q1_plan_begins, ar E a_q1_plan_done 30 q1_plan_done]) (ads := []) (r := (mX9_isPlace p3)) (As := [.int p3]) (rest := []) (kX9_isPlace l E rfl) ⟨hx, hb, hml, hown, hts⟩ ⟨va_cnB 1 hts gX0_firstHourIn_X9_isPlace_n25 rfl rfl rfl (nwm_27 hE.2.1) w0 (by decide +kernel) ⟨by decide, by decide⟩, w1, trivial⟩ hE hP hD hS hA [] (by decide) rfl rfl rfl rfl  rfl hl.1 rfl (Nat.le_of_ble_eq_true rfl) dX0_firstHourIn_9 ⟨Nat.zero_le _, Nat.zero_le _⟩ (fun H locs hP hD hS => ?_)
    refine lv_if_ne (tgt := 17) hx hb dX0_firstHourIn_12 (by decide) (fun c_4 => ?_) (fun c_4 => ?_)
    · have h := (if_neg c_4).symm.trans h
      refine lv_aload_n hx hb dX0_firstHourIn_17 rfl (lv_at hl 0 rfl) ?_
      refine lv_aload_n hx hb dX0_firstHourIn_18 rfl (lv_at hl 1 rfl) ?_
      refine lv_iload_n hx hb dX0_firstHourIn_19 rfl (lv_at hl 2 rfl) ?_
      obtain ⟨o5, hc5, h⟩ := kbind h
      refine kcvV (l := l) (E := E) (wc := [oo a_t 0 [.ref a_t_placeOf, .ref a_t_hourOf, .ref a_t_first, .int t_many], ar E a_t_first 16 t_first, ar E a_t_hourOf 30 t_hourOf, ar E a_t_placeOf 30 t_placeOf, oo a_q1 3 [.ref a_q1_lines, .ref a_q1_plan, .ref a_q1_draft], oo a_q1_lines 1 [.ref a_q1_lines_oneEnd, .ref a_q1_lines_otherEnd, .ref a_q1_lines_miles, .ref a_q1_lines_hours, .ref a_q1_lines_spikesSet, .int q1_lines_many, .int q1_lines_rateOfSet, .int q1_lines_rateOfOthers], ar E a_q1_lines_hours 30 q1_lines_hours, ar E a_q1_lines_oneEnd 30 q1_lines_oneEnd, ar E a_q1_lines_otherEnd 30 q1_lines_otherEnd, oo a_q1_plan 2 [.ref a_q1_plan_lineOf, .ref a_q1_plan_after, .ref a_q1_plan_hours, .ref a_q1_plan_gangs, .ref a_q1_plan_begins, .ref a_q1_plan_done, .int q1_plan_many], ar E a_q1_plan_begins 30 q1_plan_begins, ar E a_q1_plan_done 30 q1_plan_done]) (w1 := [oo a_t 0 [.ref a_t_placeOf, .ref a_t_hourOf, .ref a_t_first, .int t_many], ar E a_t_first 16 o5, ar E a_t_hourOf 30 t_hourOf, ar E a_t_placeOf 30 t_placeOf, oo a_q1 3 [.ref a_q1_lines, .ref a_q1_plan, .ref a_q1_draft], oo a_q1_lines 1 [.ref a_q1_lines_oneEnd, .ref a_q1_lines_otherEnd, .ref a_q1_lines_miles, .ref a_q1_lines_hours, .ref a_q1_lines_spikesSet, .int q1_lines_many, .int q1_lines_rateOfSet, .int q1_lines_rateOfOthers], ar E a_q1_lines_hours 30 q1_lines_hours, ar E a_q1_lines_oneEnd 30 q1_lines_oneEnd, ar E a_q1_lines_otherEnd 30 q1_lines_otherEnd, oo a_q1_plan 2 [.ref a_q1_plan_lineOf, .ref a_q1_plan_after, .ref a_q1_plan_hours, .ref a_q1_plan_gangs, .ref a_q1_plan_begins, .ref a_q1_plan_done, .int q1_plan_many], ar E a_q1_plan_begins 30 q1_plan_begins, ar E a_q1_plan_done 30 q1_plan_done]) (w' := [oo a_t 0 [.ref a_t_placeOf, .ref a_t_hourOf, .ref a_t_first, .int t_many], ar E a_t_first 16 o5, ar E a_t_hourOf 30 t_hourOf, ar E a_t_placeOf 30 t_placeOf, oo a_q1 3 [.ref a_q1_lines, .ref a_q1_plan, .ref a_q1_draft], oo a_q1_lines 1 [.ref a_q1_lines_oneEnd, .ref a_q1_lines_otherEnd, .ref a_q1_lines_miles, .ref a_q1_lines_hours, .ref a_q1_lines_spikesSet, .int q1_lines_many, .int q1_lines_rateOfSet, .int q1_lines_rateOfOthers], ar E a_q1_lines_hours 30 q1_lines_hours, ar E a_q1_lines_oneEnd 30 q1_lines_oneEnd, ar E a_q1_lines_otherEnd 30 q1_lines_otherEnd, oo a_q1_plan 2 [.ref a_q1_plan_lineOf, .ref a_q1_plan_after, .ref a_q1_plan_hours, .ref a_q1_plan_gangs, .ref a_q1_plan_begins, .ref a_q1_plan_done, .int q1_plan_many], ar E a_q1_plan_begins 30 q1_plan_begins, ar E a_q1_plan_done 30 q1_plan_done]) (ads := [a_t, a_t_first, a_t_hourOf, a_t_placeOf, a_q1, a_q1_lines, a_q1_lines_hours, a_q1_lines_oneEnd, a_q1_lines_otherEnd, a_q1_plan, a_q1_plan_begins, a_q1_plan_done]) (As := [.ref a_q1, .int p2]) (rest := []) (kX0_travel l E hc5) ⟨hx, hb, hml, hown, hts⟩ (cwV 2 hts gX0_firstHourIn_X0_travel rfl rfl rfl (by decide +kernel) ⟨by decide, by decide⟩) hE hP hD hS hA [0, 1, 2, 3, 4, 5, 6, 7, 8, 9, 10, 11] (by decide) rfl rfl rfl rfl rfl rfl rfl rfl hl.1 rfl (Nat.le_of_ble_eq_true rfl) dX0_firstHourIn_20 ⟨Nat.zero_le _, Nat.zero_le _⟩ (fun H locs hP hD hS => ?_)
      refine lv_aload_n hx hb dX0_firstHourIn_23 rfl (lv_at hl 0 rfl) ?_
      refine lv_iload_n hx hb dX0_firstHourIn_24 rfl (lv_at hl 3 rfl) ?_
      refine kciV (l := l) (E := E) (wc := [oo a_t 0 [.ref a_t_placeOf, .ref a_t_hourOf, .ref a_t_first, .int t_many], ar E a_t_first 16 o5]) (w1 := [oo a_t 0 [.ref a_t_placeOf, .ref a_t_hourOf, .ref a_t_first, .int t_many], ar E a_t_first 16 o5]) (w' := [oo a_t 0 [.ref a_t_placeOf, .ref a_t_hourOf, .ref a_t_first, .int t_many], ar E a_t_first 16 o5, ar E a_t_hourOf 30 t_hourOf, ar E a_t_placeOf 30 t_placeOf, oo a_q1 3 [.ref a_q1_lines, .ref a_q1_plan, .ref a_q1_draft], oo a_q1_lines 1 [.ref a_q1_lines_oneEnd, .ref a_q1_lines_otherEnd, .ref a_q1_lines_miles, .ref a_q1_lines_hours, .ref a_q1_lines_spikesSet, .int q1_lines_many, .int q1_lines_rateOfSet, .int q1_lines_rateOfOthers], ar E a_q1_lines_hours 30 q1_lines_hours, ar E a_q1_lines_oneEnd 30 q1_lines_oneEnd, ar E a_q1_lines_otherEnd 30 q1_lines_otherEnd, oo a_q1_plan 2 [.ref a_q1_plan_lineOf, .ref a_q1_plan_after, .ref a_q1_plan_hours, .ref a_q1_plan_gangs, .ref a_q1_plan_begins, .ref a_q1_plan_done, .int q1_plan_many], ar E a_q1_plan_begins 30 q1_plan_begins, ar E a_q1_plan_done 30 q1_plan_done]) (ads := [a_t, a_t_first]) (r := (mX0_firstIn p3 o5)) (As := [.int p3]) (rest := []) (kX0_firstIn l E rfl) ⟨hx, hb, hml, hown, hts⟩ (cwV 1 hts gX0_firstHourIn_X0_firstIn rfl rfl rfl (by decide +kernel) ⟨by decide, by decide⟩) hE hP hD hS hA [0, 1] (by decide) rfl rfl rfl rfl rfl rfl rfl rfl hl.1 rfl (Nat.le_of_ble_eq_true rfl) dX0_firstHourIn_25 ⟨Nat.zero_le _, Nat.zero_le _⟩ (fun H locs hP hD hS => ?_)
      refine lv_ldc (v := (iI 1000000)) hx hb hown w2 dX0_firstHourIn_28 ?_
      refine lv_icmp_ne (tgt := 37) hx hb dX0_firstHourIn_30 (by decide) (fun c_7 => ?_) (fun c_7 => ?_)
      · have h := (if_neg c_7).symm.trans h
        refine lv_aload_n hx hb dX0_firstHourIn_37 rfl (lv_at hl 0 rfl) ?_
        refine lv_iload_n hx hb dX0_firstHourIn_38 rfl (lv_at hl 3 rfl) ?_
        refine kciV (l := l) (E := E) (wc := [oo a_t 0 [.ref a_t_placeOf, .ref a_t_hourOf, .ref a_t_first, .int t_many], ar E a_t_first 16 o5]) (w1 := [oo a_t 0 [.ref a_t_placeOf, .ref a_t_hourOf, .ref a_t_first, .int t_many], ar E a_t_first 16 o5]) (w' := [oo a_t 0 [.ref a_t_placeOf, .ref a_t_hourOf, .ref a_t_first, .int t_many], ar E a_t_first 16 o5, ar E a_t_hourOf 30 t_hourOf, ar E a_t_placeOf 30 t_placeOf, oo a_q1 3 [.ref a_q1_lines, .ref a_q1_plan, .ref a_q1_draft], oo a_q1_lines 1 [.ref a_q1_lines_oneEnd, .ref a_q1_lines_otherEnd, .ref a_q1_lines_miles, .ref a_q1_lines_hours, .ref a_q1_lines_spikesSet, .int q1_lines_many, .int q1_lines_rateOfSet, .int q1_lines_rateOfOthers], ar E a_q1_lines_hours 30 q1_lines_hours, ar E a_q1_lines_oneEnd 30 q1_lines_oneEnd, ar E a_q1_lines_otherEnd 30 q1_lines_otherEnd, oo a_q1_plan 2 [.ref a_q1_plan_lineOf, .ref a_q1_plan_after, .ref a_q1_plan_hours, .ref a_q1_plan_gangs, .ref a_q1_plan_begins, .ref a_q1_plan_done, .int q1_plan_many], ar E a_q1_plan_begins 30 q1_plan_begins, ar E a_q1_plan_done 30 q1_plan_done]) (ads := [a_t, a_t_first]) (r := (mX0_firstIn p3 o5)) (As := [.int p3]) (rest := []) (kX0_firstIn l E rfl) ⟨hx, hb, hml, hown, hts⟩ (cwV 1 hts gX0_firstHourIn_X0_firstIn rfl rfl rfl (by decide +kernel) ⟨by decide, by decide⟩) hE hP hD hS hA [0, 1] (by decide) rfl rfl rfl rfl rfl rfl rfl rfl hl.1 rfl (Nat.le_of_ble_eq_true rfl) dX0_firstHourIn_39 ⟨Nat.zero_le _, Nat.zero_le _⟩ (fun H locs hP hD hS => ?_)
        exact hret _ _ ((mX0_firstIn p3 o5), o5) _ _ _ (Option.some.inj h) rfl rfl hP hS dX0_firstHourIn_42
      · have h := (if_pos c_7).symm.trans h
        refine lv_iconst (v := (iI (-1))) hx hb dX0_firstHourIn_33 (by decide) ?_
        refine lv_goto (tgt := 42) hx hb dX0_firstHourIn_34 (by decide) ?_
        exact hret _ _ ((iI (-1)), o5) _ _ _ (Option.some.inj h) rfl rfl hP hS dX0_firstHourIn_42
    · have h := (if_pos c_4).symm.trans h
      refine lv_iconst (v := (iI (-1))) hx hb dX0_firstHourIn_15 (by decide) ?_
      exact hret _ _ ((iI (-1)), t_first) _ _ _ (Option.some.inj h) rfl rfl hP hS dX0_firstHourIn_16
abbrev rmX1_add : Room := { frames := 2, cells := 0, slots := 0, locals := 42 }
set_option maxHeartbeats 4000000 in
set_option maxRecDepth 100000 in
theorem kX1_add (l : Launch) (E : KE) {a_t : Nat} {a_t_oneEnd : Nat} {a_t_otherEnd : Nat} {a_t_miles : Nat} {a_t_hours : Nat} {a_t_spikesSet : Nat} {p1 : Int32} {p2 : Int32} {p3 : Int32} {p4 : Int32} {p5 : Int32} {t_many : Int32} {t_rateOfSet : Int32} {t_rateOfOthers : Int32} {t_hours : Nat → Int32} {t_miles : Nat → Int32} {t_oneEnd : Nat → Int32} {t_otherEnd : Nat → Int32} {t_spikesSet : Nat → Int32} {out : Int32 × Int32 × (Nat → Int32) × (Nat → Int32) × (Nat → Int32) × (Nat → Int32) × (Nat → Int32)} (h : mX1_add p1 p2 p3 p4 p5 t_many t_hours t_miles t_oneEnd t_otherEnd t_spikesSet = some out) : KI l E yX1_add wsX1_add rmX1_add [.ref a_t, .int p1, .int p2, .int p3, .int p4, .int p5] [oo a_t 1 [.ref a_t_oneEnd, .ref a_t_otherEnd, .ref a_t_miles, .ref a_t_hours, .ref a_t_spikesSet, .int t_many, .int t_rateOfSet, .int t_rateOfOthers], ar E a_t_hours 30 t_hours, ar E a_t_miles 30 t_miles, ar E a_t_oneEnd 30 t_oneEnd, ar E a_t_otherEnd 30 t_otherEnd, ar E a_t_spikesSet 30 t_spikesSet] [oo a_t 1 [.ref a_t_oneEnd, .ref a_t_otherEnd, .ref a_t_miles, .ref a_t_hours, .ref a_t_spikesSet, .int out.2.1, .int t_rateOfSet, .int t_rateOfOthers], ar E a_t_hours 30 out.2.2.1, ar E a_t_miles 30 out.2.2.2.1, ar E a_t_oneEnd 30 out.2.2.2.2.1, ar E a_t_otherEnd 30 out.2.2.2.2.2.1, ar E a_t_spikesSet 30 out.2.2.2.2.2.2] out.1 := by
  refine kmetI (T := Int32 × Int32 × (Nat → Int32) × (Nat → Int32) × (Nat → Int32) × (Nat → Int32) × (Nat → Int32)) (out := out) (wf := (fun (o : Int32 × Int32 × (Nat → Int32) × (Nat → Int32) × (Nat → Int32) × (Nat → Int32) × (Nat → Int32)) => [oo a_t 1 [.ref a_t_oneEnd, .ref a_t_otherEnd, .ref a_t_miles, .ref a_t_hours, .ref a_t_spikesSet, .int o.2.1, .int t_rateOfSet, .int t_rateOfOthers], ar E a_t_hours 30 o.2.2.1, ar E a_t_miles 30 o.2.2.2.1, ar E a_t_oneEnd 30 o.2.2.2.2.1, ar E a_t_otherEnd 30 o.2.2.2.2.2.1, ar E a_t_spikesSet 30 o.2.2.2.2.2.2])) (rf := (fun (o : Int32 × Int32 × (Nat → Int32) × (Nat → Int32) × (Nat → Int32) × (Nat → Int32) × (Nat → Int32)) => o.1)) (cc := cX1_add) (maxL := 6) (ty := .int) (by decide) rfl (Nat.le_of_ble_eq_true rfl) ?_
  intro p e s m args below meth c A Q ls hx hb hml hts hown hE hP hD hS hA hl hret
  have hown : s.vm.findClass RX1 = some m.cls := hown
  have hK := hE.1
  have hl : lv_has ls 6 [(0, .ref a_t), (1, .int p1), (2, .int p2), (3, .int p3), (4, .int p4), (5, .int p5)] := hl
  have hP : va_P (kD E) vwCl [oo a_t 1 [.ref a_t_oneEnd, .ref a_t_otherEnd, .ref a_t_miles, .ref a_t_hours, .ref a_t_spikesSet, .int t_many, .int t_rateOfSet, .int t_rateOfOthers], ar E a_t_hours 30 t_hours, ar E a_t_miles 30 t_miles, ar E a_t_oneEnd 30 t_oneEnd, ar E a_t_otherEnd 30 t_otherEnd, ar E a_t_spikesSet 30 t_spikesSet] s.heap := hP
  have hD : va_D A [oo a_t 1 [.ref a_t_oneEnd, .ref a_t_otherEnd, .ref a_t_miles, .ref a_t_hours, .ref a_t_spikesSet, .int t_many, .int t_rateOfSet, .int t_rateOfOthers], ar E a_t_hours 30 t_hours, ar E a_t_miles 30 t_miles, ar E a_t_oneEnd 30 t_oneEnd, ar E a_t_otherEnd 30 t_otherEnd, ar E a_t_spikesSet 30 t_spikesSet] := hD
  have w0 := hts (.initialized RX9) (by decide +kernel)
  have w1 := hts (.static yX9_isPlace) (by decide +kernel)
  have w2 := hts (.static yX9_isWithin) (by decide +kernel)
  have iX1 : ∀ w ∈ wsX10, w ∈ wsX1_add := by decide +kernel
  have w4 := hts (.fieldLink RX1 27 "GaugeWeekend$Lines" "many" "I") (by decide +kernel)
  have w5 := hts (.fieldLink RX1 9 "GaugeWeekend$Lines" "oneEnd" "[I") (by decide +kernel)
  have w6 := hts (.static yX9_put) (by decide +kernel)
  have w7 := hts (.fieldLink RX1 15 "GaugeWeekend$Lines" "otherEnd" "[I") (by decide +kernel)
  have w8 := hts (.fieldLink RX1 18 "GaugeWeekend$Lines" "miles" "[I") (by decide +kernel)
  have w9 := hts (.fieldLink RX1 21 "GaugeWeekend$Lines" "hours" "[I") (by decide +kernel)
  have w10 := hts (.fieldLink RX1 24 "GaugeWeekend$Lines" "spikesSet" "[I") (by decide +kernel)
  have J124 : ∀ (s1 : Int32) (s2 : Int32) (t_many : Int32) (t_hours : Nat → Int32) (t_miles : Nat → Int32) (t_oneEnd : Nat → Int32) (t_otherEnd : Nat → Int32) (t_spikesSet : Nat → Int32) (H : Heap) (locs : List Loc) (ls : Array Slot) (h : mX1_add_J124 s1 s2 t_many t_hours t_miles t_oneEnd t_otherEnd t_spikesSet = some out) (hP : va_P (kD E) vwCl [oo a_t 1 [.ref a_t_oneEnd, .ref a_t_otherEnd, .ref a_t_miles, .ref a_t_hours, .ref a_t_spikesSet, .int t_many, .int t_rateOfSet, .int t_rateOfOthers], ar E a_t_hours 30 t_hours, ar E a_t_miles 30 t_miles, ar E a_t_oneEnd 30 t_oneEnd, ar E a_t_otherEnd 30 t_otherEnd, ar E a_t_spikesSet 30 t_spikesSet] H) (hD : va_D A [oo a_t 1 [.ref a_t_oneEnd, .ref a_t_otherEnd, .ref a_t_miles, .ref a_t_hours, .ref a_t_spikesSet, .int t_many, .int t_rateOfSet, .int t_rateOfOthers], ar E a_t_hours 30 t_hours, ar E a_t_miles 30 t_miles, ar E a_t_oneEnd 30 t_oneEnd, ar E a_t_otherEnd 30 t_otherEnd, ar E a_t_spikesSet 30 t_spikesSet]) (hS : va_S A s.heap H locs) (hl : lv_has ls 6 [(0, .ref a_t)]), W p l e rmX1_add s m args below meth c H locs 0 0 Q (F0 m 124 ls [.int s2, .int s1, .ref a_t_spikesSet]) := by
    intro s1 s2 t_many t_hours t_miles t_oneEnd t_otherEnd t_spikesSet H locs ls h hP hD hS hl
    rw [mX1_add_J124] at h
    refine kcvN (l := l) (E := E) (wc := [ar E a_t_spikesSet 30 t_spikesSet]) (w1 := [ar E a_t_spikesSet 30 (mX9_put 30 s1 s2 t_spikesSet)]) (w' := [oo a_t 1 [.ref a_t_oneEnd, .ref a_t_otherEnd, .ref a_t_miles, .ref a_t_hours, .ref a_t_spikesSet, .int t_many, .int t_rateOfSet, .int t_rateOfOthers], ar E a_t_hours 30 t_hours, ar E a_t_miles 30 t_miles, ar E a_t_oneEnd 30 t_oneEnd, ar E a_t_otherEnd 30 t_otherEnd, ar E a_t_spikesSet 30 (mX9_put 30 s1 s2 t_spikesSet)]) (ads := [a_t_spikesSet]) (As := [.ref a_t_spikesSet, .int s1, .int s2]) (rest := []) (kX9_put l E (hn_q0 := (Nat.le_of_ble_eq_true rfl)) rfl) ⟨hx, hb, hml, hown, hts⟩ ⟨va_cnB 3 hts gX1_add_X9_put_n45 rfl rfl rfl (nwm_10 hE.2.1) w0 (by decide +kernel) ⟨by decide, by decide⟩, w6, trivial⟩ hE hP hD hS hA [5] (by decide) rfl rfl rfl rfl  rfl hl.1 rfl (Nat.le_of_ble_eq_true rfl) dX1_add_124 ⟨Nat.zero_le _, Nat.zero_le _⟩ (fun H locs hP hD hS => ?_)
    refine lv_aload_n hx hb dX1_add_127 rfl (lv_at hl 0 rfl) ?_
    refine lv_dup hx hb dX1_add_128 rfl ?_
    refine va_get (D := kD E) (cl := vwCl) (tys := kT E) (ci := 1) (v := .int t_many) (C := RX1) (T := TX1) (N := 8) hx hb hts iX1 hown hK hP 0 rfl rfl 5 (by decide) w4 (fun _ h9 => h9) rfl dX1_add_129 ?_
    refine lv_iconst (v := (iI 1)) hx hb dX1_add_132 (by decide) ?_
    refine lv_iadd hx hb dX1_add_133 ?_
    refine kput (w' := [oo a_t 1 [.ref a_t_oneEnd, .ref a_t_otherEnd, .ref a_t_miles, .ref a_t_hours, .ref a_t_spikesSet, .int (t_many + (iI 1)), .int t_rateOfSet, .int t_rateOfOthers], ar E a_t_hours 30 t_hours, ar E a_t_miles 30 t_miles, ar E a_t_oneEnd 30 t_oneEnd, ar E a_t_otherEnd 30 t_otherEnd, ar E a_t_spikesSet 30 (mX9_put 30 s1 s2 t_spikesSet)]) (E := E) (ci := 1) (v := .int (t_many + (iI 1))) (ty := .int) (C := RX1) (T := TX1) (N := 8) hx hb hts iX1 tyX1 tyX1_ok nmX1 hown hK hP hD hS 0 rfl rfl 5 (by decide) w4 (fun _ h9 => h9) rfl (tyX1_ok 5 (by decide)) rfl rfl (Nat.le_of_ble_eq_true rfl) rfl dX1_add_134 (fun H locs hP hD hS => ?_)
    refine lv_aload_n hx hb dX1_add_137 rfl (lv_at hl 0 rfl) ?_
    refine va_get (D := kD E) (cl := vwCl) (tys := kT E) (ci := 1) (v := .int (t_many + (iI 1))) (C := RX1) (T := TX1) (N := 8) hx hb hts iX1 hown hK hP 0 rfl rfl 5 (by decide) w4 (fun _ h9 => h9) rfl dX1_add_138 ?_
    refine lv_iconst (v := (iI 1)) hx hb dX1_add_141 (by decide) ?_
    refine lv_isub hx hb dX1_add_142 ?_
    exact hret _ _ (((t_many + (iI 1)) - (iI 1)), (t_many + (iI 1)), t_hours, t_miles, t_oneEnd, t_otherEnd, (mX9_put 30 s1 s2 t_spikesSet)) _ _ _ (Option.some.inj h) rfl rfl hP hS dX1_add_143
  rw [mX1_add] at h
  refine lv_iload_n hx hb dX1_add_0 rfl (lv_at hl 1 rfl) ?_
  refine kciN (l := l) (E := E) (wc := []) (w1 := []) (w' := [oo a_t 1 [.ref a_t_oneEnd, .ref a_t_otherEnd, .ref a_t_miles, .ref a_t_hours, .ref a_t_spikesSet, .int t_many, .int t_rateOfSet, .int t_rateOfOthers], ar E a_t_hours 30 t_hours, ar E a_t_miles 30 t_miles, ar E a_t_oneEnd 30 t_oneEnd, ar E a_t_otherEnd 30 t_otherEnd, ar E a_t_spikesSet 30 t_spikesSet]) (ads := []) (r := (mX9_isPlace p1)) (As := [.int p1]) (rest := []) (kX9_isPlace l E rfl) ⟨hx, hb, hml, hown, hts⟩ ⟨va_cnB 1 hts gX1_add_X9_isPlace_n37 rfl rfl rfl (nwm_8 hE.2.1) w0 (by decide +kernel) ⟨by decide, by decide⟩, w1, trivial⟩ hE hP hD hS hA [] (by decide) rfl rfl rfl rfl  rfl hl.1 rfl (Nat.le_of_ble_eq_true rfl) dX1_add_1 ⟨Nat.zero_le _, Nat.zero_le _⟩ (fun H locs hP hD hS => ?_)
  refine lv_if_eq (tgt := 19) hx hb dX1_add_4 (by decide) (fun c_2 => ?_) (fun c_2 => ?_)
  · have h := (if_pos c_2).symm.trans h
    refine lv_iconst (v := (iI (-1))) hx hb dX1_add_19 (by decide) ?_
    exact hret _ _ ((iI (-1)), t_many, t_hours, t_miles, t_oneEnd, t_otherEnd, t_spikesSet) _ _ _ (Option.some.inj h) rfl rfl hP hS dX1_add_20
  · have h := (if_neg c_2).symm.trans h
    refine lv_iload_n hx hb dX1_add_7 rfl (lv_at hl 2 rfl) ?_
    refine kciN (l := l) (E := E) (wc := []) (w1 := []) (w' := [oo a_t 1 [.ref a_t_oneEnd, .ref a_t_otherEnd, .ref a_t_miles, .ref a_t_hours, .ref a_t_spikesSet, .int t_many, .int t_rateOfSet, .int t_rateOfOthers], ar E a_t_hours 30 t_hours, ar E a_t_miles 30 t_miles, ar E a_t_oneEnd 30 t_oneEnd, ar E a_t_otherEnd 30 t_otherEnd, ar E a_t_spikesSet 30 t_spikesSet]) (ads := []) (r := (mX9_isPlace p2)) (As := [.int p2]) (rest := []) (kX9_isPlace l E rfl) ⟨hx, hb, hml, hown, hts⟩ ⟨va_cnB 1 hts gX1_add_X9_isPlace_n37 rfl rfl rfl (nwm_8 hE.2.1) w0 (by decide +kernel) ⟨by decide, by decide⟩, w1, trivial⟩ hE hP hD hS hA [] (by decide) rfl rfl rfl rfl  rfl hl.1 rfl (Nat.le_of_ble_eq_true rfl) dX1_add_8 ⟨Nat.zero_le _, Nat.zero_le _⟩ (fun H locs hP hD hS => ?_)
    refine lv_if_eq (tgt := 19) hx hb dX1_add_11 (by decide) (fun c_4 => ?_) (fun c_4 => ?_)
    · have h := (if_pos c_4).symm.trans h
      refine lv_iconst (v := (iI (-1))) hx hb dX1_add_19 (by decide) ?_
      exact hret _ _ ((iI (-1)), t_many, t_hours, t_miles, t_oneEnd, t_otherEnd, t_spikesSet) _ _ _ (Option.some.inj h) rfl rfl hP hS dX1_add_20
    · have h := (if_neg c_4).symm.trans h
      refine lv_iload_n hx hb dX1_add_14 rfl (lv_at hl 1 rfl) ?_
      refine lv_iload_n hx hb dX1_add_15 rfl (lv_at hl 2 rfl) ?_
      refine lv_icmp_ne (tgt := 21) hx hb dX1_add_16 (by decide) (fun c_5 => ?_) (fun c_5 => ?_)
      · have h := (if_neg c_5).symm.trans h
        refine lv_iload_n hx hb dX1_add_21 rfl (lv_at hl 3 rfl) ?_
        refine lv_iconst (v := (iI 1)) hx hb dX1_add_22 (by decide) ?_
        refine lv_sipush (v := (iI 200)) hx hb dX1_add_23 (by decide) ?_
        refine kciN (l := l) (E := E) (wc := []) (w1 := []) (w' := [oo a_t 1 [.ref a_t_oneEnd, .ref a_t_otherEnd, .ref a_t_miles, .ref a_t_hours, .ref a_t_spikesSet, .int t_many, .int t_rateOfSet, .int t_rateOfOthers], ar E a_t_hours 30 t_hours, ar E a_t_miles 30 t_miles, ar E a_t_oneEnd 30 t_oneEnd, ar E a_t_otherEnd 30 t_otherEnd, ar E a_t_spikesSet 30 t_spikesSet]) (ads := []) (r := (mX9_isWithin p3 (iI 1) (iI 200))) (As := [.int p3, .int (iI 1), .int (iI 200)]) (rest := []) (kX9_isWithin l E rfl) ⟨hx, hb, hml, hown, hts⟩ ⟨va_cnB 3 hts gX1_add_X9_isWithin_n41 rfl rfl rfl (nwm_9 hE.2.1) w0 (by decide +kernel) ⟨by decide, by decide⟩, w2, trivial⟩ hE hP hD hS hA [] (by decide) rfl rfl rfl rfl  rfl hl.1 rfl (Nat.le_of_ble_eq_true rfl) dX1_add_26 ⟨Nat.zero_le _, Nat.zero_le _⟩ (fun H locs hP hD hS => ?_)
        refine lv_if_eq (tgt := 43) hx hb dX1_add_29 (by decide) (fun c_7 => ?_) (fun c_7 => ?_)
        · have h := (if_pos c_7).symm.trans h
          refine lv_iconst (v := (iI (-1))) hx hb dX1_add_43 (by decide) ?_
          exact hret _ _ ((iI (-1)), t_many, t_hours, t_miles, t_oneEnd, t_otherEnd, t_spikesSet) _ _ _ (Option.some.inj h) rfl rfl hP hS dX1_add_44
        · have h := (if_neg c_7).symm.trans h
          refine lv_iload hx hb dX1_add_32 (lv_at hl 4 rfl) ?_
          refine lv_iconst (v := (iI 1)) hx hb dX1_add_34 (by decide) ?_
          refine lv_bipush (v := (iI 12)) hx hb dX1_add_35 (by decide) ?_
          refine kciN (l := l) (E := E) (wc := []) (w1 := []) (w' := [oo a_t 1 [.ref a_t_oneEnd, .ref a_t_otherEnd, .ref a_t_miles, .ref a_t_hours, .ref a_t_spikesSet, .int t_many, .int t_rateOfSet, .int t_rateOfOthers], ar E a_t_hours 30 t_hours, ar E a_t_miles 30 t_miles, ar E a_t_oneEnd 30 t_oneEnd, ar E a_t_otherEnd 30 t_otherEnd, ar E a_t_spikesSet 30 t_spikesSet]) (ads := []) (r := (mX9_isWithin p4 (iI 1) (iI 12))) (As := [.int p4, .int (iI 1), .int (iI 12)]) (rest := []) (kX9_isWithin l E rfl) ⟨hx, hb, hml, hown, hts⟩ ⟨va_cnB 3 hts gX1_add_X9_isWithin_n41 rfl rfl rfl (nwm_9 hE.2.1) w0 (by decide +kernel) ⟨by decide, by decide⟩, w2, trivial⟩ hE hP hD hS hA [] (by decide) rfl rfl rfl rfl  rfl hl.1 rfl (Nat.le_of_ble_eq_true rfl) dX1_add_37 ⟨Nat.zero_le _, Nat.zero_le _⟩ (fun H locs hP hD hS => ?_)
          refine lv_if_ne (tgt := 45) hx hb dX1_add_40 (by decide) (fun c_9 => ?_) (fun c_9 => ?_)
          · have h := (if_neg c_9).symm.trans h
            refine lv_aload_n hx hb dX1_add_45 rfl (lv_at hl 0 rfl) ?_
            refine va_get (D := kD E) (cl := vwCl) (tys := kT E) (ci := 1) (v := .int t_many) (C := RX1) (T := TX1) (N := 8) hx hb hts iX1 hown hK hP 0 rfl rfl 5 (by decide) w4 (fun _ h9 => h9) rfl dX1_add_46 ?_
            refine lv_bipush (v := (iI 30)) hx hb dX1_add_49 (by decide) ?_
            refine lv_icmp_lt (tgt := 57) hx hb dX1_add_51 (by decide) (fun c_10 => ?_) (fun c_10 => ?_)
            · have h := (if_pos c_10).symm.trans h
              refine lv_aload_n hx hb dX1_add_57 rfl (lv_at hl 0 rfl) ?_
              refine va_get (D := kD E) (cl := vwCl) (tys := kT E) (ci := 1) (v := .ref a_t_oneEnd) (C := RX1) (T := TX1) (N := 8) hx hb hts iX1 hown hK hP 0 rfl rfl 0 (by decide) w5 (fun _ h9 => h9) rfl dX1_add_58 ?_
              refine lv_aload_n hx hb dX1_add_61 rfl (lv_at hl 0 rfl) ?_
              refine va_get (D := kD E) (cl := vwCl) (tys := kT E) (ci := 1) (v := .int t_many) (C := RX1) (T := TX1) (N := 8) hx hb hts iX1 hown hK hP 0 rfl rfl 5 (by decide) w4 (fun _ h9 => h9) rfl dX1_add_62 ?_
              refine lv_iload_n hx hb dX1_add_65 rfl (lv_at hl 1 rfl) ?_
              refine kcvN (l := l) (E := E) (wc := [ar E a_t_oneEnd 30 t_oneEnd]) (w1 := [ar E a_t_oneEnd 30 (mX9_put 30 t_many p1 t_oneEnd)]) (w' := [oo a_t 1 [.ref a_t_oneEnd, .ref a_t_otherEnd, .ref a_t_miles, .ref a_t_hours, .ref a_t_spikesSet, .int t_many, .int t_rateOfSet, .int t_rateOfOthers], ar E a_t_hours 30 t_hours, ar E a_t_miles 30 t_miles, ar E a_t_oneEnd 30 (mX9_put 30 t_many p1 t_oneEnd), ar E a_t_otherEnd 30 t_otherEnd, ar E a_t_spikesSet 30 t_spikesSet]) (ads := [a_t_oneEnd]) (As := [.ref a_t_oneEnd, .int t_many, .int p1]) (rest := []) (kX9_put l E (hn_q0 := (Nat.le_of_ble_eq_true rfl)) rfl) ⟨hx, hb, hml, hown, hts⟩ ⟨va_cnB 3 hts gX1_add_X9_put_n45 rfl rfl rfl (nwm_10 hE.2.1) w0 (by decide +kernel) ⟨by decide, by decide⟩, w6, trivial⟩ hE hP hD hS hA [3] (by decide) rfl rfl rfl rfl  rfl hl.1 rfl (Nat.le_of_ble_eq_true rfl) dX1_add_66 ⟨Nat.zero_le _, Nat.zero_le _⟩ (fun H locs hP hD hS => ?_)
              refine lv_aload_n hx hb dX1_add_69 rfl (lv_at hl 0 rfl) ?_
              refine va_get (D := kD E) (cl := vwCl) (tys := kT E) (ci := 1) (v := .ref a_t_otherEnd) (C := RX1) (T := TX1) (N := 8) hx hb hts iX1 hown hK hP 0 rfl rfl 1 (by decide) w7 (fun _ h9 => h9) rfl dX1_add_70 ?_
              refine lv_aload_n hx hb dX1_add_73 rfl (lv_at hl 0 rfl) ?_
              refine va_get (D := kD E) (cl := vwCl) (tys := kT E) (ci := 1) (v := .int t_many) (C := RX1) (T := TX1) (N := 8) hx hb hts iX1 hown hK hP 0 rfl rfl 5 (by decide) w4 (fun _ h9 => h9) rfl dX1_add_74 ?_
              refine lv_iload_n hx hb dX1_add_77 rfl (lv_at hl 2 rfl) ?_
              refine kcvN (l := l) (E := E) (wc := [ar E a_t_otherEnd 30 t_otherEnd]) (w1 := [ar E a_t_otherEnd 30 (mX9_put 30 t_many p2 t_otherEnd)]) (w' := [oo a_t 1 [.ref a_t_oneEnd, .ref a_t_otherEnd, .ref a_t_miles, .ref a_t_hours, .ref a_t_spikesSet, .int t_many, .int t_rateOfSet, .int t_rateOfOthers], ar E a_t_hours 30 t_hours, ar E a_t_miles 30 t_miles, ar E a_t_oneEnd 30 (mX9_put 30 t_many p1 t_oneEnd), ar E a_t_otherEnd 30 (mX9_put 30 t_many p2 t_otherEnd), ar E a_t_spikesSet 30 t_spikesSet]) (ads := [a_t_otherEnd]) (As := [.ref a_t_otherEnd, .int t_many, .int p2]) (rest := []) (kX9_put l E (hn_q0 := (Nat.le_of_ble_eq_true rfl)) rfl) ⟨hx, hb, hml, hown, hts⟩ ⟨va_cnB 3 hts gX1_add_X9_put_n45 rfl rfl rfl (nwm_10 hE.2.1) w0 (by decide +kernel) ⟨by decide, by decide⟩, w6, trivial⟩ hE hP hD hS hA [4] (by decide) rfl rfl rfl rfl  rfl hl.1 rfl (Nat.le_of_ble_eq_true rfl) dX1_add_78 ⟨Nat.zero_le _, Nat.zero_le _⟩ (fun H locs hP hD hS => ?_)
              refine lv_aload_n hx hb dX1_add_81 rfl (lv_at hl 0 rfl) ?_
              refine va_get (D := kD E) (cl := vwCl) (tys := kT E) (ci := 1) (v := .ref a_t_miles) (C := RX1) (T := TX1) (N := 8) hx hb hts iX1 hown hK hP 0 rfl rfl 2 (by decide) w8 (fun _ h9 => h9) rfl dX1_add_82 ?_
              refine lv_aload_n hx hb dX1_add_85 rfl (lv_at hl 0 rfl) ?_
              refine va_get (D := kD E) (cl := vwCl) (tys := kT E) (ci := 1) (v := .int t_many) (C := RX1) (T := TX1) (N := 8) hx hb hts iX1 hown hK hP 0 rfl rfl 5 (by decide) w4 (fun _ h9 => h9) rfl dX1_add_86 ?_
              refine lv_iload_n hx hb dX1_add_89 rfl (lv_at hl 3 rfl) ?_
              refine kcvN (l := l) (E := E) (wc := [ar E a_t_miles 30 t_miles]) (w1 := [ar E a_t_miles 30 (mX9_put 30 t_many p3 t_miles)]) (w' := [oo a_t 1 [.ref a_t_oneEnd, .ref a_t_otherEnd, .ref a_t_miles, .ref a_t_hours, .ref a_t_spikesSet, .int t_many, .int t_rateOfSet, .int t_rateOfOthers], ar E a_t_hours 30 t_hours, ar E a_t_miles 30 (mX9_put 30 t_many p3 t_miles), ar E a_t_oneEnd 30 (mX9_put 30 t_many p1 t_oneEnd), ar E a_t_otherEnd 30 (mX9_put 30 t_many p2 t_otherEnd), ar E a_t_spikesSet 30 t_spikesSet]) (ads := [a_t_miles]) (As := [.ref a_t_miles, .int t_many, .int p3]) (rest := []) (kX9_put l E (hn_q0 := (Nat.le_of_ble_eq_true rfl)) rfl) ⟨hx, hb, hml, hown, hts⟩ ⟨va_cnB 3 hts gX1_add_X9_put_n45 rfl rfl rfl (nwm_10 hE.2.1) w0 (by decide +kernel) ⟨by decide, by decide⟩, w6, trivial⟩ hE hP hD hS hA [2] (by decide) rfl rfl rfl rfl  rfl hl.1 rfl (Nat.le_of_ble_eq_true rfl) dX1_add_90 ⟨Nat.zero_le _, Nat.zero_le _⟩ (fun H locs hP hD hS => ?_)
              refine lv_aload_n hx hb dX1_add_93 rfl (lv_at hl 0 rfl) ?_
              refine va_get (D := kD E) (cl := vwCl) (tys := kT E) (ci := 1) (v := .ref a_t_hours) (C := RX1) (T := TX1) (N := 8) hx hb hts iX1 hown hK hP 0 rfl rfl 3 (by decide) w9 (fun _ h9 => h9) rfl dX1_add_94 ?_
              refine lv_aload_n hx hb dX1_add_97 rfl (lv_at hl 0 rfl) ?_
              refine va_get (D := kD E) (cl := vwCl) (tys := kT E) (ci := 1) (v := .int t_many) (C := RX1) (T := TX1) (N := 8) hx hb hts iX1 hown hK hP 0 rfl rfl 5 (by decide) w4 (fun _ h9 => h9) rfl dX1_add_98 ?_
              refine lv_iload hx hb dX1_add_101 (lv_at hl 4 rfl) ?_
              refine kcvN (l := l) (E := E) (wc := [ar E a_t_hours 30 t_hours]) (w1 := [ar E a_t_hours 30 (mX9_put 30 t_many p4 t_hours)]) (w' := [oo a_t 1 [.ref a_t_oneEnd, .ref a_t_otherEnd, .ref a_t_miles, .ref a_t_hours, .ref a_t_spikesSet, .int t_many, .int t_rateOfSet, .int t_rateOfOthers], ar E a_t_hours 30 (mX9_put 30 t_many p4 t_hours), ar E a_t_miles 30 (mX9_put 30 t_many p3 t_miles), ar E a_t_oneEnd 30 (mX9_put 30 t_many p1 t_oneEnd), ar E a_t_otherEnd 30 (mX9_put 30 t_many p2 t_otherEnd), ar E a_t_spikesSet 30 t_spikesSet]) (ads := [a_t_hours]) (As := [.ref a_t_hours, .int t_many, .int p4]) (rest := []) (kX9_put l E (hn_q0 := (Nat.le_of_ble_eq_true rfl)) rfl) ⟨hx, hb, hml, hown, hts⟩ ⟨va_cnB 3 hts gX1_add_X9_put_n45 rfl rfl rfl (nwm_10 hE.2.1) w0 (by decide +kernel) ⟨by decide, by decide⟩, w6, trivial⟩ hE hP hD hS hA [1] (by decide) rfl rfl rfl rfl  rfl hl.1 rfl (Nat.le_of_ble_eq_true rfl) dX1_add_103 ⟨Nat.zero_le _, Nat.zero_le _⟩ (fun H locs hP hD hS => ?_)
              refine lv_aload_n hx hb dX1_add_106 rfl (lv_at hl 0 rfl) ?_
              refine va_get (D := kD E) (cl := vwCl) (tys := kT E) (ci := 1) (v := .ref a_t_spikesSet) (C := RX1) (T := TX1) (N := 8) hx hb hts iX1 hown hK hP 0 rfl rfl 4 (by decide) w10 (fun _ h9 => h9) rfl dX1_add_107 ?_
              refine lv_aload_n hx hb dX1_add_110 rfl (lv_at hl 0 rfl) ?_
              refine va_get (D := kD E) (cl := vwCl) (tys := kT E) (ci := 1) (v := .int t_many) (C := RX1) (T := TX1) (N := 8) hx hb hts iX1 hown hK hP 0 rfl rfl 5 (by decide) w4 (fun _ h9 => h9) rfl dX1_add_111 ?_
              refine lv_iload hx hb dX1_add_114 (lv_at hl 5 rfl) ?_
              refine lv_if_eq (tgt := 123) hx hb dX1_add_116 (by decide) (fun c_15 => ?_) (fun c_15 => ?_)
              · have h := (if_pos c_15).symm.trans h
                refine lv_iconst (v := (iI 0)) hx hb dX1_add_123 (by decide) ?_
                exact J124 t_many (iI 0) t_many (mX9_put 30 t_many p4 t_hours) (mX9_put 30 t_many p3 t_miles) (mX9_put 30 t_many p1 t_oneEnd) (mX9_put 30 t_many p2 t_otherEnd) t_spikesSet _ _ _ h hP hD hS (lv_sub hl [0] rfl)
              · have h := (if_neg c_15).symm.trans h
                refine lv_iconst (v := (iI 1)) hx hb dX1_add_119 (by decide) ?_
                refine lv_goto (tgt := 124) hx hb dX1_add_120 (by decide) ?_
                exact J124 t_many (iI 1) t_many (mX9_put 30 t_many p4 t_hours) (mX9_put 30 t_many p3 t_miles) (mX9_put 30 t_many p1 t_oneEnd) (mX9_put 30 t_many p2 t_otherEnd) t_spikesSet _ _ _ h hP hD hS (lv_sub hl [0] rfl)
            · have h := (if_neg c_10).symm.trans h
              refine lv_bipush (v := (iI (-5))) hx hb dX1_add_54 (by decide) ?_
              exact hret _ _ ((iI (-5)), t_many, t_hours, t_miles, t_oneEnd, t_otherEnd, t_spikesSet) _ _ _ (Option.some.inj h) rfl rfl hP hS dX1_add_56
          · have h := (if_pos c_9).symm.trans h
            refine lv_iconst (v := (iI (-1))) hx hb dX1_add_43 (by decide) ?_
            exact hret _ _ ((iI (-1)), t_many, t_hours, t_miles, t_oneEnd, t_otherEnd, t_spikesSet) _ _ _ (Option.some.inj h) rfl rfl hP hS dX1_add_44
      · have h := (if_pos c_5).symm.trans h
        refine lv_iconst (v := (iI (-1))) hx hb dX1_add_19 (by decide) ?_
        exact hret _ _ ((iI (-1)), t_many, t_hours, t_miles, t_oneEnd, t_otherEnd, t_spikesSet) _ _ _ (Option.some.inj h) rfl rfl hP hS dX1_add_20
